/-! ===== the reader as a whole; the reference's acts ===== -/
section Reader2
variable {M0 : Mem} {w ti n use : Nat} {nm : Nat → Int32}
theorem sI_lt (hC : RC M0 w ti n use) {p c : Nat} (hc : c < 256) : sI n p (sgN (M0 13 w ti) n p) < nI c ↔ (sgN (M0 13 w ti) n p < c ∨ ¬ p < n) := by
  unfold sI
  by_cases z : p < n
  · rw [if_pos z]
    have := (sg_lt hC z).1
    rw [nI_ltI (by omega) (by omega)]
    omega
  · rw [if_neg z]
    refine ⟨fun _ => .inr z, fun _ => ?_⟩
    rw [fa_lt, nI_toInt (by omega)]
    have : (-1 : Int32).toInt = -1 := rfl
    omega
theorem sI_le (hC : RC M0 w ti n use) {p c : Nat} (hc : c < 256) : sI n p (sgN (M0 13 w ti) n p) ≤ nI c ↔ (sgN (M0 13 w ti) n p ≤ c ∨ ¬ p < n) := by
  unfold sI
  by_cases z : p < n
  · rw [if_pos z]
    have := (sg_lt hC z).1
    rw [nI_leI (by omega) (by omega)]
    omega
  · rw [if_neg z]
    refine ⟨fun _ => .inr z, fun _ => ?_⟩
    rw [fa_le, nI_toInt (by omega)]
    have : (-1 : Int32).toInt = -1 := rfl
    omega
theorem compared_ok (hC : RC M0 w ti n use) (S : Nat → Int32 → Mem → Option (Int32 × Mem)) (op : Int32) {P : Nat → RR} (hS : RK M0 w nm (S w op) P) : RK M0 w nm (mR_compared S w op) (pCmp (sgN (M0 13 w ti) n) P) := by
  intro M p h
  have hs := hS M p h
  unfold mR_compared mR_comparedb pCmp
  cases hP : P p with
  | inl q =>
    rw [hP] at hs
    obtain ⟨v, M', p', e, h', hq⟩ := hs
    rw [e]
    simp only [Option.bind_some]
    rw [h'.sign hC]
    simp only [Option.bind_some]
    rw [h'.2.2.1, if_neg (nI_pos (by omega))]
    exact ⟨v, M', p', rfl, h', hq⟩
  | inr r =>
    obtain ⟨c, p1⟩ := r
    rw [hP] at hs
    obtain ⟨v, M', e, h', hv⟩ := hs
    rw [e]
    simp only [Option.bind_some]
    rw [h'.sign hC]
    simp only [Option.bind_some]
    rw [h'.2.2.1, if_pos (by decide)]
    have c60 : sI n p1 (sgN (M0 13 w ti) n p1) = 60 ↔ sgN (M0 13 w ti) n p1 = 60 := sI_eq hC (c := 60) (by decide)
    have c61 : sI n p1 (sgN (M0 13 w ti) n p1) = 61 ↔ sgN (M0 13 w ti) n p1 = 61 := sI_eq hC (c := 61) (by decide)
    have c62 : sI n p1 (sgN (M0 13 w ti) n p1) = 62 ↔ sgN (M0 13 w ti) n p1 = 62 := sI_eq hC (c := 62) (by decide)
    have hcmp : isCmpB (sgN (M0 13 w ti) n p1) = true ↔ (sgN (M0 13 w ti) n p1 = 60 ∨ sgN (M0 13 w ti) n p1 = 61 ∨ sgN (M0 13 w ti) n p1 = 62) := by
      unfold isCmpB
      simp [Bool.or_eq_true, Nat.beq_eq]
    by_cases z : sgN (M0 13 w ti) n p1 = 60 ∨ sgN (M0 13 w ti) n p1 = 61 ∨ sgN (M0 13 w ti) n p1 = 62
    · show RP M0 w nm _ (if isCmpB (sgN (M0 13 w ti) n p1) = true then _ else _)
      rw [if_pos (hcmp.mpr z)]
      have hpn : p1 < n := by rcases z with z | z | z <;> exact sg_in z (by decide)
      have h2 := h'.next (show p1 < 50 by have := hC.2.2.2.1; omega)
      have hs2 := hS _ _ h2
      have key : RP M0 w nm (mR_compared_38 S w op v (sI n p1 (sgN (M0 13 w ti) n p1)) M') (match P (p1 + 1) with
        | .inl q => .inl q
        | .inr (c2, p2) => .inr (c ++ (c2 ++ [-100 - nI (sgN (M0 13 w ti) n p1)]), p2)) := by
        unfold mR_compared_38 mR_compared_38b mR_compared_106 mR_compared_106b
        cases hP2 : P (p1 + 1) with
        | inl q =>
          rw [hP2] at hs2
          obtain ⟨v2, M2, p2, e2, h3, hq⟩ := hs2
          have e2' : S w op (up M' 17 w 0 6 (M' 17 w 0 6 + 1)) = some (v2, M2) := e2
          simp only [e2', Option.bind_some, if_true, show ((1 : Int32) = 0) = False from eq_false (by decide), if_false]
          split
          · split
            · exact ⟨_, M2, p2, rfl, h3, hq⟩
            · exact ⟨_, M2, p2, rfl, h3, hq⟩
          · split
            · split
              · exact ⟨_, M2, p2, rfl, h3, hq⟩
              · exact ⟨_, M2, p2, rfl, h3, hq⟩
            · split
              · exact ⟨_, M2, p2, rfl, h3, hq⟩
              · exact ⟨_, M2, p2, rfl, h3, hq⟩
        | inr r2 =>
          obtain ⟨c2, p2⟩ := r2
          rw [hP2] at hs2
          obtain ⟨v2, M2, e2, h3, hv2⟩ := hs2
          have e2' : S w op (up M' 17 w 0 6 (M' 17 w 0 6 + 1)) = some (v2, M2) := e2
          simp only [e2', Option.bind_some, if_true, show ((1 : Int32) = 0) = False from eq_false (by decide), if_false]
          rcases z with z | z | z
          · obtain ⟨o1, o2, o3⟩ := opv (b := 60) (by omega)
            have hval := hv.op hv2 o1 o2 o3
            rw [z]
            have e60 : sI n p1 60 = 60 := by rw [z] at c60; exact c60.mpr rfl
            rw [e60, if_pos rfl]
            refine ⟨dn (nI 60) v v2, M2, ?_, h3, hval⟩
            show _ = some (if v < v2 then 1 else 0, M2)
            split <;> rfl
          · obtain ⟨o1, o2, o3⟩ := opv (b := 61) (by omega)
            have hval := hv.op hv2 o1 o2 o3
            rw [z]
            have e61 : sI n p1 61 = 61 := by rw [z] at c61; exact c61.mpr rfl
            rw [e61, if_neg (by decide), if_pos rfl]
            refine ⟨dn (nI 61) v v2, M2, ?_, h3, hval⟩
            show _ = some (if v = v2 then 1 else 0, M2)
            split <;> rfl
          · obtain ⟨o1, o2, o3⟩ := opv (b := 62) (by omega)
            have hval := hv.op hv2 o1 o2 o3
            rw [z]
            have e62 : sI n p1 62 = 62 := by rw [z] at c62; exact c62.mpr rfl
            rw [e62, if_neg (by decide), if_neg (by decide)]
            refine ⟨dn (nI 62) v v2, M2, ?_, h3, hval⟩
            show _ = some (if v ≤ v2 then 0 else 1, M2)
            split <;> rfl
      by_cases y1 : sI n p1 (sgN (M0 13 w ti) n p1) = 60
      · rw [if_pos y1]; exact key
      · rw [if_neg y1]
        by_cases y2 : sI n p1 (sgN (M0 13 w ti) n p1) = 61
        · rw [if_pos y2]; exact key
        · rw [if_neg y2]
          have y3 : sI n p1 (sgN (M0 13 w ti) n p1) = 62 := by
            rcases z with z | z | z
            · exact absurd (c60.mpr z) y1
            · exact absurd (c61.mpr z) y2
            · exact c62.mpr z
          rw [if_pos y3]; exact key
    · show RP M0 w nm _ (if isCmpB (sgN (M0 13 w ti) n p1) = true then _ else _)
      rw [if_neg (fun q => z (hcmp.mp q)), if_neg (fun q => z (.inl (c60.mp q))), if_neg (fun q => z (.inr (.inl (c61.mp q)))), if_neg (fun q => z (.inr (.inr (c62.mp q))))]
      exact ⟨v, M', rfl, h', hv⟩
theorem pNum_s (sg : Nat → Nat) (k v p : Nat) : pNum sg (k + 1) v p = if 48 ≤ sg p ∧ sg p ≤ 57 then pNum sg k (v * 10 + sg p - 48) (p + 1) else (v, p) := rfl
theorem number_loop (hC : RC M0 w ti n use) : ∀ (k d m v : Nat) (M : Mem) (p : Nat), d + k = 4 → k < m → v < 10 ^ d → RS M0 w M p (-1) → ∃ M', mR_number_4 m w (nI v) (nI d) M = some (nI (pNum (sgN (M0 13 w ti) n) k v p).1, M') ∧ RS M0 w M' (pNum (sgN (M0 13 w ti) n) k v p).2 (-1) ∧ (pNum (sgN (M0 13 w ti) n) k v p).1 < 10000 := by
  intro k
  induction k with
  | zero =>
    intro d m v M p hd hm hv h
    obtain ⟨m, rfl⟩ : ∃ j, m = j + 1 := ⟨m - 1, by omega⟩
    have e : d = 4 := by omega
    subst e
    refine ⟨M, ?_, h, hv⟩
    show mR_number_4b (mR_number_4 m) w (nI v) (nI 4) M = _
    unfold mR_number_4b
    rw [if_neg (by decide)]
    rfl
  | succ k ih =>
    intro d m v M p hd hm hv h
    obtain ⟨m, rfl⟩ : ∃ j, m = j + 1 := ⟨m - 1, by omega⟩
    have hp4 : 10 ^ d ≤ 1000 := by
      rcases (by omega : d = 0 ∨ d = 1 ∨ d = 2 ∨ d = 3) with rfl | rfl | rfl | rfl <;> decide
    rw [pNum_s]
    show ∃ M', mR_number_4b (mR_number_4 m) w (nI v) (nI d) M = _ ∧ _
    unfold mR_number_4b
    have c48 : sI n p (sgN (M0 13 w ti) n p) < 48 ↔ (sgN (M0 13 w ti) n p < 48 ∨ ¬ p < n) := sI_lt hC (c := 48) (by decide)
    have c57 : sI n p (sgN (M0 13 w ti) n p) ≤ 57 ↔ (sgN (M0 13 w ti) n p ≤ 57 ∨ ¬ p < n) := sI_le hC (c := 57) (by decide)
    have e256 : ¬ p < n → sgN (M0 13 w ti) n p = 256 := fun z => sg_end z
    rw [if_pos (show nI d < (4 : Int32) from nI_lt (b := 4) (by omega) (by decide)), h.sign hC]
    simp only [Option.bind_some, h.sign hC]
    by_cases z1 : sI n p (sgN (M0 13 w ti) n p) < 48
    · rw [if_pos z1, if_neg (by have := c48.mp z1; omega)]
      exact ⟨M, rfl, h, by omega⟩
    · rw [if_neg z1]
      have z1' : ¬ (sgN (M0 13 w ti) n p < 48 ∨ ¬ p < n) := fun q => z1 (c48.mpr q)
      have hpn : p < n := Classical.not_not.mp (fun q => z1' (.inr q))
      by_cases z2 : sI n p (sgN (M0 13 w ti) n p) ≤ 57
      · have z2' := c57.mp z2
        rw [if_pos z2, if_pos (by omega)]
        have hs : sI n p (sgN (M0 13 w ti) n p) = nI (sgN (M0 13 w ti) n p) := if_pos hpn
        have ev : nI v * 10 + nI (sgN (M0 13 w ti) n p) - 48 = nI (v * 10 + sgN (M0 13 w ti) n p - 48) := by
          have e10 : nI v * 10 = nI (v * 10) := pk_mul v 10
          rw [e10, nI_add]
          exact pk_sub (b := 48) (by omega)
        rw [hs, ev, nI_1]
        refine ih (d + 1) m _ _ (p + 1) (by omega) (by omega) ?_ (h.next (by have := hC.2.2.2.1; omega))
        rw [Nat.pow_succ]
        omega
      · rw [if_neg z2, if_neg (fun q => z2 (c57.mpr (.inl q.2)))]
        exact ⟨M, rfl, h, by omega⟩
theorem nameOf_eq (hC : RC M0 w ti n use) {M : Mem} {p : Nat} {ft : Int32} (h : RS M0 w M p ft) : mR_nameOf w (sI n p (sgN (M0 13 w ti) n p)) M = some (if nmN use (sgN (M0 13 w ti) n p) = 0 then -1 else nI (nmN use (sgN (M0 13 w ti) n p) - 1), M) := by
  have e2 : M 17 w 0 2 = nI use := (h.1 _ _ _ _ (by omega)).trans hC.2.2.2.2.1
  have c := fun {k : Nat} (hk : k < 256) => sI_eq hC (p := p) (c := k) hk
  have c104 := c (k := 104) (by decide)
  have c109 := c (k := 109) (by decide)
  have c115 := c (k := 115) (by decide)
  have c110 := c (k := 110) (by decide)
  have c112 := c (k := 112) (by decide)
  have c108 := c (k := 108) (by decide)
  have c111 := c (k := 111) (by decide)
  have c99 := c (k := 99) (by decide)
  unfold mR_nameOf nmN
  rw [e2]
  generalize sI n p (sgN (M0 13 w ti) n p) = x at *
  generalize sgN (M0 13 w ti) n p = s at *
  have c104 : x = 104 ↔ s = 104 := c104
  have c109 : x = 109 ↔ s = 109 := c109
  have c115 : x = 115 ↔ s = 115 := c115
  have c110 : x = 110 ↔ s = 110 := c110
  have c112 : x = 112 ↔ s = 112 := c112
  have c108 : x = 108 ↔ s = 108 := c108
  have c111 : x = 111 ↔ s = 111 := c111
  have c99 : x = 99 ↔ s = 99 := c99
  rcases (by have := hC.2.2.2.2.2; omega : use = 0 ∨ use = 1 ∨ use = 2 ∨ use = 3) with rfl | rfl | rfl | rfl
  · simp only [show (nI 0 = (0 : Int32)) = True from eq_true (by decide), show (nI 0 = (1 : Int32)) = False from eq_false (by decide), show (nI 0 = (2 : Int32)) = False from eq_false (by decide), show (nI 0 = (3 : Int32)) = False from eq_false (by decide), if_true, if_false, c104, c109, c115]
    by_cases z0 : s = 104
    · simp only [if_pos z0]; rfl
    · simp only [if_neg z0]
      by_cases z1 : s = 109
      · simp only [if_pos z1]; rfl
      · simp only [if_neg z1]
        by_cases z2 : s = 115
        · simp only [if_pos z2]; rfl
        · simp only [if_neg z2]
          rfl
  · simp only [show (nI 1 = (0 : Int32)) = False from eq_false (by decide), show (nI 1 = (1 : Int32)) = True from eq_true (by decide), show (nI 1 = (2 : Int32)) = False from eq_false (by decide), show (nI 1 = (3 : Int32)) = False from eq_false (by decide), if_true, if_false, c110, c112]
    simp only [show ((1 : Nat) = 0) = False from eq_false (by decide), show ((1 : Nat) = 1) = True from eq_true (by decide), show ((1 : Nat) = 2) = False from eq_false (by decide), if_true, if_false]
    by_cases z0 : s = 110
    · simp only [if_pos z0]; rfl
    · simp only [if_neg z0]
      by_cases z1 : s = 112
      · simp only [if_pos z1]; rfl
      · simp only [if_neg z1]
        rfl
  · simp only [show (nI 2 = (0 : Int32)) = False from eq_false (by decide), show (nI 2 = (1 : Int32)) = False from eq_false (by decide), show (nI 2 = (2 : Int32)) = True from eq_true (by decide), show (nI 2 = (3 : Int32)) = False from eq_false (by decide), if_true, if_false, c108, c111]
    simp only [show ((2 : Nat) = 0) = False from eq_false (by decide), show ((2 : Nat) = 1) = False from eq_false (by decide), show ((2 : Nat) = 2) = True from eq_true (by decide), if_true, if_false]
    by_cases z0 : s = 108
    · simp only [if_pos z0]; rfl
    · simp only [if_neg z0]
      by_cases z1 : s = 111
      · simp only [if_pos z1]; rfl
      · simp only [if_neg z1]
        rfl
  · simp only [show (nI 3 = (0 : Int32)) = False from eq_false (by decide), show (nI 3 = (1 : Int32)) = False from eq_false (by decide), show (nI 3 = (2 : Int32)) = False from eq_false (by decide), show (nI 3 = (3 : Int32)) = True from eq_true (by decide), if_true, if_false, c99]
    simp only [show ((3 : Nat) = 0) = False from eq_false (by decide), show ((3 : Nat) = 1) = False from eq_false (by decide), show ((3 : Nat) = 2) = False from eq_false (by decide), if_true, if_false]
    by_cases z0 : s = 99
    · simp only [if_pos z0]; rfl
    · simp only [if_neg z0]
      rfl
theorem nmN_le (use b : Nat) : nmN use b ≤ 3 := by
  unfold nmN
  repeat' split
  all_goals omega
/-- a number, a name, what is opened -/
theorem one_ok (hC : RC M0 w ti n use) (O : Nat → Int32 → Int32 → Mem → Option (Int32 × Mem)) (op : Int32) {inn : Option (Nat → RR)} (hO : ∀ M p, RS M0 w M p (-1) → (sgN (M0 13 w ti) n p = 33 → RP M0 w (nmM M0 w) (O w 33 op M) (pOne (sgN (M0 13 w ti) n) use inn p)) ∧ (sgN (M0 13 w ti) n p = 40 → RP M0 w (nmM M0 w) (O w 40 op M) (pOne (sgN (M0 13 w ti) n) use inn p))) : RK M0 w (nmM M0 w) (mR_single O w op) (pOne (sgN (M0 13 w ti) n) use inn) := by
  intro M p h
  unfold mR_single mR_singleb mR_single_22 mR_single_22b
  have c48 : sI n p (sgN (M0 13 w ti) n p) < 48 ↔ (sgN (M0 13 w ti) n p < 48 ∨ ¬ p < n) := sI_lt hC (c := 48) (by decide)
  have c57 : sI n p (sgN (M0 13 w ti) n p) ≤ 57 ↔ (sgN (M0 13 w ti) n p ≤ 57 ∨ ¬ p < n) := sI_le hC (c := 57) (by decide)
  have c33 : sI n p (sgN (M0 13 w ti) n p) = 33 ↔ sgN (M0 13 w ti) n p = 33 := sI_eq hC (c := 33) (by decide)
  have c40 : sI n p (sgN (M0 13 w ti) n p) = 40 ↔ sgN (M0 13 w ti) n p = 40 := sI_eq hC (c := 40) (by decide)
  have e256 : ¬ p < n → sgN (M0 13 w ti) n p = 256 := fun z => sg_end z
  obtain ⟨hO33, hO40⟩ := hO M p h
  rw [h.sign hC]
  simp only [Option.bind_some, bindE]
  have rest : ¬ (48 ≤ sgN (M0 13 w ti) n p ∧ sgN (M0 13 w ti) n p ≤ 57) → RP M0 w (nmM M0 w) (if sI n p (sgN (M0 13 w ti) n p) = 33 then O w (sI n p (sgN (M0 13 w ti) n p)) op M else if sI n p (sgN (M0 13 w ti) n p) = 40 then O w (sI n p (sgN (M0 13 w ti) n p)) op M else (mR_nameOf w (sI n p (sgN (M0 13 w ti) n p)) M).bind fun q3 => if q3.1 < 0 then some (0, up q3.2 17 w 0 7 (q3.2 17 w 0 6)) else if q3.1 = 0 then some (up q3.2 17 w 0 6 (q3.2 17 w 0 6 + 1) 17 w 0 3, up q3.2 17 w 0 6 (q3.2 17 w 0 6 + 1)) else if q3.1 = 1 then some (up q3.2 17 w 0 6 (q3.2 17 w 0 6 + 1) 17 w 0 4, up q3.2 17 w 0 6 (q3.2 17 w 0 6 + 1)) else some (up q3.2 17 w 0 6 (q3.2 17 w 0 6 + 1) 17 w 0 5, up q3.2 17 w 0 6 (q3.2 17 w 0 6 + 1))) (pOne (sgN (M0 13 w ti) n) use inn p) := by
    intro hnd
    by_cases z33 : sgN (M0 13 w ti) n p = 33
    · rw [if_pos (c33.mpr z33), c33.mpr z33]
      exact hO33 z33
    · rw [if_neg (fun q => z33 (c33.mp q))]
      by_cases z40 : sgN (M0 13 w ti) n p = 40
      · rw [if_pos (c40.mpr z40), c40.mpr z40]
        exact hO40 z40
      · rw [if_neg (fun q => z40 (c40.mp q)), nameOf_eq hC h]
        simp only [Option.bind_some]
        unfold pOne
        rw [if_neg hnd, if_neg z33, if_neg z40]
        have hle := nmN_le use (sgN (M0 13 w ti) n p)
        by_cases zn : nmN use (sgN (M0 13 w ti) n p) = 0
        · rw [if_pos zn, if_pos zn, if_pos (by decide)]
          exact ⟨0, _, p, rfl, h.flt, h.2.2.2⟩
        · rw [if_neg zn, if_neg zn, if_neg (nI_pos (by omega))]
          have hpn : p < n := by
            by_cases q : p < n
            · exact q
            · exfalso
              refine zn ?_
              rw [e256 q]
              rcases (by have := hC.2.2.2.2.2; omega : use = 0 ∨ use = 1 ∨ use = 2 ∨ use = 3) with rfl | rfl | rfl | rfl <;> rfl
          have h' := h.next (by have := hC.2.2.2.1; omega)
          have hval := Val.name (nm := nmM M0 w) (k := nmN use (sgN (M0 13 w ti) n p)) (by omega) hle
          have rd : ∀ k, k = 3 ∨ k = 4 ∨ k = 5 → up M 17 w 0 6 (M 17 w 0 6 + 1) 17 w 0 k = M0 17 w 0 k := fun k hk => by rw [up_ne (by omega)]; exact h.1 _ _ _ _ (by omega)
          rcases (by omega : nmN use (sgN (M0 13 w ti) n p) = 1 ∨ nmN use (sgN (M0 13 w ti) n p) = 2 ∨ nmN use (sgN (M0 13 w ti) n p) = 3) with e | e | e
          · rw [e] at hval ⊢
            rw [if_pos (by decide), rd 3 (by omega)]
            exact ⟨_, _, rfl, h', hval⟩
          · rw [e] at hval ⊢
            rw [if_neg (by decide), if_pos (by decide), rd 4 (by omega)]
            exact ⟨_, _, rfl, h', hval⟩
          · rw [e] at hval ⊢
            rw [if_neg (by decide), if_neg (by decide), rd 5 (by omega)]
            exact ⟨_, _, rfl, h', hval⟩
  by_cases z1 : sI n p (sgN (M0 13 w ti) n p) < 48
  · rw [if_pos z1]
    exact rest (by have := c48.mp z1; omega)
  · rw [if_neg z1]
    have z1' : ¬ (sgN (M0 13 w ti) n p < 48 ∨ ¬ p < n) := fun q => z1 (c48.mpr q)
    by_cases z2 : sI n p (sgN (M0 13 w ti) n p) ≤ 57
    · rw [if_pos z2]
      have hd : 48 ≤ sgN (M0 13 w ti) n p ∧ sgN (M0 13 w ti) n p ≤ 57 := by have := c57.mp z2; omega
      unfold pOne
      rw [if_pos hd]
      obtain ⟨M', e, h', hb⟩ := number_loop hC 4 0 fuel 0 M p (by omega) (by unfold fuel; omega) (by decide) h
      exact ⟨_, M', e, h', Val.num (by omega)⟩
    · rw [if_neg z2]
      exact rest (fun q => z2 (c57.mpr (.inl q.2)))
/-- all levels, by how many may be opened yet -/
theorem levels_ok (hC : RC M0 w ti n use) {N : Nat} {op : Int32} {P : Nat → RR} (hS : RK M0 w nm (fun M => g1 N 5 w op 0 M) P) : RK M0 w nm (fun M => g1 (N + 5) 0 w op 0 M) (pOr (sgN (M0 13 w ti) n) P) := by
  have h4 : RK M0 w nm (fun M => g1 (N + 1) 4 w op 0 M) (pMul (sgN (M0 13 w ti) n) P) := mR_multiplied_ok hC (fun w x1 M => g1 N 5 w x1 0 M) op hS
  have h3 : RK M0 w nm (fun M => g1 (N + 2) 3 w op 0 M) (pAdd (sgN (M0 13 w ti) n) P) := mR_added_ok hC (fun w x1 M => g1 (N + 1) 4 w x1 0 M) op h4
  have h2 : RK M0 w nm (fun M => g1 (N + 3) 2 w op 0 M) (pRel (sgN (M0 13 w ti) n) P) := compared_ok hC (fun w x1 M => g1 (N + 2) 3 w x1 0 M) op h3
  have h1 : RK M0 w nm (fun M => g1 (N + 4) 1 w op 0 M) (pAnd (sgN (M0 13 w ti) n) P) := mR_both_ok hC (fun w x1 M => g1 (N + 3) 2 w x1 0 M) op h2
  exact mR_either_ok hC (fun w x1 M => g1 (N + 4) 1 w x1 0 M) op h1
theorem sing_ok (hC : RC M0 w ti n use) : ∀ (o N : Nat), o ≤ 5 → RK M0 w (nmM M0 w) (fun M => g1 (N + 7 * o + 2) 5 w (nI (5 - o)) 0 M) (pSing (sgN (M0 13 w ti) n) use o) := by
  intro o
  induction o with
  | zero =>
    intro N _
    show RK M0 w (nmM M0 w) (fun M => mR_single (fun w0 x1 x2 M => g1 (N + 1) 6 w0 x1 x2 M) w (nI 5) M) (pOne (sgN (M0 13 w ti) n) use none)
    refine one_ok hC _ (nI 5) (fun M p h => ?_)
    have e : ∀ s, g1 (N + 1) 6 w s (nI 5) M = some (0, up M 17 w 0 7 (M 17 w 0 6)) := by
      intro s
      show mR_opened _ _ w s (nI 5) M = _
      unfold mR_opened
      rw [if_neg (by decide)]
    constructor
    · intro z
      rw [e]
      unfold pOne
      rw [if_neg (by omega), if_pos z]
      exact ⟨0, _, p, rfl, h.flt, h.2.2.2⟩
    · intro z
      rw [e]
      unfold pOne
      rw [if_neg (by omega), if_neg (by omega), if_pos z]
      exact ⟨0, _, p, rfl, h.flt, h.2.2.2⟩
  | succ o ih =>
    intro N ho
    have eop : nI (5 - (o + 1)) + 1 = nI (5 - o) := by rw [nI_1]; congr 1; omega
    have hlt : nI (5 - (o + 1)) < (5 : Int32) := nI_lt (b := 5) (by omega) (by decide)
    show RK M0 w (nmM M0 w) (fun M => mR_single (fun w0 x1 x2 M => g1 (N + 7 * o + 8) 6 w0 x1 x2 M) w (nI (5 - (o + 1))) M) (pOne (sgN (M0 13 w ti) n) use (some (pSing (sgN (M0 13 w ti) n) use o)))
    refine one_ok hC _ _ (fun M p h => ?_)
    have hsing := ih (N + 5) (by omega)
    have hor := levels_ok hC (ih N (by omega))
    have hn50 := hC.2.2.2.1
    constructor
    · intro z
      have hpn : p < n := sg_in z (by decide)
      have h' := h.next (by omega)
      have hs := hsing _ _ h'
      rw [show N + 5 + 7 * o + 2 = N + 7 * o + 7 by omega] at hs
      show RP M0 w (nmM M0 w) (mR_opened (fun w0 x1 M => g1 (N + 7 * o + 7) 0 w0 x1 0 M) (fun w0 x1 M => g1 (N + 7 * o + 7) 5 w0 x1 0 M) w 33 (nI (5 - (o + 1))) M) _
      unfold mR_opened pOne
      rw [if_pos hlt, if_pos rfl, if_neg (by omega), if_pos z, eop]
      show RP M0 w (nmM M0 w) _ (match pSing (sgN (M0 13 w ti) n) use o (p + 1) with
        | .inl q => .inl q
        | .inr (c, p2) => .inr (c ++ [-133], p2))
      cases hP : pSing (sgN (M0 13 w ti) n) use o (p + 1) with
      | inl q =>
        rw [hP] at hs
        obtain ⟨v, M', p', e, h2, hq⟩ := hs
        have e' : g1 (N + 7 * o + 7) 5 w (nI (5 - o)) 0 (up M 17 w 0 6 (M 17 w 0 6 + 1)) = some (v, M') := e
        simp only [e', Option.bind_some]
        by_cases zv : v = 0
        · rw [if_pos zv]; exact ⟨_, M', p', rfl, h2, hq⟩
        · rw [if_neg zv]; exact ⟨_, M', p', rfl, h2, hq⟩
      | inr r =>
        obtain ⟨c, p2⟩ := r
        rw [hP] at hs
        obtain ⟨v, M', e, h2, hv⟩ := hs
        have e' : g1 (N + 7 * o + 7) 5 w (nI (5 - o)) 0 (up M 17 w 0 6 (M 17 w 0 6 + 1)) = some (v, M') := e
        simp only [e', Option.bind_some]
        have hval := hv.not
        by_cases zv : v = 0
        · rw [if_pos zv] at hval ⊢; exact ⟨_, M', rfl, h2, hval⟩
        · rw [if_neg zv] at hval ⊢; exact ⟨_, M', rfl, h2, hval⟩
    · intro z
      have hpn : p < n := sg_in z (by decide)
      have h' := h.next (by omega)
      have hs := hor _ _ h'
      rw [show N + 7 * o + 2 + 5 = N + 7 * o + 7 by omega] at hs
      show RP M0 w (nmM M0 w) (mR_opened (fun w0 x1 M => g1 (N + 7 * o + 7) 0 w0 x1 0 M) (fun w0 x1 M => g1 (N + 7 * o + 7) 5 w0 x1 0 M) w 40 (nI (5 - (o + 1))) M) _
      unfold mR_opened pOne
      rw [if_pos hlt, if_neg (by decide), if_neg (by omega), if_neg (by omega), if_pos z, eop]
      show RP M0 w (nmM M0 w) _ (match pOr (sgN (M0 13 w ti) n) (pSing (sgN (M0 13 w ti) n) use o) (p + 1) with
        | .inl q => .inl q
        | .inr (c, p2) => if sgN (M0 13 w ti) n p2 = 41 then .inr (c, p2 + 1) else .inl p2)
      cases hP : pOr (sgN (M0 13 w ti) n) (pSing (sgN (M0 13 w ti) n) use o) (p + 1) with
      | inl q =>
        rw [hP] at hs
        obtain ⟨v, M', p', e, h2, hq⟩ := hs
        have e' : g1 (N + 7 * o + 7) 0 w (nI (5 - o)) 0 (up M 17 w 0 6 (M 17 w 0 6 + 1)) = some (v, M') := e
        simp only [e', Option.bind_some]
        have hf : ¬ M' 17 w 0 7 < 0 := by rw [h2.2.2.1]; exact nI_pos (by omega)
        rw [if_neg hf, if_neg hf]
        exact ⟨_, M', p', rfl, h2, hq⟩
      | inr r =>
        obtain ⟨c, p2⟩ := r
        rw [hP] at hs
        obtain ⟨v, M', e, h2, hv⟩ := hs
        have e' : g1 (N + 7 * o + 7) 0 w (nI (5 - o)) 0 (up M 17 w 0 6 (M 17 w 0 6 + 1)) = some (v, M') := e
        simp only [e', Option.bind_some]
        have hf : M' 17 w 0 7 < 0 := by rw [h2.2.2.1]; decide
        rw [if_pos hf, h2.sign hC]
        simp only [Option.bind_some]
        have c41 : sI n p2 (sgN (M0 13 w ti) n p2) = 41 ↔ sgN (M0 13 w ti) n p2 = 41 := sI_eq hC (c := 41) (by decide)
        by_cases z41 : sgN (M0 13 w ti) n p2 = 41
        · rw [if_pos (c41.mpr z41)]
          show RP M0 w (nmM M0 w) _ (if sgN (M0 13 w ti) n p2 = 41 then _ else _)
          rw [if_pos z41]
          have : p2 < n := sg_in z41 (by decide)
          exact ⟨v, _, rfl, h2.next (by omega), hv⟩
        · rw [if_neg (fun q => z41 (c41.mp q)), if_pos hf]
          show RP M0 w (nmM M0 w) _ (if sgN (M0 13 w ti) n p2 = 41 then _ else _)
          rw [if_neg z41]
          exact ⟨v, _, p2, rfl, h2.flt, h2.2.2.2⟩
/-- a whole text -/
theorem either_ok (hC : RC M0 w ti n use) : RK M0 w (nmM M0 w) (fun M => xR_either w 0 M) (pOr (sgN (M0 13 w ti) n) (pSing (sgN (M0 13 w ti) n) use 5)) := levels_ok hC (N := 55) (sing_ok hC 5 18 (by omega))
end Reader2
