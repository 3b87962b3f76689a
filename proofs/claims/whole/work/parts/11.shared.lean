/-! ===== what the rows below share ===== -/
def rtI : Rt (Int32 × Mem)
  | .inl x, M => some (x, M)
  | _, _ => none
def rtV : Rt Mem
  | .inr (.inr (.inr _)), M => some M
  | _, _ => none
def rtL : Rt (Int64 × Mem)
  | .inr (.inl x), M => some (x, M)
  | _, _ => none
def rtB : Rt (Nat × Mem)
  | .inr (.inr (.inl (15, 0, i))), M => some (i, M)
  | _, _ => none
def outI (q : Int32 × Mem) : AV × Mem := (aI q.1, q.2)
def outV (q : Mem) : AV × Mem := (aU, q)
def outL (q : Int64 × Mem) : AV × Mem := (aL q.1, q.2)
def outB (q : Nat × Mem) : AV × Mem := (aR (15, 0, q.1), q.2)
theorem hrtI {res : Int32 × Mem} (v : AV) (M : Mem) (h : rtI v M = some res) : outI res = (v, M) := by
  unfold rtI at h; split at h
  · cases h; rfl
  · cases h
theorem hrtV {res : Mem} (v : AV) (M : Mem) (h : rtV v M = some res) : outV res = (v, M) := by
  unfold rtV at h; split at h
  · cases h; rfl
  · cases h
theorem hrtL {res : Int64 × Mem} (v : AV) (M : Mem) (h : rtL v M = some res) : outL res = (v, M) := by
  unfold rtL at h; split at h
  · cases h; rfl
  · cases h
theorem hrtB {res : Nat × Mem} (v : AV) (M : Mem) (h : rtB v M = some res) : outB res = (v, M) := by
  unfold rtB at h; split at h
  · cases h; rfl
  · cases h
theorem ak {E : EV} {l : Launch} {d : Nat} {own : String} {bytes : ByteArray} {nL : Nat} {ret : Option FieldType} {α : Type} {out : α → AV × Mem} {x : Ent α} {r : List (Ent α)} (h : SemOK E l d own bytes nL ret out x) (h2 : AllOK E l d own bytes nL ret out r) : AllOK E l d own bytes nL ret out (x :: r) := ⟨h, h2⟩
def sMax {α : Type} : Sem α := fun nx _ _ ls st M => match st with
  | .inl y :: .inl x :: st => match Nat.ble (catS st) 8 with
    | true => nx ls (aI (if x < y then y else x) :: st) M
    | false => none
  | _ => none
def sMin {α : Type} : Sem α := fun nx _ _ ls st M => match st with
  | .inl y :: .inl x :: st => match Nat.ble (catS st) 8 with
    | true => nx ls (aI (if y < x then y else x) :: st) M
    | false => none
  | _ => none
def sAbs {α : Type} : Sem α := fun nx _ _ ls st M => match st with
  | .inl x :: st => match Nat.ble (catS st) 8 with
    | true => nx ls (aI (if 0 ≤ x then x else 0 - x) :: st) M
    | false => none
  | _ => none
section OkMath
variable {E : EV} {l : Launch} {d : Nat} {own : String} {bytes : ByteArray} {nL : Nat} {ret : Option FieldType} {α : Type} {out : α → AV × Mem} {b : Bool} {pc idx : Nat}
theorem ok_mmax (hdd : 1 ≤ d) (hl : Cond.methodLink own idx Lib.Math.max.name ∈ tbT) (h1 : Cond.static Lib.Math.max.name ∈ tbT) (h2 : Cond.initialized "java/lang/Math" ∈ tbT) (h3 : Cond.code Lib.Math.max.name Lib.Math.max.code 2 (some .int) ∈ tbT) (hd : decode bytes pc = .ok (.invokestatic idx, 3)) : SemOK E l d own bytes nL ret out (b, pc, 3, sMax) := by
  intro p e s m args below meth c C nx jp rt als st M res h hn hj hr H locs ls hP hS hM hVa hVs hL
  simp only [sMax] at h
  split at h
  · split at h
    · rename_i hcat
      have hc := Nat.le_of_ble_eq_true hcat
      exact va_mmax C.1 C.2.1 (by rw [C.2.2.1]; exact hL.2.1.symm) C.2.2.2.1 (C.2.2.2.2.1 _ hl) (C.2.2.2.2.1 _ h1) (C.2.2.2.2.1 _ h2) (C.2.2.2.2.1 _ h3) hdd (by rw [catS_sum]; show _ ≤ 40 * d; omega) (Nat.zero_le _) (Nat.zero_le _) hd (hn _ _ _ h H locs ls hP hS hM hVa (List.forall_mem_cons.mpr ⟨trivial, fun a ha => hVs a (List.mem_cons_of_mem _ (List.mem_cons_of_mem _ ha))⟩) hL)
    · cases h
  · cases h
theorem ok_mmin (hdd : 1 ≤ d) (hl : Cond.methodLink own idx Lib.Math.min.name ∈ tbT) (h1 : Cond.static Lib.Math.min.name ∈ tbT) (h2 : Cond.initialized "java/lang/Math" ∈ tbT) (h3 : Cond.code Lib.Math.min.name Lib.Math.min.code 2 (some .int) ∈ tbT) (hd : decode bytes pc = .ok (.invokestatic idx, 3)) : SemOK E l d own bytes nL ret out (b, pc, 3, sMin) := by
  intro p e s m args below meth c C nx jp rt als st M res h hn hj hr H locs ls hP hS hM hVa hVs hL
  simp only [sMin] at h
  split at h
  · split at h
    · rename_i hcat
      have hc := Nat.le_of_ble_eq_true hcat
      exact va_mmin C.1 C.2.1 (by rw [C.2.2.1]; exact hL.2.1.symm) C.2.2.2.1 (C.2.2.2.2.1 _ hl) (C.2.2.2.2.1 _ h1) (C.2.2.2.2.1 _ h2) (C.2.2.2.2.1 _ h3) hdd (by rw [catS_sum]; show _ ≤ 40 * d; omega) (Nat.zero_le _) (Nat.zero_le _) hd (hn _ _ _ h H locs ls hP hS hM hVa (List.forall_mem_cons.mpr ⟨trivial, fun a ha => hVs a (List.mem_cons_of_mem _ (List.mem_cons_of_mem _ ha))⟩) hL)
    · cases h
  · cases h
theorem ok_mabs (hdd : 1 ≤ d) (hl : Cond.methodLink own idx Lib.Math.abs.name ∈ tbT) (h1 : Cond.static Lib.Math.abs.name ∈ tbT) (h2 : Cond.initialized "java/lang/Math" ∈ tbT) (h3 : Cond.code Lib.Math.abs.name Lib.Math.abs.code 1 (some .int) ∈ tbT) (hd : decode bytes pc = .ok (.invokestatic idx, 3)) : SemOK E l d own bytes nL ret out (b, pc, 3, sAbs) := by
  intro p e s m args below meth c C nx jp rt als st M res h hn hj hr H locs ls hP hS hM hVa hVs hL
  simp only [sAbs] at h
  split at h
  · split at h
    · rename_i hcat
      have hc := Nat.le_of_ble_eq_true hcat
      exact va_mabs C.1 C.2.1 (by rw [C.2.2.1]; exact hL.2.1.symm) C.2.2.2.1 (C.2.2.2.2.1 _ hl) (C.2.2.2.2.1 _ h1) (C.2.2.2.2.1 _ h2) (C.2.2.2.2.1 _ h3) hdd (by rw [catS_sum]; show _ ≤ 40 * d; omega) (Nat.zero_le _) (Nat.zero_le _) hd (hn _ _ _ h H locs ls hP hS hM hVa (List.forall_mem_cons.mpr ⟨trivial, fun a ha => hVs a (List.mem_cons_of_mem _ ha)⟩) hL)
    · cases h
  · cases h
end OkMath
theorem tb_at (i : Nat) {w : Cond} (h : lw_tbl[i]? = some w) (hg : (goodWord w || nestWord w) = true) : w ∈ tbT := List.mem_filter.mpr ⟨List.mem_of_getElem? h, hg⟩

theorem ck0 : CK 0 RX0 TX0 12 tyX0 := ⟨rfl, iX0, tyX0_ok, nmX0⟩
theorem ck1 : CK 1 RX1 TX1 14 tyX1 := ⟨rfl, iX1, tyX1_ok, nmX1⟩
theorem ck2 : CK 2 RX2 TX2 5 tyX2 := ⟨rfl, iX2, tyX2_ok, nmX2⟩
theorem ck3 : CK 3 RX3 TX3 2 tyX3 := ⟨rfl, iX3, tyX3_ok, nmX3⟩
theorem ck4 : CK 4 RX4 TX4 8 tyX4 := ⟨rfl, iX4, tyX4_ok, nmX4⟩
theorem ck5 : CK 5 RX5 TX5 3 tyX5 := ⟨rfl, iX5, tyX5_ok, nmX5⟩
theorem ck6 : CK 6 RX6 TX6 4 tyX6 := ⟨rfl, iX6, tyX6_ok, nmX6⟩
theorem ck7 : CK 7 RX7 TX7 4 tyX7 := ⟨rfl, iX7, tyX7_ok, nmX7⟩
theorem ck8 : CK 8 RX8 TX8 5 tyX8 := ⟨rfl, iX8, tyX8_ok, nmX8⟩
theorem ck9 : CK 9 RX9 TX9 18 tyX9 := ⟨rfl, iX9, tyX9_ok, nmX9⟩
theorem ck10 : CK 10 RX10 TX10 8 tyX10 := ⟨rfl, iX10, tyX10_ok, nmX10⟩
theorem ck11 : CK 11 RX11 TX11 27 tyX11 := ⟨rfl, iX11, tyX11_ok, nmX11⟩
theorem kd15 : kd 15 = (0, 0, 12) := by decide
theorem kd6 : kd 6 = (0, 1, 14) := by decide
theorem kd10 : kd 10 = (0, 2, 5) := by decide
theorem kd23 : kd 23 = (0, 3, 2) := by decide
theorem kd17 : kd 17 = (0, 4, 8) := by decide
theorem kd19 : kd 19 = (0, 5, 3) := by decide
theorem kd12 : kd 12 = (0, 6, 4) := by decide
theorem kd3 : kd 3 = (0, 7, 4) := by decide
theorem kd21 : kd 21 = (0, 8, 5) := by decide
theorem kd1 : kd 1 = (0, 9, 18) := by decide
theorem kd0 : kd 0 = (0, 10, 8) := by decide
theorem kd40 : kd 40 = (0, 11, 27) := by decide
theorem kd4 : kd 4 = (1, 64, 0) := by decide
theorem kd7 : kd 7 = (1, 12, 0) := by decide
theorem kd8 : kd 8 = (1, 8, 0) := by decide
theorem kd16 : kd 16 = (1, 20, 0) := by decide
theorem kd20 : kd 20 = (1, 24, 0) := by decide
theorem kd22 : kd 22 = (1, 40, 0) := by decide
theorem kd24 : kd 24 = (1, 256, 0) := by decide
theorem kd25 : kd 25 = (1, 36, 0) := by decide
theorem kd26 : kd 26 = (1, 6, 0) := by decide
theorem kd41 : kd 41 = (1, 1502, 0) := by decide
theorem kd42 : kd 42 = (1, 1502, 0) := by decide
theorem kd43 : kd 43 = (1, 1502, 0) := by decide
theorem kd44 : kd 44 = (1, 6, 0) := by decide
theorem kd46 : kd 46 = (1, 8, 0) := by decide
theorem kd47 : kd 47 = (1, 50, 0) := by decide
theorem kd48 : kd 48 = (1, 50, 0) := by decide
theorem kd49 : kd 49 = (1, 50, 0) := by decide
theorem kd50 : kd 50 = (1, 3, 0) := by decide
theorem kd54 : kd 54 = (1, 5, 0) := by decide
theorem kd55 : kd 55 = (1, 5, 0) := by decide
theorem kd57 : kd 57 = (1, 5, 0) := by decide
theorem kd58 : kd 58 = (1, 5, 0) := by decide
theorem kd59 : kd 59 = (1, 5, 0) := by decide
theorem kd62 : kd 62 = (1, 40, 0) := by decide
theorem kd64 : kd 64 = (1, 4, 0) := by decide
theorem kd65 : kd 65 = (1, 4, 0) := by decide
theorem kd66 : kd 66 = (1, 96, 0) := by decide
theorem kd67 : kd 67 = (1, 24, 0) := by decide
theorem kd2 : kd 2 = (3, 3, 8) := by decide
theorem kd5 : kd 5 = (3, 6, 5) := by decide
theorem kd9 : kd 9 = (3, 10, 40) := by decide
theorem kd11 : kd 11 = (3, 12, 12) := by decide
theorem kd14 : kd 14 = (3, 15, 24) := by decide
theorem kd18 : kd 18 = (3, 19, 4) := by decide
theorem vf_0_0 {E : EV} (hsd : E.2.2.2 = 0) : ∀ w i M, okM M → (0, w, i) ∈ Ls E.2.2.2 → vA E.2.2.2 (gvF 0 w i 0 M) := by
  intro w i M hM h
  rw [hsd] at h ⊢
  obtain ⟨h1, h2, h3⟩ := mem_Ls.mp h
  exact Or.inl (mem_Ls.mpr ⟨by decide, by decide, by decide⟩)
theorem vf_0_1 {E : EV} (hsd : E.2.2.2 = 0) : ∀ w i M, okM M → (0, w, i) ∈ Ls E.2.2.2 → vA E.2.2.2 (gvF 0 w i 1 M) := by
  intro w i M hM h
  rw [hsd] at h ⊢
  obtain ⟨h1, h2, h3⟩ := mem_Ls.mp h
  exact Or.inl (mem_Ls.mpr ⟨by decide, by decide, by decide⟩)
theorem vf_0_2 {E : EV} (hsd : E.2.2.2 = 0) : ∀ w i M, okM M → (0, w, i) ∈ Ls E.2.2.2 → vA E.2.2.2 (gvF 0 w i 2 M) := by
  intro w i M hM h
  rw [hsd] at h ⊢
  obtain ⟨h1, h2, h3⟩ := mem_Ls.mp h
  exact Or.inl (mem_Ls.mpr ⟨by decide, by decide, by decide⟩)
theorem vf_0_3 {E : EV} (hsd : E.2.2.2 = 0) : ∀ w i M, okM M → (0, w, i) ∈ Ls E.2.2.2 → vA E.2.2.2 (gvF 0 w i 3 M) := by
  intro w i M hM h
  rw [hsd] at h ⊢
  obtain ⟨h1, h2, h3⟩ := mem_Ls.mp h
  exact Or.inl (mem_Ls.mpr ⟨by decide, by decide, by decide⟩)
theorem vf_0_4 {E : EV} (hsd : E.2.2.2 = 0) : ∀ w i M, okM M → (0, w, i) ∈ Ls E.2.2.2 → vA E.2.2.2 (gvF 0 w i 4 M) := by
  intro w i M hM h
  rw [hsd] at h ⊢
  obtain ⟨h1, h2, h3⟩ := mem_Ls.mp h
  exact Or.inl (mem_Ls.mpr ⟨by decide, by decide, by decide⟩)
theorem vf_0_5 {E : EV} (hsd : E.2.2.2 = 0) : ∀ w i M, okM M → (0, w, i) ∈ Ls E.2.2.2 → vA E.2.2.2 (gvF 0 w i 5 M) := by
  intro w i M hM h
  rw [hsd] at h ⊢
  obtain ⟨h1, h2, h3⟩ := mem_Ls.mp h
  exact Or.inl (mem_Ls.mpr ⟨by decide, by decide, by decide⟩)
theorem vf_0_6 {E : EV} (hsd : E.2.2.2 = 0) : ∀ w i M, okM M → (0, w, i) ∈ Ls E.2.2.2 → vA E.2.2.2 (gvF 0 w i 6 M) := by
  intro w i M hM h
  rw [hsd] at h ⊢
  obtain ⟨h1, h2, h3⟩ := mem_Ls.mp h
  exact Or.inl (mem_Ls.mpr ⟨by decide, by decide, by decide⟩)
theorem vf_1_1 {E : EV} (hsd : E.2.2.2 = 0) : ∀ w i M, okM M → (1, w, i) ∈ Ls E.2.2.2 → vA E.2.2.2 (gvF 1 w i 1 M) := by
  intro w i M hM h
  rw [hsd] at h ⊢
  obtain ⟨h1, h2, h3⟩ := mem_Ls.mp h
  exact Or.inl (mem_Ls.mpr ⟨by decide, h2, by decide⟩)
theorem vf_1_4 {E : EV} (hsd : E.2.2.2 = 0) : ∀ w i M, okM M → (1, w, i) ∈ Ls E.2.2.2 → vA E.2.2.2 (gvF 1 w i 4 M) := by
  intro w i M hM h
  rw [hsd] at h ⊢
  obtain ⟨h1, h2, h3⟩ := mem_Ls.mp h
  exact Or.inl (mem_Ls.mpr ⟨by decide, h2, by decide⟩)
theorem vf_1_5 {E : EV} (hsd : E.2.2.2 = 0) : ∀ w i M, okM M → (1, w, i) ∈ Ls E.2.2.2 → vA E.2.2.2 (gvF 1 w i 5 M) := by
  intro w i M hM h
  rw [hsd] at h ⊢
  obtain ⟨h1, h2, h3⟩ := mem_Ls.mp h
  exact Or.inl (mem_Ls.mpr ⟨by decide, h2, by decide⟩)
theorem vf_1_7 {E : EV} (hsd : E.2.2.2 = 0) : ∀ w i M, okM M → (1, w, i) ∈ Ls E.2.2.2 → vA E.2.2.2 (gvF 1 w i 7 M) := by
  intro w i M hM h
  rw [hsd] at h ⊢
  obtain ⟨h1, h2, h3⟩ := mem_Ls.mp h
  exact Or.inl (mem_Ls.mpr ⟨by decide, h2, by decide⟩)
theorem vf_1_9 {E : EV} (hsd : E.2.2.2 = 0) : ∀ w i M, okM M → (1, w, i) ∈ Ls E.2.2.2 → vA E.2.2.2 (gvF 1 w i 9 M) := by
  intro w i M hM h
  rw [hsd] at h ⊢
  obtain ⟨h1, h2, h3⟩ := mem_Ls.mp h
  exact Or.inl (mem_Ls.mpr ⟨by decide, h2, by decide⟩)
theorem vf_1_11 {E : EV} (hsd : E.2.2.2 = 0) : ∀ w i M, okM M → (1, w, i) ∈ Ls E.2.2.2 → vA E.2.2.2 (gvF 1 w i 11 M) := by
  intro w i M hM h
  rw [hsd] at h ⊢
  obtain ⟨h1, h2, h3⟩ := mem_Ls.mp h
  exact Or.inl (mem_Ls.mpr ⟨by decide, h2, by decide⟩)
theorem vf_1_15 {E : EV} (hsd : E.2.2.2 = 0) : ∀ w i M, okM M → (1, w, i) ∈ Ls E.2.2.2 → vA E.2.2.2 (gvF 1 w i 15 M) := by
  intro w i M hM h
  rw [hsd] at h ⊢
  obtain ⟨h1, h2, h3⟩ := mem_Ls.mp h
  exact Or.inl (mem_Ls.mpr ⟨by decide, h2, by decide⟩)
theorem vf_1_17 {E : EV} (hsd : E.2.2.2 = 0) : ∀ w i M, okM M → (1, w, i) ∈ Ls E.2.2.2 → vA E.2.2.2 (gvF 1 w i 17 M) := by
  intro w i M hM h
  rw [hsd] at h ⊢
  obtain ⟨h1, h2, h3⟩ := mem_Ls.mp h
  exact Or.inl (mem_Ls.mpr ⟨by decide, h2, by decide⟩)
theorem vf_1_13 {E : EV} (hsd : E.2.2.2 = 0) : ∀ w i M, okM M → (1, w, i) ∈ Ls E.2.2.2 → vA E.2.2.2 (gvF 1 w i 13 M) := by
  intro w i M hM h
  rw [hsd] at h ⊢
  obtain ⟨h1, h2, h3⟩ := mem_Ls.mp h
  exact Or.inl (mem_Ls.mpr ⟨by decide, h2, by decide⟩)
theorem vf_6_12 {E : EV} (hsd : E.2.2.2 = 0) : ∀ w i M, okM M → (6, w, i) ∈ Ls E.2.2.2 → vA E.2.2.2 (gvF 6 w i 12 M) := by
  intro w i M hM h
  rw [hsd] at h ⊢
  obtain ⟨h1, h2, h3⟩ := mem_Ls.mp h
  exact Or.inl (mem_Ls.mpr ⟨by decide, h2, h3⟩)
theorem vf_6_13 {E : EV} (hsd : E.2.2.2 = 0) : ∀ w i M, okM M → (6, w, i) ∈ Ls E.2.2.2 → vA E.2.2.2 (gvF 6 w i 13 M) := by
  intro w i M hM h
  rw [hsd] at h ⊢
  obtain ⟨h1, h2, h3⟩ := mem_Ls.mp h
  exact Or.inl (mem_Ls.mpr ⟨by decide, h2, h3⟩)
theorem vf_12_3 {E : EV} (hsd : E.2.2.2 = 0) : ∀ w i M, okM M → (12, w, i) ∈ Ls E.2.2.2 → vA E.2.2.2 (gvF 12 w i 3 M) := by
  intro w i M hM h
  rw [hsd] at h ⊢
  obtain ⟨h1, h2, h3⟩ := mem_Ls.mp h
  exact Or.inl (mem_Ls.mpr ⟨by decide, h2, Nat.lt_trans h3 (by decide)⟩)
theorem vf_17_0 {E : EV} (hsd : E.2.2.2 = 0) : ∀ w i M, okM M → (17, w, i) ∈ Ls E.2.2.2 → vA E.2.2.2 (gvF 17 w i 0 M) := by
  intro w i M hM h
  rw [hsd] at h ⊢
  obtain ⟨h1, h2, h3⟩ := mem_Ls.mp h
  exact Or.inl (mem_Ls.mpr ⟨by decide, h2, hM.1 w i⟩)
theorem vf_19_2 {E : EV} (hsd : E.2.2.2 = 0) : ∀ w i M, okM M → (19, w, i) ∈ Ls E.2.2.2 → vA E.2.2.2 (gvF 19 w i 2 M) := by
  intro w i M hM h
  rw [hsd] at h ⊢
  obtain ⟨h1, h2, h3⟩ := mem_Ls.mp h
  exact Or.inl (mem_Ls.mpr ⟨by decide, h2, h3⟩)
theorem vf_21_0 {E : EV} (hsd : E.2.2.2 = 0) : ∀ w i M, okM M → (21, w, i) ∈ Ls E.2.2.2 → vA E.2.2.2 (gvF 21 w i 0 M) := by
  intro w i M hM h
  rw [hsd] at h ⊢
  obtain ⟨h1, h2, h3⟩ := mem_Ls.mp h
  exact Or.inl (mem_Ls.mpr ⟨by decide, by decide, by decide⟩)
theorem vf_23_0 {E : EV} (hsd : E.2.2.2 = 0) : ∀ w i M, okM M → (23, w, i) ∈ Ls E.2.2.2 → vA E.2.2.2 (gvF 23 w i 0 M) := by
  intro w i M hM h
  rw [hsd] at h ⊢
  obtain ⟨h1, h2, h3⟩ := mem_Ls.mp h
  exact Or.inl (mem_Ls.mpr ⟨by decide, by decide, by decide⟩)
theorem vf_23_1 {E : EV} (hsd : E.2.2.2 = 0) : ∀ w i M, okM M → (23, w, i) ∈ Ls E.2.2.2 → vA E.2.2.2 (gvF 23 w i 1 M) := by
  intro w i M hM h
  rw [hsd] at h ⊢
  obtain ⟨h1, h2, h3⟩ := mem_Ls.mp h
  exact Or.inl (mem_Ls.mpr ⟨by decide, by decide, by decide⟩)
theorem vf_40_0 {E : EV} (hsd : E.2.2.2 = 1) : ∀ w i M, okM M → (40, w, i) ∈ Ls E.2.2.2 → vA E.2.2.2 (gvF 40 w i 0 M) := by
  intro w i M hM h
  rw [hsd] at h ⊢
  obtain ⟨h1, h2, h3⟩ := mem_Ls.mp h
  exact Or.inl (mem_Ls.mpr ⟨by decide, by decide, by decide⟩)
theorem vf_40_1 {E : EV} (hsd : E.2.2.2 = 1) : ∀ w i M, okM M → (40, w, i) ∈ Ls E.2.2.2 → vA E.2.2.2 (gvF 40 w i 1 M) := by
  intro w i M hM h
  rw [hsd] at h ⊢
  obtain ⟨h1, h2, h3⟩ := mem_Ls.mp h
  exact Or.inl (mem_Ls.mpr ⟨by decide, by decide, by decide⟩)
theorem vf_40_2 {E : EV} (hsd : E.2.2.2 = 1) : ∀ w i M, okM M → (40, w, i) ∈ Ls E.2.2.2 → vA E.2.2.2 (gvF 40 w i 2 M) := by
  intro w i M hM h
  rw [hsd] at h ⊢
  obtain ⟨h1, h2, h3⟩ := mem_Ls.mp h
  exact Or.inl (mem_Ls.mpr ⟨by decide, by decide, by decide⟩)
theorem vf_40_3 {E : EV} (hsd : E.2.2.2 = 1) : ∀ w i M, okM M → (40, w, i) ∈ Ls E.2.2.2 → vA E.2.2.2 (gvF 40 w i 3 M) := by
  intro w i M hM h
  rw [hsd] at h ⊢
  obtain ⟨h1, h2, h3⟩ := mem_Ls.mp h
  exact Or.inl (mem_Ls.mpr ⟨by decide, by decide, by decide⟩)
theorem vf_40_5 {E : EV} (hsd : E.2.2.2 = 1) : ∀ w i M, okM M → (40, w, i) ∈ Ls E.2.2.2 → vA E.2.2.2 (gvF 40 w i 5 M) := by
  intro w i M hM h
  rw [hsd] at h ⊢
  obtain ⟨h1, h2, h3⟩ := mem_Ls.mp h
  exact Or.inl (mem_Ls.mpr ⟨by decide, by decide, by decide⟩)
theorem vf_40_6 {E : EV} (hsd : E.2.2.2 = 1) : ∀ w i M, okM M → (40, w, i) ∈ Ls E.2.2.2 → vA E.2.2.2 (gvF 40 w i 6 M) := by
  intro w i M hM h
  rw [hsd] at h ⊢
  obtain ⟨h1, h2, h3⟩ := mem_Ls.mp h
  exact Or.inl (mem_Ls.mpr ⟨by decide, by decide, by decide⟩)
theorem vf_40_7 {E : EV} (hsd : E.2.2.2 = 1) : ∀ w i M, okM M → (40, w, i) ∈ Ls E.2.2.2 → vA E.2.2.2 (gvF 40 w i 7 M) := by
  intro w i M hM h
  rw [hsd] at h ⊢
  obtain ⟨h1, h2, h3⟩ := mem_Ls.mp h
  exact Or.inl (mem_Ls.mpr ⟨by decide, by decide, by decide⟩)
theorem vf_40_8 {E : EV} (hsd : E.2.2.2 = 1) : ∀ w i M, okM M → (40, w, i) ∈ Ls E.2.2.2 → vA E.2.2.2 (gvF 40 w i 8 M) := by
  intro w i M hM h
  rw [hsd] at h ⊢
  obtain ⟨h1, h2, h3⟩ := mem_Ls.mp h
  exact Or.inl (mem_Ls.mpr ⟨by decide, by decide, by decide⟩)
theorem vf_40_9 {E : EV} (hsd : E.2.2.2 = 1) : ∀ w i M, okM M → (40, w, i) ∈ Ls E.2.2.2 → vA E.2.2.2 (gvF 40 w i 9 M) := by
  intro w i M hM h
  rw [hsd] at h ⊢
  obtain ⟨h1, h2, h3⟩ := mem_Ls.mp h
  exact Or.inl (mem_Ls.mpr ⟨by decide, by decide, by decide⟩)
theorem vf_40_13 {E : EV} (hsd : E.2.2.2 = 1) : ∀ w i M, okM M → (40, w, i) ∈ Ls E.2.2.2 → vA E.2.2.2 (gvF 40 w i 13 M) := by
  intro w i M hM h
  rw [hsd] at h ⊢
  obtain ⟨h1, h2, h3⟩ := mem_Ls.mp h
  exact Or.inl (mem_Ls.mpr ⟨by decide, by decide, by decide⟩)
theorem vf_40_14 {E : EV} (hsd : E.2.2.2 = 1) : ∀ w i M, okM M → (40, w, i) ∈ Ls E.2.2.2 → vA E.2.2.2 (gvF 40 w i 14 M) := by
  intro w i M hM h
  rw [hsd] at h ⊢
  obtain ⟨h1, h2, h3⟩ := mem_Ls.mp h
  exact Or.inl (mem_Ls.mpr ⟨by decide, by decide, by decide⟩)
theorem vf_40_16 {E : EV} (hsd : E.2.2.2 = 1) : ∀ w i M, okM M → (40, w, i) ∈ Ls E.2.2.2 → vA E.2.2.2 (gvF 40 w i 16 M) := by
  intro w i M hM h
  rw [hsd] at h ⊢
  obtain ⟨h1, h2, h3⟩ := mem_Ls.mp h
  exact Or.inl (mem_Ls.mpr ⟨by decide, by decide, by decide⟩)
theorem vf_40_17 {E : EV} (hsd : E.2.2.2 = 1) : ∀ w i M, okM M → (40, w, i) ∈ Ls E.2.2.2 → vA E.2.2.2 (gvF 40 w i 17 M) := by
  intro w i M hM h
  rw [hsd] at h ⊢
  obtain ⟨h1, h2, h3⟩ := mem_Ls.mp h
  exact Or.inl (mem_Ls.mpr ⟨by decide, by decide, by decide⟩)
theorem vf_40_18 {E : EV} (hsd : E.2.2.2 = 1) : ∀ w i M, okM M → (40, w, i) ∈ Ls E.2.2.2 → vA E.2.2.2 (gvF 40 w i 18 M) := by
  intro w i M hM h
  rw [hsd] at h ⊢
  obtain ⟨h1, h2, h3⟩ := mem_Ls.mp h
  exact Or.inl (mem_Ls.mpr ⟨by decide, by decide, by decide⟩)
theorem vf_40_21 {E : EV} (hsd : E.2.2.2 = 1) : ∀ w i M, okM M → (40, w, i) ∈ Ls E.2.2.2 → vA E.2.2.2 (gvF 40 w i 21 M) := by
  intro w i M hM h
  rw [hsd] at h ⊢
  obtain ⟨h1, h2, h3⟩ := mem_Ls.mp h
  exact Or.inl (mem_Ls.mpr ⟨by decide, by decide, by decide⟩)
theorem vf_40_23 {E : EV} (hsd : E.2.2.2 = 1) : ∀ w i M, okM M → (40, w, i) ∈ Ls E.2.2.2 → vA E.2.2.2 (gvF 40 w i 23 M) := by
  intro w i M hM h
  rw [hsd] at h ⊢
  obtain ⟨h1, h2, h3⟩ := mem_Ls.mp h
  exact Or.inl (mem_Ls.mpr ⟨by decide, by decide, by decide⟩)
theorem vf_40_24 {E : EV} (hsd : E.2.2.2 = 1) : ∀ w i M, okM M → (40, w, i) ∈ Ls E.2.2.2 → vA E.2.2.2 (gvF 40 w i 24 M) := by
  intro w i M hM h
  rw [hsd] at h ⊢
  obtain ⟨h1, h2, h3⟩ := mem_Ls.mp h
  exact Or.inl (mem_Ls.mpr ⟨by decide, by decide, by decide⟩)
theorem vf_40_25 {E : EV} (hsd : E.2.2.2 = 1) : ∀ w i M, okM M → (40, w, i) ∈ Ls E.2.2.2 → vA E.2.2.2 (gvF 40 w i 25 M) := by
  intro w i M hM h
  rw [hsd] at h ⊢
  obtain ⟨h1, h2, h3⟩ := mem_Ls.mp h
  exact Or.inl (mem_Ls.mpr ⟨by decide, by decide, by decide⟩)
theorem vf_40_26 {E : EV} (hsd : E.2.2.2 = 1) : ∀ w i M, okM M → (40, w, i) ∈ Ls E.2.2.2 → vA E.2.2.2 (gvF 40 w i 26 M) := by
  intro w i M hM h
  rw [hsd] at h ⊢
  obtain ⟨h1, h2, h3⟩ := mem_Ls.mp h
  exact Or.inl (mem_Ls.mpr ⟨by decide, by decide, by decide⟩)
theorem vr_2 {E : EV} (hsd : E.2.2.2 = 0) : ∀ w i k, (2, w, i) ∈ Ls E.2.2.2 → k < 8 → (3, w, k) ∈ Ls E.2.2.2 := by
  intro w i k h hk
  rw [hsd] at h ⊢
  obtain ⟨h1, h2, h3⟩ := mem_Ls.mp h
  exact mem_Ls.mpr ⟨by decide, h2, hk⟩
theorem vr_5 {E : EV} (hsd : E.2.2.2 = 0) : ∀ w i k, (5, w, i) ∈ Ls E.2.2.2 → k < 5 → (6, w, k) ∈ Ls E.2.2.2 := by
  intro w i k h hk
  rw [hsd] at h ⊢
  obtain ⟨h1, h2, h3⟩ := mem_Ls.mp h
  exact mem_Ls.mpr ⟨by decide, h2, hk⟩
theorem vr_9 {E : EV} (hsd : E.2.2.2 = 0) : ∀ w i k, (9, w, i) ∈ Ls E.2.2.2 → k < 40 → (10, w, k) ∈ Ls E.2.2.2 := by
  intro w i k h hk
  rw [hsd] at h ⊢
  obtain ⟨h1, h2, h3⟩ := mem_Ls.mp h
  exact mem_Ls.mpr ⟨by decide, h2, hk⟩
theorem vr_11 {E : EV} (hsd : E.2.2.2 = 0) : ∀ w i k, (11, w, i) ∈ Ls E.2.2.2 → k < 12 → (12, w, k) ∈ Ls E.2.2.2 := by
  intro w i k h hk
  rw [hsd] at h ⊢
  obtain ⟨h1, h2, h3⟩ := mem_Ls.mp h
  exact mem_Ls.mpr ⟨by decide, h2, hk⟩
theorem vr_14 {E : EV} (hsd : E.2.2.2 = 0) : ∀ w i k, (14, w, i) ∈ Ls E.2.2.2 → k < 24 → (15, w, k) ∈ Ls E.2.2.2 := by
  intro w i k h hk
  rw [hsd] at h ⊢
  obtain ⟨h1, h2, h3⟩ := mem_Ls.mp h
  exact mem_Ls.mpr ⟨by decide, h2, hk⟩
theorem vr_18 {E : EV} (hsd : E.2.2.2 = 0) : ∀ w i k, (18, w, i) ∈ Ls E.2.2.2 → k < 4 → (19, w, k) ∈ Ls E.2.2.2 := by
  intro w i k h hk
  rw [hsd] at h ⊢
  obtain ⟨h1, h2, h3⟩ := mem_Ls.mp h
  exact mem_Ls.mpr ⟨by decide, h2, hk⟩
theorem twMmax : Cond.code Lib.Math.max.name Lib.Math.max.code 2 (some .int) ∈ tbT := tb_at 889 (by decide +kernel) rfl
theorem twMmin : Cond.code Lib.Math.min.name Lib.Math.min.code 2 (some .int) ∈ tbT := tb_at 582 (by decide +kernel) rfl
theorem twMabs : Cond.code Lib.Math.abs.name Lib.Math.abs.code 1 (some .int) ∈ tbT := tb_at 956 (by decide +kernel) rfl
