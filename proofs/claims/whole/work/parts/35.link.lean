/-! ===== FreeLancesModel.bondIs(II)I ===== -/
abbrev yK_bondIs : MethodName := ⟨"FreeLancesModel", "bondIs", "(II)I"⟩
theorem iK_bondIs : MI yK_bondIs prog_13_method_67_code 3 (some .int) 2 := ⟨tw1580, tw108, ⟨by decide, by decide⟩, by decide +kernel, by decide, by decide⟩
def cK_bondIs : List (Ent (Int32 × Mem)) := [(false, 0, 1, sLdA 0),
  (false, 1, 1, sLdI 1),
  (false, 2, 3, sInv 2 true dK_isBond),
  (false, 5, 3, sIfEq 18),
  (false, 8, 1, sLdI 2),
  (false, 9, 1, sC 0),
  (false, 10, 2, sC 9),
  (false, 12, 3, sInv 3 true dK_in),
  (false, 15, 3, sIfNe 24),
  (false, 18, 1, sLdA 0),
  (false, 19, 1, sC 1),
  (false, 20, 3, sInv 2 true dK_finds),
  (false, 23, 1, sRetI),
  (false, 24, 1, sLdI 2),
  (false, 25, 51, sSw 143 [(0, 76), (1, 83), (2, 90), (3, 97), (4, 104), (5, 111), (6, 119), (7, 127), (8, 135)]),
  (false, 76, 1, sLdA 0),
  (false, 77, 1, sLdI 1),
  (false, 78, 1, sC 0),
  (false, 79, 3, sInv 3 true dK_bond),
  (false, 82, 1, sRetI),
  (false, 83, 1, sLdA 0),
  (false, 84, 1, sLdI 1),
  (false, 85, 1, sC 1),
  (false, 86, 3, sInv 3 true dK_bond),
  (false, 89, 1, sRetI),
  (false, 90, 1, sLdA 0),
  (false, 91, 1, sLdI 1),
  (false, 92, 1, sC 2),
  (false, 93, 3, sInv 3 true dK_bond),
  (false, 96, 1, sRetI),
  (false, 97, 1, sLdA 0),
  (false, 98, 1, sLdI 1),
  (false, 99, 1, sC 3),
  (false, 100, 3, sInv 3 true dK_bond),
  (false, 103, 1, sRetI),
  (false, 104, 1, sLdA 0),
  (false, 105, 1, sLdI 1),
  (false, 106, 1, sC 5),
  (false, 107, 3, sInv 3 true dK_bond),
  (false, 110, 1, sRetI),
  (false, 111, 1, sLdA 0),
  (false, 112, 1, sLdI 1),
  (false, 113, 2, sC 6),
  (false, 115, 3, sInv 3 true dK_bond),
  (false, 118, 1, sRetI),
  (false, 119, 1, sLdA 0),
  (false, 120, 1, sLdI 1),
  (false, 121, 2, sC 7),
  (false, 123, 3, sInv 3 true dK_bond),
  (false, 126, 1, sRetI),
  (false, 127, 1, sLdA 0),
  (false, 128, 1, sLdI 1),
  (false, 129, 2, sC 8),
  (false, 131, 3, sInv 3 true dK_bond),
  (false, 134, 1, sRetI),
  (false, 135, 1, sLdA 0),
  (false, 136, 1, sLdI 1),
  (false, 137, 2, sC 9),
  (false, 139, 3, sInv 3 true dK_bond),
  (false, 142, 1, sRetI),
  (false, 143, 1, sLdA 0),
  (false, 144, 1, sLdI 1),
  (false, 145, 2, sC 10),
  (false, 147, 3, sInv 3 true dK_bond),
  (false, 150, 1, sRetI)]
theorem oK_bondIs {E : EV} (hsd : E.2.2.2 = 1) (l : Launch) : AllOK E l 3 "FreeLancesModel" prog_13_method_67_code 3 (some .int) outI (cK_bondIs) := by
  refine ak (ok_aload_n (k := 0) rfl (by decide +kernel)) ?_
  refine ak (ok_iload_n (k := 1) rfl (by decide +kernel)) ?_
  refine ak (ok_invV (r := 40) (kK_isBond hsd l) qK_isBond ck11 kd40 iK_isBond tw1551 tw67 (by decide) tw1549 (by decide +kernel)) ?_
  refine ak (ok_if_eq (off := 13) (by decide) (by decide +kernel)) ?_
  refine ak (ok_iload_n (k := 2) rfl (by decide +kernel)) ?_
  refine ak (ok_iconst (n := 0) (by decide) (by decide +kernel)) ?_
  refine ak (ok_bipush (n := 9) (by decide) (by decide +kernel)) ?_
  refine ak (ok_invS (kK_in hsd l) iK_in tw1330 (by decide) tw1329 (by decide +kernel)) ?_
  refine ak (ok_if_ne (off := 9) (by decide) (by decide +kernel)) ?_
  refine ak (ok_aload_n (k := 0) rfl (by decide +kernel)) ?_
  refine ak (ok_iconst (n := 1) (by decide) (by decide +kernel)) ?_
  refine ak (ok_invV (r := 40) (kK_finds hsd l) qK_finds ck11 kd40 iK_finds tw1334 tw37 (by decide) tw1332 (by decide +kernel)) ?_
  refine ak (ok_ireturn rfl (by decide +kernel)) ?_
  refine ak (ok_iload_n (k := 2) rfl (by decide +kernel)) ?_
  refine ak (ok_table (df := 118) (lo := 0) (hi := 8) (offs := #[51, 58, 65, 72, 79, 86, 94, 102, 110]) (by decide) (by decide) (by decide) (by decide +kernel)) ?_
  refine ak (ok_aload_n (k := 0) rfl (by decide +kernel)) ?_
  refine ak (ok_iload_n (k := 1) rfl (by decide +kernel)) ?_
  refine ak (ok_iconst (n := 0) (by decide) (by decide +kernel)) ?_
  refine ak (ok_invV (r := 40) (kK_bond hsd l) qK_bond ck11 kd40 iK_bond tw1420 tw49 (by decide) tw1418 (by decide +kernel)) ?_
  refine ak (ok_ireturn rfl (by decide +kernel)) ?_
  refine ak (ok_aload_n (k := 0) rfl (by decide +kernel)) ?_
  refine ak (ok_iload_n (k := 1) rfl (by decide +kernel)) ?_
  refine ak (ok_iconst (n := 1) (by decide) (by decide +kernel)) ?_
  refine ak (ok_invV (r := 40) (kK_bond hsd l) qK_bond ck11 kd40 iK_bond tw1420 tw49 (by decide) tw1418 (by decide +kernel)) ?_
  refine ak (ok_ireturn rfl (by decide +kernel)) ?_
  refine ak (ok_aload_n (k := 0) rfl (by decide +kernel)) ?_
  refine ak (ok_iload_n (k := 1) rfl (by decide +kernel)) ?_
  refine ak (ok_iconst (n := 2) (by decide) (by decide +kernel)) ?_
  refine ak (ok_invV (r := 40) (kK_bond hsd l) qK_bond ck11 kd40 iK_bond tw1420 tw49 (by decide) tw1418 (by decide +kernel)) ?_
  refine ak (ok_ireturn rfl (by decide +kernel)) ?_
  refine ak (ok_aload_n (k := 0) rfl (by decide +kernel)) ?_
  refine ak (ok_iload_n (k := 1) rfl (by decide +kernel)) ?_
  refine ak (ok_iconst (n := 3) (by decide) (by decide +kernel)) ?_
  refine ak (ok_invV (r := 40) (kK_bond hsd l) qK_bond ck11 kd40 iK_bond tw1420 tw49 (by decide) tw1418 (by decide +kernel)) ?_
  refine ak (ok_ireturn rfl (by decide +kernel)) ?_
  refine ak (ok_aload_n (k := 0) rfl (by decide +kernel)) ?_
  refine ak (ok_iload_n (k := 1) rfl (by decide +kernel)) ?_
  refine ak (ok_iconst (n := 5) (by decide) (by decide +kernel)) ?_
  refine ak (ok_invV (r := 40) (kK_bond hsd l) qK_bond ck11 kd40 iK_bond tw1420 tw49 (by decide) tw1418 (by decide +kernel)) ?_
  refine ak (ok_ireturn rfl (by decide +kernel)) ?_
  refine ak (ok_aload_n (k := 0) rfl (by decide +kernel)) ?_
  refine ak (ok_iload_n (k := 1) rfl (by decide +kernel)) ?_
  refine ak (ok_bipush (n := 6) (by decide) (by decide +kernel)) ?_
  refine ak (ok_invV (r := 40) (kK_bond hsd l) qK_bond ck11 kd40 iK_bond tw1420 tw49 (by decide) tw1418 (by decide +kernel)) ?_
  refine ak (ok_ireturn rfl (by decide +kernel)) ?_
  refine ak (ok_aload_n (k := 0) rfl (by decide +kernel)) ?_
  refine ak (ok_iload_n (k := 1) rfl (by decide +kernel)) ?_
  refine ak (ok_bipush (n := 7) (by decide) (by decide +kernel)) ?_
  refine ak (ok_invV (r := 40) (kK_bond hsd l) qK_bond ck11 kd40 iK_bond tw1420 tw49 (by decide) tw1418 (by decide +kernel)) ?_
  refine ak (ok_ireturn rfl (by decide +kernel)) ?_
  refine ak (ok_aload_n (k := 0) rfl (by decide +kernel)) ?_
  refine ak (ok_iload_n (k := 1) rfl (by decide +kernel)) ?_
  refine ak (ok_bipush (n := 8) (by decide) (by decide +kernel)) ?_
  refine ak (ok_invV (r := 40) (kK_bond hsd l) qK_bond ck11 kd40 iK_bond tw1420 tw49 (by decide) tw1418 (by decide +kernel)) ?_
  refine ak (ok_ireturn rfl (by decide +kernel)) ?_
  refine ak (ok_aload_n (k := 0) rfl (by decide +kernel)) ?_
  refine ak (ok_iload_n (k := 1) rfl (by decide +kernel)) ?_
  refine ak (ok_bipush (n := 9) (by decide) (by decide +kernel)) ?_
  refine ak (ok_invV (r := 40) (kK_bond hsd l) qK_bond ck11 kd40 iK_bond tw1420 tw49 (by decide) tw1418 (by decide +kernel)) ?_
  refine ak (ok_ireturn rfl (by decide +kernel)) ?_
  refine ak (ok_aload_n (k := 0) rfl (by decide +kernel)) ?_
  refine ak (ok_iload_n (k := 1) rfl (by decide +kernel)) ?_
  refine ak (ok_bipush (n := 10) (by decide) (by decide +kernel)) ?_
  refine ak (ok_invV (r := 40) (kK_bond hsd l) qK_bond ck11 kd40 iK_bond tw1420 tw49 (by decide) tw1418 (by decide +kernel)) ?_
  refine ak (ok_ireturn rfl (by decide +kernel)) ?_
  exact trivial
set_option maxRecDepth 1000000 in
theorem eK_bondIs (x1 : Int32) (x2 : Int32) (M : Mem) : run (cK_bondIs) (fun _ _ _ _ => none) rtI 400 (seek (cK_bondIs) 0) [aR (40, 0, 0), aI x1, aI x2] [] M = mK_bondIs x1 x2 M := id rfl
theorem lK_bondIs {E : EV} {l : Launch} {p : Program} {e : Env} {s : State} {m : MethodId} {args : Array Value} {below : List Frame} {meth : Method} {c : Code} (A : AllOK E l 3 "FreeLancesModel" prog_13_method_67_code 3 (some .int) outI (cK_bondIs)) (C : Cx E p s m args meth c "FreeLancesModel" prog_13_method_67_code 3 (some .int)) : ∀ (x1 : Int32) (x2 : Int32) (M : Mem) (res : (Int32 × Mem)), mK_bondIs x1 x2 M = some res → Wm E p l e 3 s m args below meth c 3 0 [aR (40, 0, 0), aI x1, aI x2] [] M (outI res).1 (outI res).2 := by
  intro x1 x2 M res h
  refine run_at C A rfl hrtI (n := 400) ((eK_bondIs x1 x2 M).trans h) ?_
  intro t als st M hk; cases hk
def dK_bondIs {β : Type} : Den β := fun as M k => match as with
  | [.inr (.inr (.inl (al0, bl0, cl0))), .inl x1, .inl x2] => if al0 = 40 ∧ bl0 = 0 ∧ cl0 = 0 then (mK_bondIs x1 x2 M).bind fun q => k (aI q.1) q.2 else none
  | _ => none
theorem wK_bondIs {E : EV} (hsd : E.2.2.2 = 1) (l : Launch) (x1 : Int32) (x2 : Int32) (M : Mem) (q : (Int32 × Mem)) (hq : mK_bondIs x1 x2 M = some q) : Con E l 3 yK_bondIs prog_13_method_67_code 3 (some .int) [aR (40, 0, 0), aI x1, aI x2] M (outI q).1 (outI q).2 := by
  refine con_of iK_bondIs (Nat.le_of_ble_eq_true rfl) ?_
  intro p e s m args below meth c C
  exact lK_bondIs (oK_bondIs hsd l) C x1 x2 M _ hq
theorem kK_bondIs {E : EV} (hsd : E.2.2.2 = 1) (l : Launch) {β : Type} : DenOK E l 3 yK_bondIs prog_13_method_67_code 3 (some .int) true (dK_bondIs (β := β)) := by
  intro as M k res h
  unfold dK_bondIs at h
  split at h
  ·
    split at h
    · rename_i hc
      obtain ⟨rfl, rfl, rfl⟩ := hc
      obtain ⟨q, hq, hk⟩ := Option.bind_eq_some_iff.mp h
      exact ⟨aI q.1, q.2, hk, rfl, wK_bondIs hsd l _ _ M q hq⟩
    · cases h
  · cases h
theorem qK_bondIs {β : Type} : RecOK 40 (dK_bondIs (β := β)) := by
  intro as M k res h
  unfold dK_bondIs at h
  split at h
  ·
    split at h
    · rename_i hc
      obtain ⟨rfl, rfl, rfl⟩ := hc
      exact ⟨_, _, _, rfl⟩
    · cases h
  · cases h
/-! ===== FreeLancesModel.owes(II)V ===== -/
abbrev yK_owes : MethodName := ⟨"FreeLancesModel", "owes", "(II)V"⟩
theorem iK_owes : MI yK_owes prog_13_method_68_code 3 none 2 := ⟨tw1588, tw108, ⟨by decide, by decide⟩, by decide +kernel, by decide, by decide⟩
def cK_owes : List (Ent Mem) := [(false, 0, 1, sLdA 0),
  (false, 1, 1, sLdI 1),
  (false, 2, 2, sC 8),
  (false, 4, 1, sLdA 0),
  (false, 5, 1, sLdI 1),
  (false, 6, 2, sC 8),
  (false, 8, 3, sInv 3 true dK_bond),
  (false, 11, 1, sLdI 2),
  (false, 12, 1, sBin (fun x y => x - y)),
  (false, 13, 3, sInv 4 false dK_writes),
  (false, 16, 1, sLdA 0),
  (false, 17, 1, sLdI 1),
  (false, 18, 2, sC 8),
  (false, 20, 3, sInv 3 true dK_bond),
  (false, 23, 3, sIfNe 34),
  (false, 26, 1, sLdA 0),
  (false, 27, 1, sLdI 1),
  (false, 28, 2, sC 9),
  (false, 30, 1, sC (-1)),
  (false, 31, 3, sInv 4 false dK_writes),
  (false, 34, 1, sRetV)]
theorem oK_owes {E : EV} (hsd : E.2.2.2 = 1) (l : Launch) : AllOK E l 2 "FreeLancesModel" prog_13_method_68_code 3 none outV (cK_owes) := by
  refine ak (ok_aload_n (k := 0) rfl (by decide +kernel)) ?_
  refine ak (ok_iload_n (k := 1) rfl (by decide +kernel)) ?_
  refine ak (ok_bipush (n := 8) (by decide) (by decide +kernel)) ?_
  refine ak (ok_aload_n (k := 0) rfl (by decide +kernel)) ?_
  refine ak (ok_iload_n (k := 1) rfl (by decide +kernel)) ?_
  refine ak (ok_bipush (n := 8) (by decide) (by decide +kernel)) ?_
  refine ak (ok_invV (r := 40) (kK_bond hsd l) qK_bond ck11 kd40 iK_bond tw1420 tw49 (by decide) tw1418 (by decide +kernel)) ?_
  refine ak (ok_iload_n (k := 2) rfl (by decide +kernel)) ?_
  refine ak (ok_isub (by decide +kernel)) ?_
  refine ak (ok_invV (r := 40) (kK_writes hsd l) qK_writes ck11 kd40 iK_writes tw1543 tw66 (by decide) tw1541 (by decide +kernel)) ?_
  refine ak (ok_aload_n (k := 0) rfl (by decide +kernel)) ?_
  refine ak (ok_iload_n (k := 1) rfl (by decide +kernel)) ?_
  refine ak (ok_bipush (n := 8) (by decide) (by decide +kernel)) ?_
  refine ak (ok_invV (r := 40) (kK_bond hsd l) qK_bond ck11 kd40 iK_bond tw1420 tw49 (by decide) tw1418 (by decide +kernel)) ?_
  refine ak (ok_if_ne (off := 11) (by decide) (by decide +kernel)) ?_
  refine ak (ok_aload_n (k := 0) rfl (by decide +kernel)) ?_
  refine ak (ok_iload_n (k := 1) rfl (by decide +kernel)) ?_
  refine ak (ok_bipush (n := 9) (by decide) (by decide +kernel)) ?_
  refine ak (ok_iconst (n := (-1)) (by decide) (by decide +kernel)) ?_
  refine ak (ok_invV (r := 40) (kK_writes hsd l) qK_writes ck11 kd40 iK_writes tw1543 tw66 (by decide) tw1541 (by decide +kernel)) ?_
  refine ak (ok_return rfl (by decide +kernel)) ?_
  exact trivial
set_option maxRecDepth 1000000 in
theorem eK_owes (x1 : Int32) (x2 : Int32) (M : Mem) : run (cK_owes) (fun _ _ _ _ => none) rtV 400 (seek (cK_owes) 0) [aR (40, 0, 0), aI x1, aI x2] [] M = mK_owes x1 x2 M := id rfl
theorem lK_owes {E : EV} {l : Launch} {p : Program} {e : Env} {s : State} {m : MethodId} {args : Array Value} {below : List Frame} {meth : Method} {c : Code} (A : AllOK E l 2 "FreeLancesModel" prog_13_method_68_code 3 none outV (cK_owes)) (C : Cx E p s m args meth c "FreeLancesModel" prog_13_method_68_code 3 none) : ∀ (x1 : Int32) (x2 : Int32) (M : Mem) (res : Mem), mK_owes x1 x2 M = some res → Wm E p l e 2 s m args below meth c 3 0 [aR (40, 0, 0), aI x1, aI x2] [] M (outV res).1 (outV res).2 := by
  intro x1 x2 M res h
  refine run_at C A rfl hrtV (n := 400) ((eK_owes x1 x2 M).trans h) ?_
  intro t als st M hk; cases hk
def dK_owes {β : Type} : Den β := fun as M k => match as with
  | [.inr (.inr (.inl (al0, bl0, cl0))), .inl x1, .inl x2] => if al0 = 40 ∧ bl0 = 0 ∧ cl0 = 0 then (mK_owes x1 x2 M).bind fun q => k aU q else none
  | _ => none
theorem wK_owes {E : EV} (hsd : E.2.2.2 = 1) (l : Launch) (x1 : Int32) (x2 : Int32) (M : Mem) (q : Mem) (hq : mK_owes x1 x2 M = some q) : Con E l 2 yK_owes prog_13_method_68_code 3 none [aR (40, 0, 0), aI x1, aI x2] M (outV q).1 (outV q).2 := by
  refine con_of iK_owes (Nat.le_of_ble_eq_true rfl) ?_
  intro p e s m args below meth c C
  exact lK_owes (oK_owes hsd l) C x1 x2 M _ hq
theorem kK_owes {E : EV} (hsd : E.2.2.2 = 1) (l : Launch) {β : Type} : DenOK E l 2 yK_owes prog_13_method_68_code 3 none false (dK_owes (β := β)) := by
  intro as M k res h
  unfold dK_owes at h
  split at h
  ·
    split at h
    · rename_i hc
      obtain ⟨rfl, rfl, rfl⟩ := hc
      obtain ⟨q, hq, hk⟩ := Option.bind_eq_some_iff.mp h
      exact ⟨aU, q, hk, rfl, wK_owes hsd l _ _ M q hq⟩
    · cases h
  · cases h
theorem qK_owes {β : Type} : RecOK 40 (dK_owes (β := β)) := by
  intro as M k res h
  unfold dK_owes at h
  split at h
  ·
    split at h
    · rename_i hc
      obtain ⟨rfl, rfl, rfl⟩ := hc
      exact ⟨_, _, _, rfl⟩
    · cases h
  · cases h
/-! ===== FreeLancesModel.stop(II)I ===== -/
abbrev yK_stop : MethodName := ⟨"FreeLancesModel", "stop", "(II)I"⟩
theorem iK_stop : MI yK_stop prog_13_method_69_code 3 (some .int) 2 := ⟨tw1584, tw108, ⟨by decide, by decide⟩, by decide +kernel, by decide, by decide⟩
def cK_stop : List (Ent (Int32 × Mem)) := [(false, 0, 1, sLdA 0),
  (false, 1, 1, sLdI 1),
  (false, 2, 3, sInv 2 true dK_isBond),
  (false, 5, 3, sIfEq 19),
  (false, 8, 1, sLdI 2),
  (false, 9, 1, sC 1),
  (false, 10, 3, sC 9999),
  (false, 13, 3, sInv 3 true dK_in),
  (false, 16, 3, sIfNe 25),
  (false, 19, 1, sLdA 0),
  (false, 20, 1, sC 1),
  (false, 21, 3, sInv 2 true dK_finds),
  (false, 24, 1, sRetI),
  (false, 25, 1, sLdA 0),
  (false, 26, 1, sLdI 1),
  (false, 27, 3, sInv 2 true dK_isContract),
  (false, 30, 3, sIfNe 39),
  (false, 33, 1, sLdA 0),
  (false, 34, 1, sC 5),
  (false, 35, 3, sInv 2 true dK_finds),
  (false, 38, 1, sRetI),
  (false, 39, 1, sLdA 0),
  (false, 40, 1, sLdI 1),
  (false, 41, 2, sC 8),
  (false, 43, 3, sInv 3 true dK_bond),
  (false, 46, 1, sLdI 2),
  (false, 47, 3, sCmpGe 56),
  (false, 50, 1, sLdA 0),
  (false, 51, 1, sC 3),
  (false, 52, 3, sInv 2 true dK_finds),
  (false, 55, 1, sRetI),
  (false, 56, 1, sLdA 0),
  (false, 57, 1, sLdI 1),
  (false, 58, 1, sLdI 2),
  (false, 59, 3, sInv 3 false dK_owes),
  (false, 62, 1, sLdA 0),
  (false, 63, 1, sLdI 1),
  (false, 64, 2, sC 8),
  (false, 66, 3, sInv 3 true dK_bond),
  (false, 69, 1, sRetI)]
theorem oK_stop {E : EV} (hsd : E.2.2.2 = 1) (l : Launch) : AllOK E l 3 "FreeLancesModel" prog_13_method_69_code 3 (some .int) outI (cK_stop) := by
  refine ak (ok_aload_n (k := 0) rfl (by decide +kernel)) ?_
  refine ak (ok_iload_n (k := 1) rfl (by decide +kernel)) ?_
  refine ak (ok_invV (r := 40) (kK_isBond hsd l) qK_isBond ck11 kd40 iK_isBond tw1551 tw67 (by decide) tw1549 (by decide +kernel)) ?_
  refine ak (ok_if_eq (off := 14) (by decide) (by decide +kernel)) ?_
  refine ak (ok_iload_n (k := 2) rfl (by decide +kernel)) ?_
  refine ak (ok_iconst (n := 1) (by decide) (by decide +kernel)) ?_
  refine ak (ok_sipush (n := 9999) (by decide) (by decide +kernel)) ?_
  refine ak (ok_invS (kK_in hsd l) iK_in tw1330 (by decide) tw1329 (by decide +kernel)) ?_
  refine ak (ok_if_ne (off := 9) (by decide) (by decide +kernel)) ?_
  refine ak (ok_aload_n (k := 0) rfl (by decide +kernel)) ?_
  refine ak (ok_iconst (n := 1) (by decide) (by decide +kernel)) ?_
  refine ak (ok_invV (r := 40) (kK_finds hsd l) qK_finds ck11 kd40 iK_finds tw1334 tw37 (by decide) tw1332 (by decide +kernel)) ?_
  refine ak (ok_ireturn rfl (by decide +kernel)) ?_
  refine ak (ok_aload_n (k := 0) rfl (by decide +kernel)) ?_
  refine ak (ok_iload_n (k := 1) rfl (by decide +kernel)) ?_
  refine ak (ok_invV (r := 40) (kK_isContract hsd l) qK_isContract ck11 kd40 iK_isContract tw1416 tw48 (by decide) tw1414 (by decide +kernel)) ?_
  refine ak (ok_if_ne (off := 9) (by decide) (by decide +kernel)) ?_
  refine ak (ok_aload_n (k := 0) rfl (by decide +kernel)) ?_
  refine ak (ok_iconst (n := 5) (by decide) (by decide +kernel)) ?_
  refine ak (ok_invV (r := 40) (kK_finds hsd l) qK_finds ck11 kd40 iK_finds tw1334 tw37 (by decide) tw1332 (by decide +kernel)) ?_
  refine ak (ok_ireturn rfl (by decide +kernel)) ?_
  refine ak (ok_aload_n (k := 0) rfl (by decide +kernel)) ?_
  refine ak (ok_iload_n (k := 1) rfl (by decide +kernel)) ?_
  refine ak (ok_bipush (n := 8) (by decide) (by decide +kernel)) ?_
  refine ak (ok_invV (r := 40) (kK_bond hsd l) qK_bond ck11 kd40 iK_bond tw1420 tw49 (by decide) tw1418 (by decide +kernel)) ?_
  refine ak (ok_iload_n (k := 2) rfl (by decide +kernel)) ?_
  refine ak (ok_icmp_ge (off := 9) (by decide) (by decide +kernel)) ?_
  refine ak (ok_aload_n (k := 0) rfl (by decide +kernel)) ?_
  refine ak (ok_iconst (n := 3) (by decide) (by decide +kernel)) ?_
  refine ak (ok_invV (r := 40) (kK_finds hsd l) qK_finds ck11 kd40 iK_finds tw1334 tw37 (by decide) tw1332 (by decide +kernel)) ?_
  refine ak (ok_ireturn rfl (by decide +kernel)) ?_
  refine ak (ok_aload_n (k := 0) rfl (by decide +kernel)) ?_
  refine ak (ok_iload_n (k := 1) rfl (by decide +kernel)) ?_
  refine ak (ok_iload_n (k := 2) rfl (by decide +kernel)) ?_
  refine ak (ok_invV (r := 40) (kK_owes hsd l) qK_owes ck11 kd40 iK_owes tw1587 tw69 (by decide) tw1585 (by decide +kernel)) ?_
  refine ak (ok_aload_n (k := 0) rfl (by decide +kernel)) ?_
  refine ak (ok_iload_n (k := 1) rfl (by decide +kernel)) ?_
  refine ak (ok_bipush (n := 8) (by decide) (by decide +kernel)) ?_
  refine ak (ok_invV (r := 40) (kK_bond hsd l) qK_bond ck11 kd40 iK_bond tw1420 tw49 (by decide) tw1418 (by decide +kernel)) ?_
  refine ak (ok_ireturn rfl (by decide +kernel)) ?_
  exact trivial
set_option maxRecDepth 1000000 in
theorem eK_stop (x1 : Int32) (x2 : Int32) (M : Mem) : run (cK_stop) (fun _ _ _ _ => none) rtI 400 (seek (cK_stop) 0) [aR (40, 0, 0), aI x1, aI x2] [] M = mK_stop x1 x2 M := id rfl
theorem lK_stop {E : EV} {l : Launch} {p : Program} {e : Env} {s : State} {m : MethodId} {args : Array Value} {below : List Frame} {meth : Method} {c : Code} (A : AllOK E l 3 "FreeLancesModel" prog_13_method_69_code 3 (some .int) outI (cK_stop)) (C : Cx E p s m args meth c "FreeLancesModel" prog_13_method_69_code 3 (some .int)) : ∀ (x1 : Int32) (x2 : Int32) (M : Mem) (res : (Int32 × Mem)), mK_stop x1 x2 M = some res → Wm E p l e 3 s m args below meth c 3 0 [aR (40, 0, 0), aI x1, aI x2] [] M (outI res).1 (outI res).2 := by
  intro x1 x2 M res h
  refine run_at C A rfl hrtI (n := 400) ((eK_stop x1 x2 M).trans h) ?_
  intro t als st M hk; cases hk
def dK_stop {β : Type} : Den β := fun as M k => match as with
  | [.inr (.inr (.inl (al0, bl0, cl0))), .inl x1, .inl x2] => if al0 = 40 ∧ bl0 = 0 ∧ cl0 = 0 then (mK_stop x1 x2 M).bind fun q => k (aI q.1) q.2 else none
  | _ => none
theorem wK_stop {E : EV} (hsd : E.2.2.2 = 1) (l : Launch) (x1 : Int32) (x2 : Int32) (M : Mem) (q : (Int32 × Mem)) (hq : mK_stop x1 x2 M = some q) : Con E l 3 yK_stop prog_13_method_69_code 3 (some .int) [aR (40, 0, 0), aI x1, aI x2] M (outI q).1 (outI q).2 := by
  refine con_of iK_stop (Nat.le_of_ble_eq_true rfl) ?_
  intro p e s m args below meth c C
  exact lK_stop (oK_stop hsd l) C x1 x2 M _ hq
theorem kK_stop {E : EV} (hsd : E.2.2.2 = 1) (l : Launch) {β : Type} : DenOK E l 3 yK_stop prog_13_method_69_code 3 (some .int) true (dK_stop (β := β)) := by
  intro as M k res h
  unfold dK_stop at h
  split at h
  ·
    split at h
    · rename_i hc
      obtain ⟨rfl, rfl, rfl⟩ := hc
      obtain ⟨q, hq, hk⟩ := Option.bind_eq_some_iff.mp h
      exact ⟨aI q.1, q.2, hk, rfl, wK_stop hsd l _ _ M q hq⟩
    · cases h
  · cases h
theorem qK_stop {β : Type} : RecOK 40 (dK_stop (β := β)) := by
  intro as M k res h
  unfold dK_stop at h
  split at h
  ·
    split at h
    · rename_i hc
      obtain ⟨rfl, rfl, rfl⟩ := hc
      exact ⟨_, _, _, rfl⟩
    · cases h
  · cases h
/-! ===== FreeLancesModel.pay(II)I ===== -/
abbrev yK_pay : MethodName := ⟨"FreeLancesModel", "pay", "(II)I"⟩
theorem iK_pay : MI yK_pay prog_13_method_70_code 3 (some .int) 2 := ⟨tw1592, tw108, ⟨by decide, by decide⟩, by decide +kernel, by decide, by decide⟩
def cK_pay : List (Ent (Int32 × Mem)) := [(false, 0, 1, sLdA 0),
  (false, 1, 1, sLdI 1),
  (false, 2, 3, sInv 2 true dK_isBond),
  (false, 5, 3, sIfEq 19),
  (false, 8, 1, sLdI 2),
  (false, 9, 1, sC 1),
  (false, 10, 3, sC 9999),
  (false, 13, 3, sInv 3 true dK_in),
  (false, 16, 3, sIfNe 25),
  (false, 19, 1, sLdA 0),
  (false, 20, 1, sC 1),
  (false, 21, 3, sInv 2 true dK_finds),
  (false, 24, 1, sRetI),
  (false, 25, 1, sLdA 0),
  (false, 26, 1, sLdI 1),
  (false, 27, 3, sInv 2 true dK_isContract),
  (false, 30, 3, sIfNe 39),
  (false, 33, 1, sLdA 0),
  (false, 34, 1, sC 5),
  (false, 35, 3, sInv 2 true dK_finds),
  (false, 38, 1, sRetI),
  (false, 39, 1, sLdA 0),
  (false, 40, 1, sLdI 1),
  (false, 41, 2, sC 8),
  (false, 43, 3, sInv 3 true dK_bond),
  (false, 46, 1, sLdI 2),
  (false, 47, 3, sCmpGe 56),
  (false, 50, 1, sLdA 0),
  (false, 51, 1, sC 3),
  (false, 52, 3, sInv 2 true dK_finds),
  (false, 55, 1, sRetI),
  (false, 56, 1, sLdA 0),
  (false, 57, 1, sLdA 0),
  (false, 58, 1, sLdI 1),
  (false, 59, 1, sC 5),
  (false, 60, 3, sInv 3 true dK_bond),
  (false, 63, 1, sC 0),
  (false, 64, 3, sInv 3 true dK_ofTown),
  (false, 67, 1, sLdI 2),
  (false, 68, 3, sCmpGe 77),
  (false, 71, 1, sLdA 0),
  (false, 72, 1, sC 2),
  (false, 73, 3, sInv 2 true dK_finds),
  (false, 76, 1, sRetI),
  (false, 77, 1, sLdA 0),
  (false, 78, 1, sLdA 0),
  (false, 79, 1, sLdI 1),
  (false, 80, 1, sC 5),
  (false, 81, 3, sInv 3 true dK_bond),
  (false, 84, 1, sLdA 0),
  (false, 85, 1, sLdI 1),
  (false, 86, 1, sC 1),
  (false, 87, 3, sInv 3 true dK_bond),
  (false, 90, 1, sLdI 2),
  (false, 91, 3, sInv 4 false dK_gives),
  (false, 94, 1, sLdA 0),
  (false, 95, 1, sLdI 1),
  (false, 96, 1, sLdI 2),
  (false, 97, 3, sInv 3 false dK_owes),
  (false, 100, 1, sLdA 0),
  (false, 101, 1, sLdI 1),
  (false, 102, 2, sC 8),
  (false, 104, 3, sInv 3 true dK_bond),
  (false, 107, 1, sRetI)]
theorem oK_pay {E : EV} (hsd : E.2.2.2 = 1) (l : Launch) : AllOK E l 3 "FreeLancesModel" prog_13_method_70_code 3 (some .int) outI (cK_pay) := by
  refine ak (ok_aload_n (k := 0) rfl (by decide +kernel)) ?_
  refine ak (ok_iload_n (k := 1) rfl (by decide +kernel)) ?_
  refine ak (ok_invV (r := 40) (kK_isBond hsd l) qK_isBond ck11 kd40 iK_isBond tw1551 tw67 (by decide) tw1549 (by decide +kernel)) ?_
  refine ak (ok_if_eq (off := 14) (by decide) (by decide +kernel)) ?_
  refine ak (ok_iload_n (k := 2) rfl (by decide +kernel)) ?_
  refine ak (ok_iconst (n := 1) (by decide) (by decide +kernel)) ?_
  refine ak (ok_sipush (n := 9999) (by decide) (by decide +kernel)) ?_
  refine ak (ok_invS (kK_in hsd l) iK_in tw1330 (by decide) tw1329 (by decide +kernel)) ?_
  refine ak (ok_if_ne (off := 9) (by decide) (by decide +kernel)) ?_
  refine ak (ok_aload_n (k := 0) rfl (by decide +kernel)) ?_
  refine ak (ok_iconst (n := 1) (by decide) (by decide +kernel)) ?_
  refine ak (ok_invV (r := 40) (kK_finds hsd l) qK_finds ck11 kd40 iK_finds tw1334 tw37 (by decide) tw1332 (by decide +kernel)) ?_
  refine ak (ok_ireturn rfl (by decide +kernel)) ?_
  refine ak (ok_aload_n (k := 0) rfl (by decide +kernel)) ?_
  refine ak (ok_iload_n (k := 1) rfl (by decide +kernel)) ?_
  refine ak (ok_invV (r := 40) (kK_isContract hsd l) qK_isContract ck11 kd40 iK_isContract tw1416 tw48 (by decide) tw1414 (by decide +kernel)) ?_
  refine ak (ok_if_ne (off := 9) (by decide) (by decide +kernel)) ?_
  refine ak (ok_aload_n (k := 0) rfl (by decide +kernel)) ?_
  refine ak (ok_iconst (n := 5) (by decide) (by decide +kernel)) ?_
  refine ak (ok_invV (r := 40) (kK_finds hsd l) qK_finds ck11 kd40 iK_finds tw1334 tw37 (by decide) tw1332 (by decide +kernel)) ?_
  refine ak (ok_ireturn rfl (by decide +kernel)) ?_
  refine ak (ok_aload_n (k := 0) rfl (by decide +kernel)) ?_
  refine ak (ok_iload_n (k := 1) rfl (by decide +kernel)) ?_
  refine ak (ok_bipush (n := 8) (by decide) (by decide +kernel)) ?_
  refine ak (ok_invV (r := 40) (kK_bond hsd l) qK_bond ck11 kd40 iK_bond tw1420 tw49 (by decide) tw1418 (by decide +kernel)) ?_
  refine ak (ok_iload_n (k := 2) rfl (by decide +kernel)) ?_
  refine ak (ok_icmp_ge (off := 9) (by decide) (by decide +kernel)) ?_
  refine ak (ok_aload_n (k := 0) rfl (by decide +kernel)) ?_
  refine ak (ok_iconst (n := 3) (by decide) (by decide +kernel)) ?_
  refine ak (ok_invV (r := 40) (kK_finds hsd l) qK_finds ck11 kd40 iK_finds tw1334 tw37 (by decide) tw1332 (by decide +kernel)) ?_
  refine ak (ok_ireturn rfl (by decide +kernel)) ?_
  refine ak (ok_aload_n (k := 0) rfl (by decide +kernel)) ?_
  refine ak (ok_aload_n (k := 0) rfl (by decide +kernel)) ?_
  refine ak (ok_iload_n (k := 1) rfl (by decide +kernel)) ?_
  refine ak (ok_iconst (n := 5) (by decide) (by decide +kernel)) ?_
  refine ak (ok_invV (r := 40) (kK_bond hsd l) qK_bond ck11 kd40 iK_bond tw1420 tw49 (by decide) tw1418 (by decide +kernel)) ?_
  refine ak (ok_iconst (n := 0) (by decide) (by decide +kernel)) ?_
  refine ak (ok_invV (r := 40) (kK_ofTown hsd l) qK_ofTown ck11 kd40 iK_ofTown tw1359 tw40 (by decide) tw1357 (by decide +kernel)) ?_
  refine ak (ok_iload_n (k := 2) rfl (by decide +kernel)) ?_
  refine ak (ok_icmp_ge (off := 9) (by decide) (by decide +kernel)) ?_
  refine ak (ok_aload_n (k := 0) rfl (by decide +kernel)) ?_
  refine ak (ok_iconst (n := 2) (by decide) (by decide +kernel)) ?_
  refine ak (ok_invV (r := 40) (kK_finds hsd l) qK_finds ck11 kd40 iK_finds tw1334 tw37 (by decide) tw1332 (by decide +kernel)) ?_
  refine ak (ok_ireturn rfl (by decide +kernel)) ?_
  refine ak (ok_aload_n (k := 0) rfl (by decide +kernel)) ?_
  refine ak (ok_aload_n (k := 0) rfl (by decide +kernel)) ?_
  refine ak (ok_iload_n (k := 1) rfl (by decide +kernel)) ?_
  refine ak (ok_iconst (n := 5) (by decide) (by decide +kernel)) ?_
  refine ak (ok_invV (r := 40) (kK_bond hsd l) qK_bond ck11 kd40 iK_bond tw1420 tw49 (by decide) tw1418 (by decide +kernel)) ?_
  refine ak (ok_aload_n (k := 0) rfl (by decide +kernel)) ?_
  refine ak (ok_iload_n (k := 1) rfl (by decide +kernel)) ?_
  refine ak (ok_iconst (n := 1) (by decide) (by decide +kernel)) ?_
  refine ak (ok_invV (r := 40) (kK_bond hsd l) qK_bond ck11 kd40 iK_bond tw1420 tw49 (by decide) tw1418 (by decide +kernel)) ?_
  refine ak (ok_iload_n (k := 2) rfl (by decide +kernel)) ?_
  refine ak (ok_invV (r := 40) (kK_gives hsd l) qK_gives ck11 kd40 iK_gives tw1559 tw68 (by decide) tw1557 (by decide +kernel)) ?_
  refine ak (ok_aload_n (k := 0) rfl (by decide +kernel)) ?_
  refine ak (ok_iload_n (k := 1) rfl (by decide +kernel)) ?_
  refine ak (ok_iload_n (k := 2) rfl (by decide +kernel)) ?_
  refine ak (ok_invV (r := 40) (kK_owes hsd l) qK_owes ck11 kd40 iK_owes tw1587 tw69 (by decide) tw1585 (by decide +kernel)) ?_
  refine ak (ok_aload_n (k := 0) rfl (by decide +kernel)) ?_
  refine ak (ok_iload_n (k := 1) rfl (by decide +kernel)) ?_
  refine ak (ok_bipush (n := 8) (by decide) (by decide +kernel)) ?_
  refine ak (ok_invV (r := 40) (kK_bond hsd l) qK_bond ck11 kd40 iK_bond tw1420 tw49 (by decide) tw1418 (by decide +kernel)) ?_
  refine ak (ok_ireturn rfl (by decide +kernel)) ?_
  exact trivial
set_option maxRecDepth 1000000 in
theorem eK_pay (x1 : Int32) (x2 : Int32) (M : Mem) : run (cK_pay) (fun _ _ _ _ => none) rtI 400 (seek (cK_pay) 0) [aR (40, 0, 0), aI x1, aI x2] [] M = mK_pay x1 x2 M := id rfl
theorem lK_pay {E : EV} {l : Launch} {p : Program} {e : Env} {s : State} {m : MethodId} {args : Array Value} {below : List Frame} {meth : Method} {c : Code} (A : AllOK E l 3 "FreeLancesModel" prog_13_method_70_code 3 (some .int) outI (cK_pay)) (C : Cx E p s m args meth c "FreeLancesModel" prog_13_method_70_code 3 (some .int)) : ∀ (x1 : Int32) (x2 : Int32) (M : Mem) (res : (Int32 × Mem)), mK_pay x1 x2 M = some res → Wm E p l e 3 s m args below meth c 3 0 [aR (40, 0, 0), aI x1, aI x2] [] M (outI res).1 (outI res).2 := by
  intro x1 x2 M res h
  refine run_at C A rfl hrtI (n := 400) ((eK_pay x1 x2 M).trans h) ?_
  intro t als st M hk; cases hk
def dK_pay {β : Type} : Den β := fun as M k => match as with
  | [.inr (.inr (.inl (al0, bl0, cl0))), .inl x1, .inl x2] => if al0 = 40 ∧ bl0 = 0 ∧ cl0 = 0 then (mK_pay x1 x2 M).bind fun q => k (aI q.1) q.2 else none
  | _ => none
theorem wK_pay {E : EV} (hsd : E.2.2.2 = 1) (l : Launch) (x1 : Int32) (x2 : Int32) (M : Mem) (q : (Int32 × Mem)) (hq : mK_pay x1 x2 M = some q) : Con E l 3 yK_pay prog_13_method_70_code 3 (some .int) [aR (40, 0, 0), aI x1, aI x2] M (outI q).1 (outI q).2 := by
  refine con_of iK_pay (Nat.le_of_ble_eq_true rfl) ?_
  intro p e s m args below meth c C
  exact lK_pay (oK_pay hsd l) C x1 x2 M _ hq
theorem kK_pay {E : EV} (hsd : E.2.2.2 = 1) (l : Launch) {β : Type} : DenOK E l 3 yK_pay prog_13_method_70_code 3 (some .int) true (dK_pay (β := β)) := by
  intro as M k res h
  unfold dK_pay at h
  split at h
  ·
    split at h
    · rename_i hc
      obtain ⟨rfl, rfl, rfl⟩ := hc
      obtain ⟨q, hq, hk⟩ := Option.bind_eq_some_iff.mp h
      exact ⟨aI q.1, q.2, hk, rfl, wK_pay hsd l _ _ M q hq⟩
    · cases h
  · cases h
theorem qK_pay {β : Type} : RecOK 40 (dK_pay (β := β)) := by
  intro as M k res h
  unfold dK_pay at h
  split at h
  ·
    split at h
    · rename_i hc
      obtain ⟨rfl, rfl, rfl⟩ := hc
      exact ⟨_, _, _, rfl⟩
    · cases h
  · cases h
/-! ===== FreeLancesModel.serves(II)I ===== -/
abbrev yK_serves : MethodName := ⟨"FreeLancesModel", "serves", "(II)I"⟩
theorem iK_serves : MI yK_serves prog_13_method_71_code 4 (some .int) 2 := ⟨tw1596, tw108, ⟨by decide, by decide⟩, by decide +kernel, by decide, by decide⟩
def cK_serves : List (Ent (Int32 × Mem)) := [(false, 0, 1, sLdA 0),
  (false, 1, 1, sLdI 1),
  (false, 2, 3, sInv 2 true dK_isCompany),
  (false, 5, 3, sIfEq 15),
  (false, 8, 1, sLdI 2),
  (false, 9, 3, sInv 1 true dK_isDay),
  (false, 12, 3, sIfNe 21),
  (false, 15, 1, sLdA 0),
  (false, 16, 1, sC 1),
  (false, 17, 3, sInv 2 true dK_finds),
  (false, 20, 1, sRetI),
  (false, 21, 1, sLdA 0),
  (false, 22, 1, sLdI 1),
  (false, 23, 1, sLdI 2),
  (false, 24, 3, sInv 3 true dK_servedOn),
  (false, 27, 1, sStI 3),
  (false, 28, 1, sLdI 3),
  (false, 29, 3, sIfGe 40),
  (false, 32, 1, sLdA 0),
  (false, 33, 1, sC 2),
  (false, 34, 3, sInv 2 true dK_finds),
  (false, 37, 3, sGoto 41),
  (false, 40, 1, sLdI 3),
  (false, 41, 1, sRetI)]
theorem oK_serves {E : EV} (hsd : E.2.2.2 = 1) (l : Launch) : AllOK E l 4 "FreeLancesModel" prog_13_method_71_code 4 (some .int) outI (cK_serves) := by
  refine ak (ok_aload_n (k := 0) rfl (by decide +kernel)) ?_
  refine ak (ok_iload_n (k := 1) rfl (by decide +kernel)) ?_
  refine ak (ok_invV (r := 40) (kK_isCompany hsd l) qK_isCompany ck11 kd40 iK_isCompany tw1392 tw44 (by decide) tw1390 (by decide +kernel)) ?_
  refine ak (ok_if_eq (off := 10) (by decide) (by decide +kernel)) ?_
  refine ak (ok_iload_n (k := 2) rfl (by decide +kernel)) ?_
  refine ak (ok_invS (kK_isDay hsd l) iK_isDay tw1475 (by decide) tw1474 (by decide +kernel)) ?_
  refine ak (ok_if_ne (off := 9) (by decide) (by decide +kernel)) ?_
  refine ak (ok_aload_n (k := 0) rfl (by decide +kernel)) ?_
  refine ak (ok_iconst (n := 1) (by decide) (by decide +kernel)) ?_
  refine ak (ok_invV (r := 40) (kK_finds hsd l) qK_finds ck11 kd40 iK_finds tw1334 tw37 (by decide) tw1332 (by decide +kernel)) ?_
  refine ak (ok_ireturn rfl (by decide +kernel)) ?_
  refine ak (ok_aload_n (k := 0) rfl (by decide +kernel)) ?_
  refine ak (ok_iload_n (k := 1) rfl (by decide +kernel)) ?_
  refine ak (ok_iload_n (k := 2) rfl (by decide +kernel)) ?_
  refine ak (ok_invV (r := 40) (kK_servedOn hsd l) qK_servedOn ck11 kd40 iK_servedOn tw1412 tw47 (by decide) tw1410 (by decide +kernel)) ?_
  refine ak (ok_istore_n (k := 3) rfl (by decide) (by decide +kernel)) ?_
  refine ak (ok_iload_n (k := 3) rfl (by decide +kernel)) ?_
  refine ak (ok_if_ge (off := 11) (by decide) (by decide +kernel)) ?_
  refine ak (ok_aload_n (k := 0) rfl (by decide +kernel)) ?_
  refine ak (ok_iconst (n := 2) (by decide) (by decide +kernel)) ?_
  refine ak (ok_invV (r := 40) (kK_finds hsd l) qK_finds ck11 kd40 iK_finds tw1334 tw37 (by decide) tw1332 (by decide +kernel)) ?_
  refine ak (ok_goto (off := 4) (by decide) (by decide +kernel)) ?_
  refine ak (ok_iload_n (k := 3) rfl (by decide +kernel)) ?_
  refine ak (ok_ireturn rfl (by decide +kernel)) ?_
  exact trivial
set_option maxRecDepth 1000000 in
theorem eK_serves (x1 : Int32) (x2 : Int32) (M : Mem) : run (cK_serves) (fun _ _ _ _ => none) rtI 400 (seek (cK_serves) 0) [aR (40, 0, 0), aI x1, aI x2, aU] [] M = mK_serves x1 x2 M := id rfl
theorem lK_serves {E : EV} {l : Launch} {p : Program} {e : Env} {s : State} {m : MethodId} {args : Array Value} {below : List Frame} {meth : Method} {c : Code} (A : AllOK E l 4 "FreeLancesModel" prog_13_method_71_code 4 (some .int) outI (cK_serves)) (C : Cx E p s m args meth c "FreeLancesModel" prog_13_method_71_code 4 (some .int)) : ∀ (x1 : Int32) (x2 : Int32) (M : Mem) (res : (Int32 × Mem)), mK_serves x1 x2 M = some res → Wm E p l e 4 s m args below meth c 4 0 [aR (40, 0, 0), aI x1, aI x2, aU] [] M (outI res).1 (outI res).2 := by
  intro x1 x2 M res h
  refine run_at C A rfl hrtI (n := 400) ((eK_serves x1 x2 M).trans h) ?_
  intro t als st M hk; cases hk
def dK_serves {β : Type} : Den β := fun as M k => match as with
  | [.inr (.inr (.inl (al0, bl0, cl0))), .inl x1, .inl x2] => if al0 = 40 ∧ bl0 = 0 ∧ cl0 = 0 then (mK_serves x1 x2 M).bind fun q => k (aI q.1) q.2 else none
  | _ => none
theorem wK_serves {E : EV} (hsd : E.2.2.2 = 1) (l : Launch) (x1 : Int32) (x2 : Int32) (M : Mem) (q : (Int32 × Mem)) (hq : mK_serves x1 x2 M = some q) : Con E l 4 yK_serves prog_13_method_71_code 4 (some .int) [aR (40, 0, 0), aI x1, aI x2] M (outI q).1 (outI q).2 := by
  refine con_of iK_serves (Nat.le_of_ble_eq_true rfl) ?_
  intro p e s m args below meth c C
  exact lK_serves (oK_serves hsd l) C x1 x2 M _ hq
theorem kK_serves {E : EV} (hsd : E.2.2.2 = 1) (l : Launch) {β : Type} : DenOK E l 4 yK_serves prog_13_method_71_code 4 (some .int) true (dK_serves (β := β)) := by
  intro as M k res h
  unfold dK_serves at h
  split at h
  ·
    split at h
    · rename_i hc
      obtain ⟨rfl, rfl, rfl⟩ := hc
      obtain ⟨q, hq, hk⟩ := Option.bind_eq_some_iff.mp h
      exact ⟨aI q.1, q.2, hk, rfl, wK_serves hsd l _ _ M q hq⟩
    · cases h
  · cases h
theorem qK_serves {β : Type} : RecOK 40 (dK_serves (β := β)) := by
  intro as M k res h
  unfold dK_serves at h
  split at h
  ·
    split at h
    · rename_i hc
      obtain ⟨rfl, rfl, rfl⟩ := hc
      exact ⟨_, _, _, rfl⟩
    · cases h
  · cases h
/-! ===== FreeLancesModel.greater(II)I ===== -/
abbrev yK_greater : MethodName := ⟨"FreeLancesModel", "greater", "(II)I"⟩
theorem iK_greater : MI yK_greater prog_13_method_72_code 2 (some .int) 2 := ⟨tw1611, tw108, ⟨by decide, by decide⟩, by decide +kernel, by decide, by decide⟩
def cK_greater : List (Ent (Int32 × Mem)) := [(false, 0, 1, sLdI 0),
  (false, 1, 1, sLdI 1),
  (false, 2, 3, sCmpLe 9),
  (false, 5, 1, sLdI 0),
  (false, 6, 3, sGoto 10),
  (false, 9, 1, sLdI 1),
  (false, 10, 1, sRetI)]
theorem oK_greater {E : EV} (hsd : E.2.2.2 = 1) (l : Launch) : AllOK E l 1 "FreeLancesModel" prog_13_method_72_code 2 (some .int) outI (cK_greater) := by
  refine ak (ok_iload_n (k := 0) rfl (by decide +kernel)) ?_
  refine ak (ok_iload_n (k := 1) rfl (by decide +kernel)) ?_
  refine ak (ok_icmp_le (off := 7) (by decide) (by decide +kernel)) ?_
  refine ak (ok_iload_n (k := 0) rfl (by decide +kernel)) ?_
  refine ak (ok_goto (off := 4) (by decide) (by decide +kernel)) ?_
  refine ak (ok_iload_n (k := 1) rfl (by decide +kernel)) ?_
  refine ak (ok_ireturn rfl (by decide +kernel)) ?_
  exact trivial
set_option maxRecDepth 1000000 in
theorem eK_greater (x0 : Int32) (x1 : Int32) (M : Mem) : run (cK_greater) (fun _ _ _ _ => none) rtI 400 (seek (cK_greater) 0) [aI x0, aI x1] [] M = mK_greater x0 x1 M := id rfl
theorem lK_greater {E : EV} {l : Launch} {p : Program} {e : Env} {s : State} {m : MethodId} {args : Array Value} {below : List Frame} {meth : Method} {c : Code} (A : AllOK E l 1 "FreeLancesModel" prog_13_method_72_code 2 (some .int) outI (cK_greater)) (C : Cx E p s m args meth c "FreeLancesModel" prog_13_method_72_code 2 (some .int)) : ∀ (x0 : Int32) (x1 : Int32) (M : Mem) (res : (Int32 × Mem)), mK_greater x0 x1 M = some res → Wm E p l e 1 s m args below meth c 2 0 [aI x0, aI x1] [] M (outI res).1 (outI res).2 := by
  intro x0 x1 M res h
  refine run_at C A rfl hrtI (n := 400) ((eK_greater x0 x1 M).trans h) ?_
  intro t als st M hk; cases hk
def dK_greater {β : Type} : Den β := fun as M k => match as with
  | [.inl x0, .inl x1] => (mK_greater x0 x1 M).bind fun q => k (aI q.1) q.2
  | _ => none
theorem wK_greater {E : EV} (hsd : E.2.2.2 = 1) (l : Launch) (x0 : Int32) (x1 : Int32) (M : Mem) (q : (Int32 × Mem)) (hq : mK_greater x0 x1 M = some q) : Con E l 1 yK_greater prog_13_method_72_code 2 (some .int) [aI x0, aI x1] M (outI q).1 (outI q).2 := by
  refine con_of iK_greater (Nat.le_of_ble_eq_true rfl) ?_
  intro p e s m args below meth c C
  exact lK_greater (oK_greater hsd l) C x0 x1 M _ hq
theorem kK_greater {E : EV} (hsd : E.2.2.2 = 1) (l : Launch) {β : Type} : DenOK E l 1 yK_greater prog_13_method_72_code 2 (some .int) true (dK_greater (β := β)) := by
  intro as M k res h
  unfold dK_greater at h
  split at h
  · obtain ⟨q, hq, hk⟩ := Option.bind_eq_some_iff.mp h
    exact ⟨aI q.1, q.2, hk, rfl, wK_greater hsd l _ _ M q hq⟩
  · cases h
/-! ===== FreeLancesModel.both(II)I ===== -/
abbrev yK_both : MethodName := ⟨"FreeLancesModel", "both", "(II)I"⟩
theorem iK_both : MI yK_both prog_13_method_73_code 4 (some .int) 2 := ⟨tw1608, tw108, ⟨by decide, by decide⟩, by decide +kernel, by decide, by decide⟩
def cK_both : List (Ent (Int32 × Mem)) := [(false, 0, 1, sLdA 0),
  (false, 1, 1, sLdI 1),
  (false, 2, 1, sC 2),
  (false, 3, 3, sInv 3 true dK_bond),
  (false, 6, 1, sLdA 0),
  (false, 7, 1, sLdI 2),
  (false, 8, 1, sC 2),
  (false, 9, 3, sInv 3 true dK_bond),
  (false, 12, 3, sInv 2 true dK_greater),
  (false, 15, 1, sStI 3),
  (false, 16, 1, sLdI 3),
  (false, 17, 3, sIfLt 62),
  (false, 20, 1, sLdA 0),
  (false, 21, 1, sLdI 1),
  (false, 22, 1, sC 2),
  (false, 23, 3, sInv 3 true dK_bond),
  (false, 26, 3, sIfLt 62),
  (false, 29, 1, sLdA 0),
  (false, 30, 1, sLdI 2),
  (false, 31, 1, sC 2),
  (false, 32, 3, sInv 3 true dK_bond),
  (false, 35, 3, sIfLt 62),
  (false, 38, 1, sLdI 3),
  (false, 39, 1, sLdA 0),
  (false, 40, 1, sLdI 1),
  (false, 41, 1, sC 3),
  (false, 42, 3, sInv 3 true dK_bond),
  (false, 45, 3, sCmpGt 62),
  (false, 48, 1, sLdI 3),
  (false, 49, 1, sLdA 0),
  (false, 50, 1, sLdI 2),
  (false, 51, 1, sC 3),
  (false, 52, 3, sInv 3 true dK_bond),
  (false, 55, 3, sCmpGt 62),
  (false, 58, 1, sLdI 3),
  (false, 59, 3, sGoto 63),
  (false, 62, 1, sC (-1)),
  (false, 63, 1, sRetI)]
theorem oK_both {E : EV} (hsd : E.2.2.2 = 1) (l : Launch) : AllOK E l 2 "FreeLancesModel" prog_13_method_73_code 4 (some .int) outI (cK_both) := by
  refine ak (ok_aload_n (k := 0) rfl (by decide +kernel)) ?_
  refine ak (ok_iload_n (k := 1) rfl (by decide +kernel)) ?_
  refine ak (ok_iconst (n := 2) (by decide) (by decide +kernel)) ?_
  refine ak (ok_invV (r := 40) (kK_bond hsd l) qK_bond ck11 kd40 iK_bond tw1420 tw49 (by decide) tw1418 (by decide +kernel)) ?_
  refine ak (ok_aload_n (k := 0) rfl (by decide +kernel)) ?_
  refine ak (ok_iload_n (k := 2) rfl (by decide +kernel)) ?_
  refine ak (ok_iconst (n := 2) (by decide) (by decide +kernel)) ?_
  refine ak (ok_invV (r := 40) (kK_bond hsd l) qK_bond ck11 kd40 iK_bond tw1420 tw49 (by decide) tw1418 (by decide +kernel)) ?_
  refine ak (ok_invS (kK_greater hsd l) iK_greater tw1610 (by decide) tw1609 (by decide +kernel)) ?_
  refine ak (ok_istore_n (k := 3) rfl (by decide) (by decide +kernel)) ?_
  refine ak (ok_iload_n (k := 3) rfl (by decide +kernel)) ?_
  refine ak (ok_if_lt (off := 45) (by decide) (by decide +kernel)) ?_
  refine ak (ok_aload_n (k := 0) rfl (by decide +kernel)) ?_
  refine ak (ok_iload_n (k := 1) rfl (by decide +kernel)) ?_
  refine ak (ok_iconst (n := 2) (by decide) (by decide +kernel)) ?_
  refine ak (ok_invV (r := 40) (kK_bond hsd l) qK_bond ck11 kd40 iK_bond tw1420 tw49 (by decide) tw1418 (by decide +kernel)) ?_
  refine ak (ok_if_lt (off := 36) (by decide) (by decide +kernel)) ?_
  refine ak (ok_aload_n (k := 0) rfl (by decide +kernel)) ?_
  refine ak (ok_iload_n (k := 2) rfl (by decide +kernel)) ?_
  refine ak (ok_iconst (n := 2) (by decide) (by decide +kernel)) ?_
  refine ak (ok_invV (r := 40) (kK_bond hsd l) qK_bond ck11 kd40 iK_bond tw1420 tw49 (by decide) tw1418 (by decide +kernel)) ?_
  refine ak (ok_if_lt (off := 27) (by decide) (by decide +kernel)) ?_
  refine ak (ok_iload_n (k := 3) rfl (by decide +kernel)) ?_
  refine ak (ok_aload_n (k := 0) rfl (by decide +kernel)) ?_
  refine ak (ok_iload_n (k := 1) rfl (by decide +kernel)) ?_
  refine ak (ok_iconst (n := 3) (by decide) (by decide +kernel)) ?_
  refine ak (ok_invV (r := 40) (kK_bond hsd l) qK_bond ck11 kd40 iK_bond tw1420 tw49 (by decide) tw1418 (by decide +kernel)) ?_
  refine ak (ok_icmp_gt (off := 17) (by decide) (by decide +kernel)) ?_
  refine ak (ok_iload_n (k := 3) rfl (by decide +kernel)) ?_
  refine ak (ok_aload_n (k := 0) rfl (by decide +kernel)) ?_
  refine ak (ok_iload_n (k := 2) rfl (by decide +kernel)) ?_
  refine ak (ok_iconst (n := 3) (by decide) (by decide +kernel)) ?_
  refine ak (ok_invV (r := 40) (kK_bond hsd l) qK_bond ck11 kd40 iK_bond tw1420 tw49 (by decide) tw1418 (by decide +kernel)) ?_
  refine ak (ok_icmp_gt (off := 7) (by decide) (by decide +kernel)) ?_
  refine ak (ok_iload_n (k := 3) rfl (by decide +kernel)) ?_
  refine ak (ok_goto (off := 4) (by decide) (by decide +kernel)) ?_
  refine ak (ok_iconst (n := (-1)) (by decide) (by decide +kernel)) ?_
  refine ak (ok_ireturn rfl (by decide +kernel)) ?_
  exact trivial
set_option maxRecDepth 1000000 in
theorem eK_both (x1 : Int32) (x2 : Int32) (M : Mem) : run (cK_both) (fun _ _ _ _ => none) rtI 400 (seek (cK_both) 0) [aR (40, 0, 0), aI x1, aI x2, aU] [] M = mK_both x1 x2 M := id rfl
theorem lK_both {E : EV} {l : Launch} {p : Program} {e : Env} {s : State} {m : MethodId} {args : Array Value} {below : List Frame} {meth : Method} {c : Code} (A : AllOK E l 2 "FreeLancesModel" prog_13_method_73_code 4 (some .int) outI (cK_both)) (C : Cx E p s m args meth c "FreeLancesModel" prog_13_method_73_code 4 (some .int)) : ∀ (x1 : Int32) (x2 : Int32) (M : Mem) (res : (Int32 × Mem)), mK_both x1 x2 M = some res → Wm E p l e 2 s m args below meth c 4 0 [aR (40, 0, 0), aI x1, aI x2, aU] [] M (outI res).1 (outI res).2 := by
  intro x1 x2 M res h
  refine run_at C A rfl hrtI (n := 400) ((eK_both x1 x2 M).trans h) ?_
  intro t als st M hk; cases hk
def dK_both {β : Type} : Den β := fun as M k => match as with
  | [.inr (.inr (.inl (al0, bl0, cl0))), .inl x1, .inl x2] => if al0 = 40 ∧ bl0 = 0 ∧ cl0 = 0 then (mK_both x1 x2 M).bind fun q => k (aI q.1) q.2 else none
  | _ => none
theorem wK_both {E : EV} (hsd : E.2.2.2 = 1) (l : Launch) (x1 : Int32) (x2 : Int32) (M : Mem) (q : (Int32 × Mem)) (hq : mK_both x1 x2 M = some q) : Con E l 2 yK_both prog_13_method_73_code 4 (some .int) [aR (40, 0, 0), aI x1, aI x2] M (outI q).1 (outI q).2 := by
  refine con_of iK_both (Nat.le_of_ble_eq_true rfl) ?_
  intro p e s m args below meth c C
  exact lK_both (oK_both hsd l) C x1 x2 M _ hq
theorem kK_both {E : EV} (hsd : E.2.2.2 = 1) (l : Launch) {β : Type} : DenOK E l 2 yK_both prog_13_method_73_code 4 (some .int) true (dK_both (β := β)) := by
  intro as M k res h
  unfold dK_both at h
  split at h
  ·
    split at h
    · rename_i hc
      obtain ⟨rfl, rfl, rfl⟩ := hc
      obtain ⟨q, hq, hk⟩ := Option.bind_eq_some_iff.mp h
      exact ⟨aI q.1, q.2, hk, rfl, wK_both hsd l _ _ M q hq⟩
    · cases h
  · cases h
theorem qK_both {β : Type} : RecOK 40 (dK_both (β := β)) := by
  intro as M k res h
  unfold dK_both at h
  split at h
  ·
    split at h
    · rename_i hc
      obtain ⟨rfl, rfl, rfl⟩ := hc
      exact ⟨_, _, _, rfl⟩
    · cases h
  · cases h
/-! ===== FreeLancesModel.clashes(II)I ===== -/
abbrev yK_clashes : MethodName := ⟨"FreeLancesModel", "clashes", "(II)I"⟩
theorem iK_clashes : MI yK_clashes prog_13_method_74_code 10 (some .int) 2 := ⟨tw1615, tw108, ⟨by decide, by decide⟩, by decide +kernel, by decide, by decide⟩
def cK_clashes : List (Ent (Int32 × Mem)) := [(false, 0, 1, sLdA 0),
  (false, 1, 1, sLdI 1),
  (false, 2, 2, sC 6),
  (false, 4, 3, sInv 3 true dK_bond),
  (false, 7, 1, sStI 3),
  (false, 8, 1, sLdA 0),
  (false, 9, 1, sLdI 1),
  (false, 10, 1, sC 1),
  (false, 11, 3, sInv 3 true dK_bond),
  (false, 14, 2, sStI 4),
  (false, 16, 1, sLdI 3),
  (false, 17, 3, sIfLt 29),
  (false, 20, 1, sLdA 0),
  (false, 21, 1, sLdI 1),
  (false, 22, 1, sLdI 2),
  (false, 23, 3, sInv 3 true dK_both),
  (false, 26, 3, sIfGe 31),
  (false, 29, 1, sC (-1)),
  (false, 30, 1, sRetI),
  (false, 31, 1, sLdA 0),
  (false, 32, 1, sLdI 2),
  (false, 33, 1, sC 0),
  (false, 34, 3, sInv 3 true dK_bond),
  (false, 37, 2, sC 6),
  (false, 39, 3, sCmpNe 74),
  (false, 42, 1, sLdA 0),
  (false, 43, 1, sLdI 2),
  (false, 44, 1, sC 1),
  (false, 45, 3, sInv 3 true dK_bond),
  (false, 48, 2, sLdI 4),
  (false, 50, 3, sCmpNe 72),
  (false, 53, 1, sLdA 0),
  (false, 54, 1, sLdI 2),
  (false, 55, 1, sC 5),
  (false, 56, 3, sInv 3 true dK_bond),
  (false, 59, 1, sLdI 3),
  (false, 60, 3, sCmpNe 72),
  (false, 63, 1, sLdA 0),
  (false, 64, 1, sLdI 1),
  (false, 65, 1, sLdI 2),
  (false, 66, 3, sInv 3 true dK_both),
  (false, 69, 3, sGoto 73),
  (false, 72, 1, sC (-1)),
  (false, 73, 1, sRetI),
  (false, 74, 1, sLdA 0),
  (false, 75, 1, sLdI 2),
  (false, 76, 1, sC 0),
  (false, 77, 3, sInv 3 true dK_bond),
  (false, 80, 1, sC 4),
  (false, 81, 3, sCmpNe 107),
  (false, 84, 1, sLdA 0),
  (false, 85, 1, sLdI 2),
  (false, 86, 1, sC 1),
  (false, 87, 3, sInv 3 true dK_bond),
  (false, 90, 2, sLdI 4),
  (false, 92, 3, sCmpEq 109),
  (false, 95, 1, sLdA 0),
  (false, 96, 1, sLdI 2),
  (false, 97, 2, sC 7),
  (false, 99, 3, sInv 3 true dK_bond),
  (false, 102, 2, sLdI 4),
  (false, 104, 3, sCmpEq 109),
  (false, 107, 1, sC (-1)),
  (false, 108, 1, sRetI),
  (false, 109, 1, sLdA 0),
  (false, 110, 1, sLdI 2),
  (false, 111, 1, sC 1),
  (false, 112, 3, sInv 3 true dK_bond),
  (false, 115, 2, sLdI 4),
  (false, 117, 3, sCmpNe 130),
  (false, 120, 1, sLdA 0),
  (false, 121, 1, sLdI 2),
  (false, 122, 2, sC 7),
  (false, 124, 3, sInv 3 true dK_bond),
  (false, 127, 3, sGoto 136),
  (false, 130, 1, sLdA 0),
  (false, 131, 1, sLdI 2),
  (false, 132, 1, sC 1),
  (false, 133, 3, sInv 3 true dK_bond),
  (false, 136, 2, sStI 5),
  (false, 138, 1, sC (-1)),
  (false, 139, 2, sStI 6),
  (false, 141, 1, sC 0),
  (false, 142, 2, sStI 7),
  (true, 144, 2, sLdI 7),
  (false, 146, 1, sLdA 0),
  (false, 147, 3, sGet 40 (fun w i M => aR (41, 0, 0))),
  (false, 150, 1, sC 5),
  (false, 151, 1, sIald 41 1502),
  (false, 152, 3, sCmpGe 278),
  (false, 155, 1, sLdA 0),
  (false, 156, 2, sLdI 7),
  (false, 158, 3, sInv 2 true dK_isContract),
  (false, 161, 3, sIfEq 272),
  (false, 164, 1, sLdA 0),
  (false, 165, 2, sLdI 7),
  (false, 167, 1, sC 1),
  (false, 168, 3, sInv 3 true dK_bond),
  (false, 171, 2, sLdI 5),
  (false, 173, 3, sCmpNe 272),
  (false, 176, 1, sLdA 0),
  (false, 177, 2, sLdI 7),
  (false, 179, 1, sC 5),
  (false, 180, 3, sInv 3 true dK_bond),
  (false, 183, 1, sLdI 3),
  (false, 184, 3, sCmpEq 190),
  (false, 187, 3, sGoto 272),
  (false, 190, 1, sLdA 0),
  (false, 191, 1, sLdI 1),
  (false, 192, 1, sLdI 2),
  (false, 193, 3, sInv 3 true dK_both),
  (false, 196, 1, sLdA 0),
  (false, 197, 2, sLdI 7),
  (false, 199, 1, sC 2),
  (false, 200, 3, sInv 3 true dK_bond),
  (false, 203, 3, sInv 2 true dK_greater),
  (false, 206, 2, sStI 8),
  (false, 208, 1, sLdA 0),
  (false, 209, 1, sLdI 1),
  (false, 210, 2, sLdI 8),
  (false, 212, 3, sInv 3 true dK_isIn),
  (false, 215, 3, sIfEq 243),
  (false, 218, 1, sLdA 0),
  (false, 219, 1, sLdI 2),
  (false, 220, 2, sLdI 8),
  (false, 222, 3, sInv 3 true dK_isIn),
  (false, 225, 3, sIfEq 243),
  (false, 228, 1, sLdA 0),
  (false, 229, 2, sLdI 7),
  (false, 231, 2, sLdI 8),
  (false, 233, 3, sInv 3 true dK_isIn),
  (false, 236, 3, sIfEq 243),
  (false, 239, 1, sC 1),
  (false, 240, 3, sGoto 244),
  (true, 243, 1, sC 0),
  (false, 244, 2, sStI 9),
  (false, 246, 2, sLdI 9),
  (false, 248, 3, sIfEq 268),
  (false, 251, 2, sLdI 6),
  (false, 253, 3, sIfLt 263),
  (false, 256, 2, sLdI 8),
  (false, 258, 2, sLdI 6),
  (false, 260, 3, sCmpGe 268),
  (false, 263, 2, sLdI 8),
  (false, 265, 3, sGoto 270),
  (false, 268, 2, sLdI 6),
  (false, 270, 2, sStI 6),
  (false, 272, 3, sInc 7 1),
  (false, 275, 3, sGoto 144),
  (false, 278, 2, sLdI 6),
  (false, 280, 1, sRetI)]
theorem oK_clashes {E : EV} (hsd : E.2.2.2 = 1) (l : Launch) : AllOK E l 3 "FreeLancesModel" prog_13_method_74_code 10 (some .int) outI (cK_clashes) := by
  refine ak (ok_aload_n (k := 0) rfl (by decide +kernel)) ?_
  refine ak (ok_iload_n (k := 1) rfl (by decide +kernel)) ?_
  refine ak (ok_bipush (n := 6) (by decide) (by decide +kernel)) ?_
  refine ak (ok_invV (r := 40) (kK_bond hsd l) qK_bond ck11 kd40 iK_bond tw1420 tw49 (by decide) tw1418 (by decide +kernel)) ?_
  refine ak (ok_istore_n (k := 3) rfl (by decide) (by decide +kernel)) ?_
  refine ak (ok_aload_n (k := 0) rfl (by decide +kernel)) ?_
  refine ak (ok_iload_n (k := 1) rfl (by decide +kernel)) ?_
  refine ak (ok_iconst (n := 1) (by decide) (by decide +kernel)) ?_
  refine ak (ok_invV (r := 40) (kK_bond hsd l) qK_bond ck11 kd40 iK_bond tw1420 tw49 (by decide) tw1418 (by decide +kernel)) ?_
  refine ak (ok_istore (by decide) (by decide +kernel)) ?_
  refine ak (ok_iload_n (k := 3) rfl (by decide +kernel)) ?_
  refine ak (ok_if_lt (off := 12) (by decide) (by decide +kernel)) ?_
  refine ak (ok_aload_n (k := 0) rfl (by decide +kernel)) ?_
  refine ak (ok_iload_n (k := 1) rfl (by decide +kernel)) ?_
  refine ak (ok_iload_n (k := 2) rfl (by decide +kernel)) ?_
  refine ak (ok_invV (r := 40) (kK_both hsd l) qK_both ck11 kd40 iK_both tw1607 tw71 (by decide) tw1605 (by decide +kernel)) ?_
  refine ak (ok_if_ge (off := 5) (by decide) (by decide +kernel)) ?_
  refine ak (ok_iconst (n := (-1)) (by decide) (by decide +kernel)) ?_
  refine ak (ok_ireturn rfl (by decide +kernel)) ?_
  refine ak (ok_aload_n (k := 0) rfl (by decide +kernel)) ?_
  refine ak (ok_iload_n (k := 2) rfl (by decide +kernel)) ?_
  refine ak (ok_iconst (n := 0) (by decide) (by decide +kernel)) ?_
  refine ak (ok_invV (r := 40) (kK_bond hsd l) qK_bond ck11 kd40 iK_bond tw1420 tw49 (by decide) tw1418 (by decide +kernel)) ?_
  refine ak (ok_bipush (n := 6) (by decide) (by decide +kernel)) ?_
  refine ak (ok_icmp_ne (off := 35) (by decide) (by decide +kernel)) ?_
  refine ak (ok_aload_n (k := 0) rfl (by decide +kernel)) ?_
  refine ak (ok_iload_n (k := 2) rfl (by decide +kernel)) ?_
  refine ak (ok_iconst (n := 1) (by decide) (by decide +kernel)) ?_
  refine ak (ok_invV (r := 40) (kK_bond hsd l) qK_bond ck11 kd40 iK_bond tw1420 tw49 (by decide) tw1418 (by decide +kernel)) ?_
  refine ak (ok_iload (by decide +kernel)) ?_
  refine ak (ok_icmp_ne (off := 22) (by decide) (by decide +kernel)) ?_
  refine ak (ok_aload_n (k := 0) rfl (by decide +kernel)) ?_
  refine ak (ok_iload_n (k := 2) rfl (by decide +kernel)) ?_
  refine ak (ok_iconst (n := 5) (by decide) (by decide +kernel)) ?_
  refine ak (ok_invV (r := 40) (kK_bond hsd l) qK_bond ck11 kd40 iK_bond tw1420 tw49 (by decide) tw1418 (by decide +kernel)) ?_
  refine ak (ok_iload_n (k := 3) rfl (by decide +kernel)) ?_
  refine ak (ok_icmp_ne (off := 12) (by decide) (by decide +kernel)) ?_
  refine ak (ok_aload_n (k := 0) rfl (by decide +kernel)) ?_
  refine ak (ok_iload_n (k := 1) rfl (by decide +kernel)) ?_
  refine ak (ok_iload_n (k := 2) rfl (by decide +kernel)) ?_
  refine ak (ok_invV (r := 40) (kK_both hsd l) qK_both ck11 kd40 iK_both tw1607 tw71 (by decide) tw1605 (by decide +kernel)) ?_
  refine ak (ok_goto (off := 4) (by decide) (by decide +kernel)) ?_
  refine ak (ok_iconst (n := (-1)) (by decide) (by decide +kernel)) ?_
  refine ak (ok_ireturn rfl (by decide +kernel)) ?_
  refine ak (ok_aload_n (k := 0) rfl (by decide +kernel)) ?_
  refine ak (ok_iload_n (k := 2) rfl (by decide +kernel)) ?_
  refine ak (ok_iconst (n := 0) (by decide) (by decide +kernel)) ?_
  refine ak (ok_invV (r := 40) (kK_bond hsd l) qK_bond ck11 kd40 iK_bond tw1420 tw49 (by decide) tw1418 (by decide +kernel)) ?_
  refine ak (ok_iconst (n := 4) (by decide) (by decide +kernel)) ?_
  refine ak (ok_icmp_ne (off := 26) (by decide) (by decide +kernel)) ?_
  refine ak (ok_aload_n (k := 0) rfl (by decide +kernel)) ?_
  refine ak (ok_iload_n (k := 2) rfl (by decide +kernel)) ?_
  refine ak (ok_iconst (n := 1) (by decide) (by decide +kernel)) ?_
  refine ak (ok_invV (r := 40) (kK_bond hsd l) qK_bond ck11 kd40 iK_bond tw1420 tw49 (by decide) tw1418 (by decide +kernel)) ?_
  refine ak (ok_iload (by decide +kernel)) ?_
  refine ak (ok_icmp_eq (off := 17) (by decide) (by decide +kernel)) ?_
  refine ak (ok_aload_n (k := 0) rfl (by decide +kernel)) ?_
  refine ak (ok_iload_n (k := 2) rfl (by decide +kernel)) ?_
  refine ak (ok_bipush (n := 7) (by decide) (by decide +kernel)) ?_
  refine ak (ok_invV (r := 40) (kK_bond hsd l) qK_bond ck11 kd40 iK_bond tw1420 tw49 (by decide) tw1418 (by decide +kernel)) ?_
  refine ak (ok_iload (by decide +kernel)) ?_
  refine ak (ok_icmp_eq (off := 5) (by decide) (by decide +kernel)) ?_
  refine ak (ok_iconst (n := (-1)) (by decide) (by decide +kernel)) ?_
  refine ak (ok_ireturn rfl (by decide +kernel)) ?_
  refine ak (ok_aload_n (k := 0) rfl (by decide +kernel)) ?_
  refine ak (ok_iload_n (k := 2) rfl (by decide +kernel)) ?_
  refine ak (ok_iconst (n := 1) (by decide) (by decide +kernel)) ?_
  refine ak (ok_invV (r := 40) (kK_bond hsd l) qK_bond ck11 kd40 iK_bond tw1420 tw49 (by decide) tw1418 (by decide +kernel)) ?_
  refine ak (ok_iload (by decide +kernel)) ?_
  refine ak (ok_icmp_ne (off := 13) (by decide) (by decide +kernel)) ?_
  refine ak (ok_aload_n (k := 0) rfl (by decide +kernel)) ?_
  refine ak (ok_iload_n (k := 2) rfl (by decide +kernel)) ?_
  refine ak (ok_bipush (n := 7) (by decide) (by decide +kernel)) ?_
  refine ak (ok_invV (r := 40) (kK_bond hsd l) qK_bond ck11 kd40 iK_bond tw1420 tw49 (by decide) tw1418 (by decide +kernel)) ?_
  refine ak (ok_goto (off := 9) (by decide) (by decide +kernel)) ?_
  refine ak (ok_aload_n (k := 0) rfl (by decide +kernel)) ?_
  refine ak (ok_iload_n (k := 2) rfl (by decide +kernel)) ?_
  refine ak (ok_iconst (n := 1) (by decide) (by decide +kernel)) ?_
  refine ak (ok_invV (r := 40) (kK_bond hsd l) qK_bond ck11 kd40 iK_bond tw1420 tw49 (by decide) tw1418 (by decide +kernel)) ?_
  refine ak (ok_istore (by decide) (by decide +kernel)) ?_
  refine ak (ok_iconst (n := (-1)) (by decide) (by decide +kernel)) ?_
  refine ak (ok_istore (by decide) (by decide +kernel)) ?_
  refine ak (ok_iconst (n := 0) (by decide) (by decide +kernel)) ?_
  refine ak (ok_istore (by decide) (by decide +kernel)) ?_
  refine ak (ok_iload (by decide +kernel)) ?_
  refine ak (ok_aload_n (k := 0) rfl (by decide +kernel)) ?_
  refine ak (ok_get (k := 0) ck11 kd40 (by decide) (fun _ _ _ => rfl) (vf_40_0 hsd) tw1242 (by decide +kernel)) ?_
  refine ak (ok_iconst (n := 5) (by decide) (by decide +kernel)) ?_
  refine ak (ok_iald kd41 (by decide) (by decide +kernel)) ?_
  refine ak (ok_icmp_ge (off := 126) (by decide) (by decide +kernel)) ?_
  refine ak (ok_aload_n (k := 0) rfl (by decide +kernel)) ?_
  refine ak (ok_iload (by decide +kernel)) ?_
  refine ak (ok_invV (r := 40) (kK_isContract hsd l) qK_isContract ck11 kd40 iK_isContract tw1416 tw48 (by decide) tw1414 (by decide +kernel)) ?_
  refine ak (ok_if_eq (off := 111) (by decide) (by decide +kernel)) ?_
  refine ak (ok_aload_n (k := 0) rfl (by decide +kernel)) ?_
  refine ak (ok_iload (by decide +kernel)) ?_
  refine ak (ok_iconst (n := 1) (by decide) (by decide +kernel)) ?_
  refine ak (ok_invV (r := 40) (kK_bond hsd l) qK_bond ck11 kd40 iK_bond tw1420 tw49 (by decide) tw1418 (by decide +kernel)) ?_
  refine ak (ok_iload (by decide +kernel)) ?_
  refine ak (ok_icmp_ne (off := 99) (by decide) (by decide +kernel)) ?_
  refine ak (ok_aload_n (k := 0) rfl (by decide +kernel)) ?_
  refine ak (ok_iload (by decide +kernel)) ?_
  refine ak (ok_iconst (n := 5) (by decide) (by decide +kernel)) ?_
  refine ak (ok_invV (r := 40) (kK_bond hsd l) qK_bond ck11 kd40 iK_bond tw1420 tw49 (by decide) tw1418 (by decide +kernel)) ?_
  refine ak (ok_iload_n (k := 3) rfl (by decide +kernel)) ?_
  refine ak (ok_icmp_eq (off := 6) (by decide) (by decide +kernel)) ?_
  refine ak (ok_goto (off := 85) (by decide) (by decide +kernel)) ?_
  refine ak (ok_aload_n (k := 0) rfl (by decide +kernel)) ?_
  refine ak (ok_iload_n (k := 1) rfl (by decide +kernel)) ?_
  refine ak (ok_iload_n (k := 2) rfl (by decide +kernel)) ?_
  refine ak (ok_invV (r := 40) (kK_both hsd l) qK_both ck11 kd40 iK_both tw1607 tw71 (by decide) tw1605 (by decide +kernel)) ?_
  refine ak (ok_aload_n (k := 0) rfl (by decide +kernel)) ?_
  refine ak (ok_iload (by decide +kernel)) ?_
  refine ak (ok_iconst (n := 2) (by decide) (by decide +kernel)) ?_
  refine ak (ok_invV (r := 40) (kK_bond hsd l) qK_bond ck11 kd40 iK_bond tw1420 tw49 (by decide) tw1418 (by decide +kernel)) ?_
  refine ak (ok_invS (kK_greater hsd l) iK_greater tw1610 (by decide) tw1609 (by decide +kernel)) ?_
  refine ak (ok_istore (by decide) (by decide +kernel)) ?_
  refine ak (ok_aload_n (k := 0) rfl (by decide +kernel)) ?_
  refine ak (ok_iload_n (k := 1) rfl (by decide +kernel)) ?_
  refine ak (ok_iload (by decide +kernel)) ?_
  refine ak (ok_invV (r := 40) (kK_isIn hsd l) qK_isIn ck11 kd40 iK_isIn tw1424 tw50 (by decide) tw1422 (by decide +kernel)) ?_
  refine ak (ok_if_eq (off := 28) (by decide) (by decide +kernel)) ?_
  refine ak (ok_aload_n (k := 0) rfl (by decide +kernel)) ?_
  refine ak (ok_iload_n (k := 2) rfl (by decide +kernel)) ?_
  refine ak (ok_iload (by decide +kernel)) ?_
  refine ak (ok_invV (r := 40) (kK_isIn hsd l) qK_isIn ck11 kd40 iK_isIn tw1424 tw50 (by decide) tw1422 (by decide +kernel)) ?_
  refine ak (ok_if_eq (off := 18) (by decide) (by decide +kernel)) ?_
  refine ak (ok_aload_n (k := 0) rfl (by decide +kernel)) ?_
  refine ak (ok_iload (by decide +kernel)) ?_
  refine ak (ok_iload (by decide +kernel)) ?_
  refine ak (ok_invV (r := 40) (kK_isIn hsd l) qK_isIn ck11 kd40 iK_isIn tw1424 tw50 (by decide) tw1422 (by decide +kernel)) ?_
  refine ak (ok_if_eq (off := 7) (by decide) (by decide +kernel)) ?_
  refine ak (ok_iconst (n := 1) (by decide) (by decide +kernel)) ?_
  refine ak (ok_goto (off := 4) (by decide) (by decide +kernel)) ?_
  refine ak (ok_iconst (n := 0) (by decide) (by decide +kernel)) ?_
  refine ak (ok_istore (by decide) (by decide +kernel)) ?_
  refine ak (ok_iload (by decide +kernel)) ?_
  refine ak (ok_if_eq (off := 20) (by decide) (by decide +kernel)) ?_
  refine ak (ok_iload (by decide +kernel)) ?_
  refine ak (ok_if_lt (off := 10) (by decide) (by decide +kernel)) ?_
  refine ak (ok_iload (by decide +kernel)) ?_
  refine ak (ok_iload (by decide +kernel)) ?_
  refine ak (ok_icmp_ge (off := 8) (by decide) (by decide +kernel)) ?_
  refine ak (ok_iload (by decide +kernel)) ?_
  refine ak (ok_goto (off := 5) (by decide) (by decide +kernel)) ?_
  refine ak (ok_iload (by decide +kernel)) ?_
  refine ak (ok_istore (by decide) (by decide +kernel)) ?_
  refine ak (ok_iinc (n := 1) (by decide) (by decide) (by decide +kernel)) ?_
  refine ak (ok_goto (off := (-131)) (by decide) (by decide +kernel)) ?_
  refine ak (ok_iload (by decide +kernel)) ?_
  refine ak (ok_ireturn rfl (by decide +kernel)) ?_
  exact trivial
def KK_clashes_243 (j144 : Int32 → Int32 → Int32 → Int32 → Int32 → Int32 → Mem → Option (Int32 × Mem)) : Jm (Int32 × Mem) := fun t als st M =>
  if t = 144 then (match als, st with
  | [.inr (.inr (.inl (al0, bl0, cl0))), .inl x1, .inl x2, .inl x3, _, .inl x5, .inl x6, .inl x7, _, _], [] => if al0 = 40 ∧ bl0 = 0 ∧ cl0 = 0 then j144 x1 x2 x3 x5 x6 x7 M else none
  | _, _ => none) else
  none
set_option maxRecDepth 1000000 in
theorem eK_clashes_243 (j144 : Int32 → Int32 → Int32 → Int32 → Int32 → Int32 → Mem → Option (Int32 × Mem)) (x1 : Int32) (x2 : Int32) (x3 : Int32) (x5 : Int32) (x6 : Int32) (x7 : Int32) (x8 : Int32) (M : Mem) (u4 u9 : AV) : run (cK_clashes) (KK_clashes_243 j144) rtI 400 (seek (cK_clashes) 243) [aR (40, 0, 0), aI x1, aI x2, aI x3, u4, aI x5, aI x6, aI x7, aI x8, u9] [] M = mK_clashes_243b j144 x1 x2 x3 x5 x6 x7 x8 M := id rfl
theorem lK_clashes_243 {E : EV} {l : Launch} {p : Program} {e : Env} {s : State} {m : MethodId} {args : Array Value} {below : List Frame} {meth : Method} {c : Code} (A : AllOK E l 3 "FreeLancesModel" prog_13_method_74_code 10 (some .int) outI (cK_clashes)) (C : Cx E p s m args meth c "FreeLancesModel" prog_13_method_74_code 10 (some .int)) {r144 : Int32 → Int32 → Int32 → Int32 → Int32 → Int32 → Mem → Option (Int32 × Mem)} (H144 : ∀ (x1 : Int32) (x2 : Int32) (x3 : Int32) (x5 : Int32) (x6 : Int32) (x7 : Int32) (M : Mem) (res : (Int32 × Mem)), r144 x1 x2 x3 x5 x6 x7 M = some res → ∀ (u4 u8 u9 : AV), Wm E p l e 3 s m args below meth c 10 144 [aR (40, 0, 0), aI x1, aI x2, aI x3, u4, aI x5, aI x6, aI x7, u8, u9] [] M (outI res).1 (outI res).2) : ∀ (x1 : Int32) (x2 : Int32) (x3 : Int32) (x5 : Int32) (x6 : Int32) (x7 : Int32) (x8 : Int32) (M : Mem) (res : (Int32 × Mem)), mK_clashes_243 r144 x1 x2 x3 x5 x6 x7 x8 M = some res → ∀ (u4 u9 : AV), Wm E p l e 3 s m args below meth c 10 243 [aR (40, 0, 0), aI x1, aI x2, aI x3, u4, aI x5, aI x6, aI x7, aI x8, u9] [] M (outI res).1 (outI res).2 := by
  intro x1 x2 x3 x5 x6 x7 x8 M res h u4 u9
  refine run_at C A rfl hrtI (n := 400) ((eK_clashes_243 r144 x1 x2 x3 x5 x6 x7 x8 M u4 u9).trans h) ?_
  intro t als st M hk
  unfold KK_clashes_243 at hk
  split at hk
  · rename_i ht
    subst ht
    split at hk
    · split at hk
      · rename_i hc
        obtain ⟨rfl, rfl, rfl⟩ := hc
        exact H144 _ _ _ _ _ _ _ _ hk _ _ _
      · cases hk
    · cases hk
  cases hk
def KK_clashes_144 (j144 : Int32 → Int32 → Int32 → Int32 → Int32 → Int32 → Mem → Option (Int32 × Mem)) (j243 : Int32 → Int32 → Int32 → Int32 → Int32 → Int32 → Int32 → Mem → Option (Int32 × Mem)) : Jm (Int32 × Mem) := fun t als st M =>
  if t = 144 then (match als, st with
  | [.inr (.inr (.inl (al0, bl0, cl0))), .inl x1, .inl x2, .inl x3, _, .inl x5, .inl x6, .inl x7, _, _], [] => if al0 = 40 ∧ bl0 = 0 ∧ cl0 = 0 then j144 x1 x2 x3 x5 x6 x7 M else none
  | _, _ => none) else
  if t = 243 then (match als, st with
  | [.inr (.inr (.inl (al0, bl0, cl0))), .inl x1, .inl x2, .inl x3, _, .inl x5, .inl x6, .inl x7, .inl x8, _], [] => if al0 = 40 ∧ bl0 = 0 ∧ cl0 = 0 then j243 x1 x2 x3 x5 x6 x7 x8 M else none
  | _, _ => none) else
  none
set_option maxRecDepth 1000000 in
theorem eK_clashes_144 (j144 : Int32 → Int32 → Int32 → Int32 → Int32 → Int32 → Mem → Option (Int32 × Mem)) (j243 : Int32 → Int32 → Int32 → Int32 → Int32 → Int32 → Int32 → Mem → Option (Int32 × Mem)) (x1 : Int32) (x2 : Int32) (x3 : Int32) (x5 : Int32) (x6 : Int32) (x7 : Int32) (M : Mem) (u4 u8 u9 : AV) : run (cK_clashes) (KK_clashes_144 j144 j243) rtI 400 (seek (cK_clashes) 144) [aR (40, 0, 0), aI x1, aI x2, aI x3, u4, aI x5, aI x6, aI x7, u8, u9] [] M = mK_clashes_144b j144 j243 x1 x2 x3 x5 x6 x7 M := id rfl
theorem lK_clashes_144 {E : EV} {l : Launch} {p : Program} {e : Env} {s : State} {m : MethodId} {args : Array Value} {below : List Frame} {meth : Method} {c : Code} (A : AllOK E l 3 "FreeLancesModel" prog_13_method_74_code 10 (some .int) outI (cK_clashes)) (C : Cx E p s m args meth c "FreeLancesModel" prog_13_method_74_code 10 (some .int)) : ∀ (n : Nat), ∀ (x1 : Int32) (x2 : Int32) (x3 : Int32) (x5 : Int32) (x6 : Int32) (x7 : Int32) (M : Mem) (res : (Int32 × Mem)), mK_clashes_144 n x1 x2 x3 x5 x6 x7 M = some res → ∀ (u4 u8 u9 : AV), Wm E p l e 3 s m args below meth c 10 144 [aR (40, 0, 0), aI x1, aI x2, aI x3, u4, aI x5, aI x6, aI x7, u8, u9] [] M (outI res).1 (outI res).2 := by
  intro n
  induction n with
  | zero => intro _ _ _ _ _ _ M res h; cases h
  | succ n ih =>
    intro x1 x2 x3 x5 x6 x7 M res h u4 u8 u9
    refine run_at C A rfl hrtI (n := 400) ((eK_clashes_144 (mK_clashes_144 n) (mK_clashes_243 (mK_clashes_144 n)) x1 x2 x3 x5 x6 x7 M u4 u8 u9).trans h) ?_
    intro t als st M hk
    unfold KK_clashes_144 at hk
    split at hk
    · rename_i ht
      subst ht
      split at hk
      · split at hk
        · rename_i hc
          obtain ⟨rfl, rfl, rfl⟩ := hc
          exact ih _ _ _ _ _ _ _ _ hk _ _ _
        · cases hk
      · cases hk
    split at hk
    · rename_i ht
      subst ht
      split at hk
      · split at hk
        · rename_i hc
          obtain ⟨rfl, rfl, rfl⟩ := hc
          exact lK_clashes_243 A C ih _ _ _ _ _ _ _ _ _ hk _ _
        · cases hk
      · cases hk
    cases hk
def KK_clashes (j144 : Int32 → Int32 → Int32 → Int32 → Int32 → Int32 → Mem → Option (Int32 × Mem)) : Jm (Int32 × Mem) := fun t als st M =>
  if t = 144 then (match als, st with
  | [.inr (.inr (.inl (al0, bl0, cl0))), .inl x1, .inl x2, .inl x3, _, .inl x5, .inl x6, .inl x7, _, _], [] => if al0 = 40 ∧ bl0 = 0 ∧ cl0 = 0 then j144 x1 x2 x3 x5 x6 x7 M else none
  | _, _ => none) else
  none
set_option maxRecDepth 1000000 in
theorem eK_clashes (j144 : Int32 → Int32 → Int32 → Int32 → Int32 → Int32 → Mem → Option (Int32 × Mem)) (x1 : Int32) (x2 : Int32) (M : Mem) : run (cK_clashes) (KK_clashes j144) rtI 400 (seek (cK_clashes) 0) [aR (40, 0, 0), aI x1, aI x2, aU, aU, aU, aU, aU, aU, aU] [] M = mK_clashesb j144 x1 x2 M := id rfl
theorem lK_clashes {E : EV} {l : Launch} {p : Program} {e : Env} {s : State} {m : MethodId} {args : Array Value} {below : List Frame} {meth : Method} {c : Code} (A : AllOK E l 3 "FreeLancesModel" prog_13_method_74_code 10 (some .int) outI (cK_clashes)) (C : Cx E p s m args meth c "FreeLancesModel" prog_13_method_74_code 10 (some .int)) : ∀ (x1 : Int32) (x2 : Int32) (M : Mem) (res : (Int32 × Mem)), mK_clashes x1 x2 M = some res → Wm E p l e 3 s m args below meth c 10 0 [aR (40, 0, 0), aI x1, aI x2, aU, aU, aU, aU, aU, aU, aU] [] M (outI res).1 (outI res).2 := by
  intro x1 x2 M res h
  refine run_at C A rfl hrtI (n := 400) ((eK_clashes (mK_clashes_144 fuel) x1 x2 M).trans h) ?_
  intro t als st M hk
  unfold KK_clashes at hk
  split at hk
  · rename_i ht
    subst ht
    split at hk
    · split at hk
      · rename_i hc
        obtain ⟨rfl, rfl, rfl⟩ := hc
        exact lK_clashes_144 A C _ _ _ _ _ _ _ _ _ hk _ _ _
      · cases hk
    · cases hk
  cases hk
def dK_clashes {β : Type} : Den β := fun as M k => match as with
  | [.inr (.inr (.inl (al0, bl0, cl0))), .inl x1, .inl x2] => if al0 = 40 ∧ bl0 = 0 ∧ cl0 = 0 then (mK_clashes x1 x2 M).bind fun q => k (aI q.1) q.2 else none
  | _ => none
theorem wK_clashes {E : EV} (hsd : E.2.2.2 = 1) (l : Launch) (x1 : Int32) (x2 : Int32) (M : Mem) (q : (Int32 × Mem)) (hq : mK_clashes x1 x2 M = some q) : Con E l 3 yK_clashes prog_13_method_74_code 10 (some .int) [aR (40, 0, 0), aI x1, aI x2] M (outI q).1 (outI q).2 := by
  refine con_of iK_clashes (Nat.le_of_ble_eq_true rfl) ?_
  intro p e s m args below meth c C
  exact lK_clashes (oK_clashes hsd l) C x1 x2 M _ hq
theorem kK_clashes {E : EV} (hsd : E.2.2.2 = 1) (l : Launch) {β : Type} : DenOK E l 3 yK_clashes prog_13_method_74_code 10 (some .int) true (dK_clashes (β := β)) := by
  intro as M k res h
  unfold dK_clashes at h
  split at h
  ·
    split at h
    · rename_i hc
      obtain ⟨rfl, rfl, rfl⟩ := hc
      obtain ⟨q, hq, hk⟩ := Option.bind_eq_some_iff.mp h
      exact ⟨aI q.1, q.2, hk, rfl, wK_clashes hsd l _ _ M q hq⟩
    · cases h
  · cases h
theorem qK_clashes {β : Type} : RecOK 40 (dK_clashes (β := β)) := by
  intro as M k res h
  unfold dK_clashes at h
  split at h
  ·
    split at h
    · rename_i hc
      obtain ⟨rfl, rfl, rfl⟩ := hc
      exact ⟨_, _, _, rfl⟩
    · cases h
  · cases h
