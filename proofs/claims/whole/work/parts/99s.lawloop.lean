theorem lw_ret {p : Program} {l : Launch} {e : Env} {s : State} {m : MethodId} {below : List Frame} {meth : Method} {c : Code} {b : Nat} (hx : p.tables.exec = Jvm.exec) (hb : c.code = code) (hr : meth.sig.returnType = ret) (hlocks : meth.locks = false) {pc : Nat} {H : Heap} {ls : Array Slot} (hdg : decode code pc = .ok (.ireturn, 1)) : W p l e room_1 s m #[Value.ref b] below meth c H [] 600000 7302250 (lw_Z below #[Value.ref b] s) (F0 m pc ls [.int 1]) := by
  intro T hT X
  obtain ⟨fs, hret, hrun, hended, hW, hframe⟩ := X.leave (v := some (.int 1)) (hlocks := hlocks) (fun h => by rw [hr] at h; cases h)
  have hmeth' : T.vm.method? m = some meth := X.method'
  refine ⟨T.setFrames fs, ?_, .returned (some (.int 1)), hrun, hended, rfl, ⟨_, rfl⟩, hW, hframe⟩
  jvm_step X.here [X.here.top, hx, hb, hdg, hmeth', hr, ret, narrow_b1]
  (try refine ⟨rfl, ?_⟩); (try refine ⟨rfl, ?_⟩)
  first | (intro acts; rw [hret _ acts rfl rfl rfl]) | rw [hret _ _ rfl rfl rfl]
  exact Steps.refl _
/-! ===== the law's loop ===== -/
/-- both begin alike -/
theorem rel0 : Rel 0 M0 M0 := by
  have c0 : ∀ k, cn (M0 41 0 0) k = 0 := fun k => rfl
  have z : ∀ k, M0 41 0 0 k = 0 := fun k => rfl
  refine ⟨⟨fun k hk => ?_, fun t ht => ?_, ⟨fun r hr => ?_, fun a b => if a = b then 0 else NOW, ⟨fun a ha => if_pos rfl, fun a x y d ha hx hy hd q => ?_, fun a b ha hb => ?_⟩, fun a b ha hb => ?_⟩, fun c hc => ?_, fun c hc => ?_, fun l hl => ?_, fun s hs => ?_, fun b hb => ?_, fun c hc => ?_, fun j hj => ?_, fun j hj => ?_⟩, .inl rfl, rfl, fun k hk => rfl, fun s hs => ⟨rfl, rfl, ⟨0, by decide, rfl⟩, fun i hi => rfl⟩, rfl, ⟨0, by decide, rfl⟩, fun i hi => rfl⟩
  · refine ⟨?_, ?_, ?_⟩
    · rfl
    · rfl
    · rw [c0]
      exact Nat.zero_le _
  · rw [c0] at ht
    exact absurd ht (Nat.not_lt_zero _)
  · rw [c0] at hr
    exact absurd hr (Nat.not_lt_zero _)
  · obtain ⟨r, hr, -⟩ := q
    rw [c0] at hr
    exact absurd hr (Nat.not_lt_zero _)
  · by_cases e : a = b
    · subst e
      refine .inr ⟨?_, 0, rfl, if_pos rfl⟩
      show (if a = a then 0 else NOW) ≤ _
      rw [if_pos rfl]
      exact Nat.zero_le _
    · exact .inl (if_neg e)
  · show (if (4 : Nat) = 4 then (if (a * 8 + b) / 8 = (a * 8 + b) % 8 then (0 : Int32) else 1000000) else _) = _
    rw [if_pos rfl, show (a * 8 + b) / 8 = a by omega, show (a * 8 + b) % 8 = b by omega]
    by_cases e : a = b
    · show _ = nI (if a = b then 0 else NOW)
      rw [if_pos e, if_pos e]
      rfl
    · show _ = nI (if a = b then 0 else NOW)
      rw [if_neg e, if_neg e]
      rfl
  · rw [c0] at hc
    exact absurd hc (Nat.not_lt_zero _)
  · rw [c0] at hc
    exact absurd hc (Nat.not_lt_zero _)
  · rw [c0] at hl
    exact absurd hl (Nat.not_lt_zero _)
  · rw [c0] at hs
    exact absurd hs (Nat.not_lt_zero _)
  · rw [c0] at hb
    exact absurd hb (Nat.not_lt_zero _)
  · rw [c0] at hc
    exact absurd hc (Nat.not_lt_zero _)
  · rw [c0] at hj
    exact absurd hj (Nat.not_lt_zero _)
  · rw [c0] at hj
    exact absurd hj (Nat.not_lt_zero _)
theorem dl_18 : decode code 18 = .ok (.iload_n 3, 1) := by decide +kernel
theorem dl_19 : decode code 19 = .ok (.aload_n 0, 1) := by decide +kernel
theorem dl_20 : decode code 20 = .ok (.arraylength, 1) := by decide +kernel
theorem dl_21 : decode code 21 = .ok (.bipush 6, 2) := by decide +kernel
theorem dl_23 : decode code 23 = .ok (.isub, 1) := by decide +kernel
theorem dl_24 : decode code 24 = .ok (.if_icmp .gt 2220, 3) := by decide +kernel
theorem dl_27 : decode code 27 = .ok (.aload_n 0, 1) := by decide +kernel
theorem dl_28 : decode code 28 = .ok (.iload_n 3, 1) := by decide +kernel
theorem dl_29 : decode code 29 = .ok (.iaload, 1) := by decide +kernel
theorem dl_30 : decode code 30 = .ok (.bipush 63, 2) := by decide +kernel
theorem dl_32 : decode code 32 = .ok (.iand, 1) := by decide +kernel
theorem dl_33 : decode code 33 = .ok (.tableswitch 2205 0 53 #[231, 264, 307, 340, 373, 416, 449, 492, 525, 558, 591, 634, 667, 700, 733, 796, 829, 862, 915, 968, 1011, 1044, 1097, 1160, 1193, 1226, 1259, 1292, 1325, 1358, 1391, 1440, 1473, 1516, 1539, 1608, 1651, 1694, 1717, 1760, 1783, 1816, 1839, 1882, 1925, 1948, 1991, 2034, 2097, 2110, 2123, 2146, 2159, 2182], 231) := by decide +kernel
theorem dl_2238 : decode code 2238 = .ok (.iinc 3 6, 3) := by decide +kernel
theorem dl_2241 : decode code 2241 = .ok (.goto (-2223), 3) := by decide +kernel
theorem dl_2244 : decode code 2244 = .ok (.iconst 1, 1) := by decide +kernel
theorem dl_2245 : decode code 2245 = .ok (.ireturn, 1) := by decide +kernel
def offA : Array Int := #[231, 264, 307, 340, 373, 416, 449, 492, 525, 558, 591, 634, 667, 700, 733, 796, 829, 862, 915, 968, 1011, 1044, 1097, 1160, 1193, 1226, 1259, 1292, 1325, 1358, 1391, 1440, 1473, 1516, 1539, 1608, 1651, 1694, 1717, 1760, 1783, 1816, 1839, 1882, 1925, 1948, 1991, 2034, 2097, 2110, 2123, 2146, 2159, 2182]
noncomputable def KL (q : Nat) : SL → Option Unit := fun σ => @ite _ (∃ M N, σ = (nI (6 * q), [], M, N) ∧ Rel (q + 1) M N) (Classical.propDecidable _) (some ()) none
theorem KL_of {q : Nat} {M N : Mem} (h : Rel (q + 1) M N) : KL q (nI (6 * q), [], M, N) = some () := if_pos ⟨M, N, rfl, h⟩
theorem KL_is {q : Nat} {σ : SL} (h : KL q σ = some ()) : ∃ M N, σ = (nI (6 * q), [], M, N) ∧ Rel (q + 1) M N := by
  unfold KL at h
  split at h
  · assumption
  · cases h
def tgL (j : Nat) : Nat := ([264, 297, 340, 373, 406, 449, 482, 525, 558, 591, 624, 667, 700, 733, 766, 829, 862, 895, 948, 1001, 1044, 1077, 1130, 1193, 1226, 1259, 1292, 1325, 1358, 1391, 1424, 1473, 1506, 1549, 1572, 1641, 1684, 1727, 1750, 1793, 1816, 1849, 1872, 1915, 1958, 1981, 2024, 2067, 2130, 2143, 2156, 2179, 2192, 2215] : List Nat).getD j 2238
theorem tgL_ok : ∀ j : Fin 54, ∃ off, offA[j.val]? = some off ∧ (33 : Int) + off = (tgL j.val : Int) := by
  intro j
  refine ⟨offA.getD j.val 0, ?_, ?_⟩
  · have e : ∀ j : Fin 54, offA[j.val]? = some (offA.getD j.val 0) := by decide +kernel
    exact e j
  · have e : ∀ j : Fin 54, (33 : Int) + offA.getD j.val 0 = (tgL j.val : Int) := by decide +kernel
    exact e j
section Loop
variable {E : EL} {L : Nat} {xs : Nat → Int32} {p : Program} {l : Launch} {e : Env} {s : State} {m : MethodId} {below : List Frame} {meth : Method} {c : Code}
theorem law_case (C : CxL E L xs p s m meth c) {q : Nat} (hq : 6 * q + 6 ≤ L) {M N : Mem} (hR : Rel q M N) (hK : ∀ σ, KL q σ = some () → Wl E p l e s m below meth c 2238 σ) : ∀ j, j < 54 → Wl E p l e s m below meth c (tgL j) (nI (6 * q), [], M, N)
  | 0, _ => runL_ok (oL_0 L xs l) C hK 100 264 _ (gL_0 (p := 6 * q) (B := q) C.2.2.2.2.2.2.2.2.2.2.2.2.2.2.2.2 hq (by have := C.2.2.2.2.2.2.2.2.2.2.2.2.2.2.2.2; omega) hR fun _ _ h => KL_of h)
  | 1, _ => runL_ok (oL_1 L xs l) C hK 100 297 _ (gL_1 (p := 6 * q) (B := q) C.2.2.2.2.2.2.2.2.2.2.2.2.2.2.2.2 hq (by have := C.2.2.2.2.2.2.2.2.2.2.2.2.2.2.2.2; omega) hR fun _ _ h => KL_of h)
  | 2, _ => runL_ok (oL_2 L xs l) C hK 100 340 _ (gL_2 (p := 6 * q) (B := q) C.2.2.2.2.2.2.2.2.2.2.2.2.2.2.2.2 hq (by have := C.2.2.2.2.2.2.2.2.2.2.2.2.2.2.2.2; omega) hR fun _ _ h => KL_of h)
  | 3, _ => runL_ok (oL_3 L xs l) C hK 100 373 _ (gL_3 (p := 6 * q) (B := q) C.2.2.2.2.2.2.2.2.2.2.2.2.2.2.2.2 hq (by have := C.2.2.2.2.2.2.2.2.2.2.2.2.2.2.2.2; omega) hR fun _ _ h => KL_of h)
  | 4, _ => runL_ok (oL_4 L xs l) C hK 100 406 _ (gL_4 (p := 6 * q) (B := q) C.2.2.2.2.2.2.2.2.2.2.2.2.2.2.2.2 hq (by have := C.2.2.2.2.2.2.2.2.2.2.2.2.2.2.2.2; omega) hR fun _ _ h => KL_of h)
  | 5, _ => runL_ok (oL_5 L xs l) C hK 100 449 _ (gL_5 (p := 6 * q) (B := q) C.2.2.2.2.2.2.2.2.2.2.2.2.2.2.2.2 hq (by have := C.2.2.2.2.2.2.2.2.2.2.2.2.2.2.2.2; omega) hR fun _ _ h => KL_of h)
  | 6, _ => runL_ok (oL_6 L xs l) C hK 100 482 _ (gL_6 (p := 6 * q) (B := q) C.2.2.2.2.2.2.2.2.2.2.2.2.2.2.2.2 hq (by have := C.2.2.2.2.2.2.2.2.2.2.2.2.2.2.2.2; omega) hR fun _ _ h => KL_of h)
  | 7, _ => runL_ok (oL_7 L xs l) C hK 100 525 _ (gL_7 (p := 6 * q) (B := q) C.2.2.2.2.2.2.2.2.2.2.2.2.2.2.2.2 hq (by have := C.2.2.2.2.2.2.2.2.2.2.2.2.2.2.2.2; omega) hR fun _ _ h => KL_of h)
  | 8, _ => runL_ok (oL_8 L xs l) C hK 100 558 _ (gL_8 (p := 6 * q) (B := q) C.2.2.2.2.2.2.2.2.2.2.2.2.2.2.2.2 hq (by have := C.2.2.2.2.2.2.2.2.2.2.2.2.2.2.2.2; omega) hR fun _ _ h => KL_of h)
  | 9, _ => runL_ok (oL_9 L xs l) C hK 100 591 _ (gL_9 (p := 6 * q) (B := q) C.2.2.2.2.2.2.2.2.2.2.2.2.2.2.2.2 hq (by have := C.2.2.2.2.2.2.2.2.2.2.2.2.2.2.2.2; omega) hR fun _ _ h => KL_of h)
  | 10, _ => runL_ok (oL_10 L xs l) C hK 100 624 _ (gL_10 (p := 6 * q) (B := q) C.2.2.2.2.2.2.2.2.2.2.2.2.2.2.2.2 hq (by have := C.2.2.2.2.2.2.2.2.2.2.2.2.2.2.2.2; omega) hR fun _ _ h => KL_of h)
  | 11, _ => runL_ok (oL_11 L xs l) C hK 100 667 _ (gL_11 (p := 6 * q) (B := q) C.2.2.2.2.2.2.2.2.2.2.2.2.2.2.2.2 hq (by have := C.2.2.2.2.2.2.2.2.2.2.2.2.2.2.2.2; omega) hR fun _ _ h => KL_of h)
  | 12, _ => runL_ok (oL_12 L xs l) C hK 100 700 _ (gL_12 (p := 6 * q) (B := q) C.2.2.2.2.2.2.2.2.2.2.2.2.2.2.2.2 hq (by have := C.2.2.2.2.2.2.2.2.2.2.2.2.2.2.2.2; omega) hR fun _ _ h => KL_of h)
  | 13, _ => runL_ok (oL_13 L xs l) C hK 100 733 _ (gL_13 (p := 6 * q) (B := q) C.2.2.2.2.2.2.2.2.2.2.2.2.2.2.2.2 hq (by have := C.2.2.2.2.2.2.2.2.2.2.2.2.2.2.2.2; omega) hR fun _ _ h => KL_of h)
  | 14, _ => runL_ok (oL_14 L xs l) C hK 100 766 _ (gL_14 (p := 6 * q) (B := q) C.2.2.2.2.2.2.2.2.2.2.2.2.2.2.2.2 hq (by have := C.2.2.2.2.2.2.2.2.2.2.2.2.2.2.2.2; omega) hR fun _ _ h => KL_of h)
  | 15, _ => runL_ok (oL_15 L xs l) C hK 100 829 _ (gL_15 (p := 6 * q) (B := q) C.2.2.2.2.2.2.2.2.2.2.2.2.2.2.2.2 hq (by have := C.2.2.2.2.2.2.2.2.2.2.2.2.2.2.2.2; omega) hR fun _ _ h => KL_of h)
  | 16, _ => runL_ok (oL_16 L xs l) C hK 100 862 _ (gL_16 (p := 6 * q) (B := q) C.2.2.2.2.2.2.2.2.2.2.2.2.2.2.2.2 hq (by have := C.2.2.2.2.2.2.2.2.2.2.2.2.2.2.2.2; omega) hR fun _ _ h => KL_of h)
  | 17, _ => runL_ok (oL_17 L xs l) C hK 100 895 _ (gL_17 (p := 6 * q) (B := q) C.2.2.2.2.2.2.2.2.2.2.2.2.2.2.2.2 hq (by have := C.2.2.2.2.2.2.2.2.2.2.2.2.2.2.2.2; omega) hR fun _ _ h => KL_of h)
  | 18, _ => runL_ok (oL_18 L xs l) C hK 100 948 _ (gL_18 (p := 6 * q) (B := q) C.2.2.2.2.2.2.2.2.2.2.2.2.2.2.2.2 hq (by have := C.2.2.2.2.2.2.2.2.2.2.2.2.2.2.2.2; omega) hR fun _ _ h => KL_of h)
  | 19, _ => runL_ok (oL_19 L xs l) C hK 100 1001 _ (gL_19 (p := 6 * q) (B := q) C.2.2.2.2.2.2.2.2.2.2.2.2.2.2.2.2 hq (by have := C.2.2.2.2.2.2.2.2.2.2.2.2.2.2.2.2; omega) hR fun _ _ h => KL_of h)
  | 20, _ => runL_ok (oL_20 L xs l) C hK 100 1044 _ (gL_20 (p := 6 * q) (B := q) C.2.2.2.2.2.2.2.2.2.2.2.2.2.2.2.2 hq (by have := C.2.2.2.2.2.2.2.2.2.2.2.2.2.2.2.2; omega) hR fun _ _ h => KL_of h)
  | 21, _ => runL_ok (oL_21 L xs l) C hK 100 1077 _ (gL_21 (p := 6 * q) (B := q) C.2.2.2.2.2.2.2.2.2.2.2.2.2.2.2.2 hq (by have := C.2.2.2.2.2.2.2.2.2.2.2.2.2.2.2.2; omega) hR fun _ _ h => KL_of h)
  | 22, _ => runL_ok (oL_22 L xs l) C hK 100 1130 _ (gL_22 (p := 6 * q) (B := q) C.2.2.2.2.2.2.2.2.2.2.2.2.2.2.2.2 hq (by have := C.2.2.2.2.2.2.2.2.2.2.2.2.2.2.2.2; omega) hR fun _ _ h => KL_of h)
  | 23, _ => runL_ok (oL_23 L xs l) C hK 100 1193 _ (gL_23 (p := 6 * q) (B := q) C.2.2.2.2.2.2.2.2.2.2.2.2.2.2.2.2 hq (by have := C.2.2.2.2.2.2.2.2.2.2.2.2.2.2.2.2; omega) hR fun _ _ h => KL_of h)
  | 24, _ => runL_ok (oL_24 L xs l) C hK 100 1226 _ (gL_24 (p := 6 * q) (B := q) C.2.2.2.2.2.2.2.2.2.2.2.2.2.2.2.2 hq (by have := C.2.2.2.2.2.2.2.2.2.2.2.2.2.2.2.2; omega) hR fun _ _ h => KL_of h)
  | 25, _ => runL_ok (oL_25 L xs l) C hK 100 1259 _ (gL_25 (p := 6 * q) (B := q) C.2.2.2.2.2.2.2.2.2.2.2.2.2.2.2.2 hq (by have := C.2.2.2.2.2.2.2.2.2.2.2.2.2.2.2.2; omega) hR fun _ _ h => KL_of h)
  | 26, _ => runL_ok (oL_26 L xs l) C hK 100 1292 _ (gL_26 (p := 6 * q) (B := q) C.2.2.2.2.2.2.2.2.2.2.2.2.2.2.2.2 hq (by have := C.2.2.2.2.2.2.2.2.2.2.2.2.2.2.2.2; omega) hR fun _ _ h => KL_of h)
  | 27, _ => runL_ok (oL_27 L xs l) C hK 100 1325 _ (gL_27 (p := 6 * q) (B := q) C.2.2.2.2.2.2.2.2.2.2.2.2.2.2.2.2 hq (by have := C.2.2.2.2.2.2.2.2.2.2.2.2.2.2.2.2; omega) hR fun _ _ h => KL_of h)
  | 28, _ => runL_ok (oL_28 L xs l) C hK 100 1358 _ (gL_28 (p := 6 * q) (B := q) C.2.2.2.2.2.2.2.2.2.2.2.2.2.2.2.2 hq (by have := C.2.2.2.2.2.2.2.2.2.2.2.2.2.2.2.2; omega) hR fun _ _ h => KL_of h)
  | 29, _ => runL_ok (oL_29 L xs l) C hK 100 1391 _ (gL_29 (p := 6 * q) (B := q) C.2.2.2.2.2.2.2.2.2.2.2.2.2.2.2.2 hq (by have := C.2.2.2.2.2.2.2.2.2.2.2.2.2.2.2.2; omega) hR fun _ _ h => KL_of h)
  | 30, _ => runL_ok (oL_30 L xs l) C hK 100 1424 _ (gL_30 (p := 6 * q) (B := q) C.2.2.2.2.2.2.2.2.2.2.2.2.2.2.2.2 hq (by have := C.2.2.2.2.2.2.2.2.2.2.2.2.2.2.2.2; omega) hR fun _ _ h => KL_of h)
  | 31, _ => runL_ok (oL_31 L xs l) C hK 100 1473 _ (gL_31 (p := 6 * q) (B := q) C.2.2.2.2.2.2.2.2.2.2.2.2.2.2.2.2 hq (by have := C.2.2.2.2.2.2.2.2.2.2.2.2.2.2.2.2; omega) hR fun _ _ h => KL_of h)
  | 32, _ => runL_ok (oL_32 L xs l) C hK 100 1506 _ (gL_32 (p := 6 * q) (B := q) C.2.2.2.2.2.2.2.2.2.2.2.2.2.2.2.2 hq (by have := C.2.2.2.2.2.2.2.2.2.2.2.2.2.2.2.2; omega) hR fun _ _ h => KL_of h)
  | 33, _ => runL_ok (oL_33 L xs l) C hK 100 1549 _ (gL_33 (p := 6 * q) (B := q) C.2.2.2.2.2.2.2.2.2.2.2.2.2.2.2.2 hq (by have := C.2.2.2.2.2.2.2.2.2.2.2.2.2.2.2.2; omega) hR fun _ _ h => KL_of h)
  | 34, _ => runL_ok (oL_34 L xs l) C hK 100 1572 _ (gL_34 (p := 6 * q) (B := q) C.2.2.2.2.2.2.2.2.2.2.2.2.2.2.2.2 hq (by have := C.2.2.2.2.2.2.2.2.2.2.2.2.2.2.2.2; omega) hR fun _ _ h => KL_of h)
  | 35, _ => runL_ok (oL_35 L xs l) C hK 100 1641 _ (gL_35 (p := 6 * q) (B := q) C.2.2.2.2.2.2.2.2.2.2.2.2.2.2.2.2 hq (by have := C.2.2.2.2.2.2.2.2.2.2.2.2.2.2.2.2; omega) hR fun _ _ h => KL_of h)
  | 36, _ => runL_ok (oL_36 L xs l) C hK 100 1684 _ (gL_36 (p := 6 * q) (B := q) C.2.2.2.2.2.2.2.2.2.2.2.2.2.2.2.2 hq (by have := C.2.2.2.2.2.2.2.2.2.2.2.2.2.2.2.2; omega) hR fun _ _ h => KL_of h)
  | 37, _ => runL_ok (oL_37 L xs l) C hK 100 1727 _ (gL_37 (p := 6 * q) (B := q) C.2.2.2.2.2.2.2.2.2.2.2.2.2.2.2.2 hq (by have := C.2.2.2.2.2.2.2.2.2.2.2.2.2.2.2.2; omega) hR fun _ _ h => KL_of h)
  | 38, _ => runL_ok (oL_38 L xs l) C hK 100 1750 _ (gL_38 (p := 6 * q) (B := q) C.2.2.2.2.2.2.2.2.2.2.2.2.2.2.2.2 hq (by have := C.2.2.2.2.2.2.2.2.2.2.2.2.2.2.2.2; omega) hR fun _ _ h => KL_of h)
  | 39, _ => runL_ok (oL_39 L xs l) C hK 100 1793 _ (gL_39 (p := 6 * q) (B := q) C.2.2.2.2.2.2.2.2.2.2.2.2.2.2.2.2 hq (by have := C.2.2.2.2.2.2.2.2.2.2.2.2.2.2.2.2; omega) hR fun _ _ h => KL_of h)
  | 40, _ => runL_ok (oL_40 L xs l) C hK 100 1816 _ (gL_40 (p := 6 * q) (B := q) C.2.2.2.2.2.2.2.2.2.2.2.2.2.2.2.2 hq (by have := C.2.2.2.2.2.2.2.2.2.2.2.2.2.2.2.2; omega) hR fun _ _ h => KL_of h)
  | 41, _ => runL_ok (oL_41 L xs l) C hK 100 1849 _ (gL_41 (p := 6 * q) (B := q) C.2.2.2.2.2.2.2.2.2.2.2.2.2.2.2.2 hq (by have := C.2.2.2.2.2.2.2.2.2.2.2.2.2.2.2.2; omega) hR fun _ _ h => KL_of h)
  | 42, _ => runL_ok (oL_42 L xs l) C hK 100 1872 _ (gL_42 (p := 6 * q) (B := q) C.2.2.2.2.2.2.2.2.2.2.2.2.2.2.2.2 hq (by have := C.2.2.2.2.2.2.2.2.2.2.2.2.2.2.2.2; omega) hR fun _ _ h => KL_of h)
  | 43, _ => runL_ok (oL_43 L xs l) C hK 100 1915 _ (gL_43 (p := 6 * q) (B := q) C.2.2.2.2.2.2.2.2.2.2.2.2.2.2.2.2 hq (by have := C.2.2.2.2.2.2.2.2.2.2.2.2.2.2.2.2; omega) hR fun _ _ h => KL_of h)
  | 44, _ => runL_ok (oL_44 L xs l) C hK 100 1958 _ (gL_44 (p := 6 * q) (B := q) C.2.2.2.2.2.2.2.2.2.2.2.2.2.2.2.2 hq (by have := C.2.2.2.2.2.2.2.2.2.2.2.2.2.2.2.2; omega) hR fun _ _ h => KL_of h)
  | 45, _ => runL_ok (oL_45 L xs l) C hK 100 1981 _ (gL_45 (p := 6 * q) (B := q) C.2.2.2.2.2.2.2.2.2.2.2.2.2.2.2.2 hq (by have := C.2.2.2.2.2.2.2.2.2.2.2.2.2.2.2.2; omega) hR fun _ _ h => KL_of h)
  | 46, _ => runL_ok (oL_46 L xs l) C hK 100 2024 _ (gL_46 (p := 6 * q) (B := q) C.2.2.2.2.2.2.2.2.2.2.2.2.2.2.2.2 hq (by have := C.2.2.2.2.2.2.2.2.2.2.2.2.2.2.2.2; omega) hR fun _ _ h => KL_of h)
  | 47, _ => runL_ok (oL_47 L xs l) C hK 100 2067 _ (gL_47 (p := 6 * q) (B := q) C.2.2.2.2.2.2.2.2.2.2.2.2.2.2.2.2 hq (by have := C.2.2.2.2.2.2.2.2.2.2.2.2.2.2.2.2; omega) hR fun _ _ h => KL_of h)
  | 48, _ => runL_ok (oL_48 L xs l) C hK 100 2130 _ (gL_48 (p := 6 * q) (B := q) C.2.2.2.2.2.2.2.2.2.2.2.2.2.2.2.2 hq (by have := C.2.2.2.2.2.2.2.2.2.2.2.2.2.2.2.2; omega) hR fun _ _ h => KL_of h)
  | 49, _ => runL_ok (oL_49 L xs l) C hK 100 2143 _ (gL_49 (p := 6 * q) (B := q) C.2.2.2.2.2.2.2.2.2.2.2.2.2.2.2.2 hq (by have := C.2.2.2.2.2.2.2.2.2.2.2.2.2.2.2.2; omega) hR fun _ _ h => KL_of h)
  | 50, _ => runL_ok (oL_50 L xs l) C hK 100 2156 _ (gL_50 (p := 6 * q) (B := q) C.2.2.2.2.2.2.2.2.2.2.2.2.2.2.2.2 hq (by have := C.2.2.2.2.2.2.2.2.2.2.2.2.2.2.2.2; omega) hR fun _ _ h => KL_of h)
  | 51, _ => runL_ok (oL_51 L xs l) C hK 100 2179 _ (gL_51 (p := 6 * q) (B := q) C.2.2.2.2.2.2.2.2.2.2.2.2.2.2.2.2 hq (by have := C.2.2.2.2.2.2.2.2.2.2.2.2.2.2.2.2; omega) hR fun _ _ h => KL_of h)
  | 52, _ => runL_ok (oL_52 L xs l) C hK 100 2192 _ (gL_52 (p := 6 * q) (B := q) C.2.2.2.2.2.2.2.2.2.2.2.2.2.2.2.2 hq (by have := C.2.2.2.2.2.2.2.2.2.2.2.2.2.2.2.2; omega) hR fun _ _ h => KL_of h)
  | 53, _ => runL_ok (oL_53 L xs l) C hK 100 2215 _ (gL_53 (p := 6 * q) (B := q) C.2.2.2.2.2.2.2.2.2.2.2.2.2.2.2.2 hq (by have := C.2.2.2.2.2.2.2.2.2.2.2.2.2.2.2.2; omega) hR fun _ _ h => KL_of h)
  | j + 54, h => absurd h (by omega)
theorem law_head (C : CxL E L xs p s m meth c) {q : Nat} (hq : 6 * q ≤ 390) {M N : Mem} (hR : Rel q M N) (hnext : 6 * q + 6 ≤ L → ∀ M' N', Rel (q + 1) M' N' → Wl E p l e s m below meth c 18 (nI (6 * (q + 1)), [], M', N')) : Wl E p l e s m below meth c 18 (nI (6 * q), [], M, N) := by
  have hL384 : L ≤ 384 := C.2.2.2.2.2.2.2.2.2.2.2.2.2.2.2.2
  have hX := C.2.2.2.2.2.2.2.1
  have hbl : E.2.2.2.2.2.2 < s.heap.size := by
    obtain ⟨scr, x1, -⟩ := C.2.2.2.2.2.2.2.1
    exact (Array.getElem?_eq_some_iff.mp x1).1
  intro H ls hP hN hS hM hO hL
  refine lv_iload_n C.1 C.2.1 dl_18 (i := 3) rfl (lv_at hL 3 rfl) ?_
  refine lv_aload_n C.1 C.2.1 dl_19 (i := 0) rfl (lv_at hL 0 rfl) ?_
  refine va_slen C.1 C.2.1 hX hbl (Nat.not_le.mpr hbl) hS dl_20 ?_
  refine lv_bipush C.1 C.2.1 dl_21 (v := 6) (by decide) ?_
  refine lv_isub C.1 C.2.1 dl_23 ?_
  refine lv_icmp_gt C.1 C.2.1 dl_24 (tgt := 2244) (by decide) (fun _ => ?_) (fun hle => ?_)
  · refine lv_iconst C.1 C.2.1 dl_2244 (v := 1) (by decide) ?_
    exact W.widen (Nat.le_of_ble_eq_true rfl) (Nat.le_of_ble_eq_true rfl) (lw_ret C.1 C.2.1 C.2.2.2.2.2.1 C.2.2.2.2.2.2.1 dl_2245)
  · have h6 : 6 * q + 6 ≤ L := by
      have hle : ¬ nI L - 6 < nI (6 * q) := hle
      rcases Nat.lt_or_ge L 6 with z | z
      · have e : ∀ k : Fin 6, nI k.val - 6 < 0 := by decide
        exact absurd (Int32.lt_of_lt_of_le (e ⟨L, z⟩) (nI_pos' (by omega))) hle
      · have e : nI L - 6 = nI (L - 6) := pk_sub (b := 6) z
        rw [e] at hle
        rcases Nat.lt_or_ge L (6 * q + 6) with y | y
        · exact absurd (nI_lt (show L - 6 < 6 * q by omega) (by omega)) hle
        · exact y
    have hK : ∀ σ, KL q σ = some () → Wl E p l e s m below meth c 2238 σ := by
      intro σ h
      obtain ⟨M', N', rfl, hR'⟩ := KL_is h
      intro H ls hP hN hS hM hO hL
      have e6 : nI (6 * q) + Int32.ofInt 6 = nI (6 * (q + 1)) := nI_add (6 * q) 6
      refine lv_iinc C.1 C.2.1 dl_2238 hL (k := 3) rfl e6 (by decide) rfl fun ls' hl' => ?_
      refine lv_goto C.1 C.2.1 dl_2241 (tgt := 18) (by decide) ?_
      exact hnext h6 M' N' hR' H ls' hP hN hS hM hO (lv_sub hl' [1, 2, 3, 0] rfl)
    refine lv_aload_n C.1 C.2.1 dl_27 (i := 0) rfl (lv_at hL 0 rfl) ?_
    refine lv_iload_n C.1 C.2.1 dl_28 (i := 3) rfl (lv_at hL 3 rfl) ?_
    refine va_sld C.1 C.2.1 hX hbl (Nat.not_le.mpr hbl) hS (nI_in (show 6 * q < L by omega) (by omega)) dl_29 ?_
    refine lv_bipush C.1 C.2.1 dl_30 (v := 63) (by decide) ?_
    refine lv_iand C.1 C.2.1 dl_32 ?_
    obtain ⟨j, hj, ej⟩ := pk_andE (xs (nI (6 * q)).toNatClampNeg) (m := 63) 6 rfl
    rw [ej]
    have tj : (nI j).toInt = (j : Int) := nI_toInt (by omega)
    rcases Nat.lt_or_ge j 54 with z | z
    · obtain ⟨off, o1, o2⟩ := tgL_ok ⟨j, z⟩
      refine lv_tableIn C.1 C.2.1 dl_33 (off := off) (tgt := tgL j) (by rw [tj]; omega) (by rw [tj]; omega) (by rw [tj, Int.sub_zero, Int.toNat_natCast]; exact o1) o2 ?_
      exact law_case C h6 hR hK j z H ls hP hN hS hM hO hL
    · refine lv_tableOut C.1 C.2.1 dl_33 (tgt := 2238) (.inr (by rw [tj]; omega)) (by decide) ?_
      exact hK _ (KL_of hR.up1) H ls hP hN hS hM hO hL
theorem law_loop (C : CxL E L xs p s m meth c) : ∀ (d q : Nat) (M N : Mem), 6 * q ≤ 390 → L < 6 * (q + d) + 6 → Rel q M N → Wl E p l e s m below meth c 18 (nI (6 * q), [], M, N)
  | 0, q, M, N, h1, h2, hR => law_head C h1 hR fun h => by omega
  | d + 1, q, M, N, h1, h2, hR => law_head C h1 hR fun h M' N' hR' => law_loop C d (q + 1) M' N' (by have := C.2.2.2.2.2.2.2.2.2.2.2.2.2.2.2.2; omega) (by omega) hR'
end Loop
