/-! ===== the tape ===== -/
theorem by_bits (x : Int64) {k : Nat} (hk : k ≤ 56) : ((x.toUInt64 >>> UInt64.ofNat k).toInt64).toInt32 &&& 255 = ((x >>> lN k) &&& 255).toInt32 := by
  apply Int32.toBitVec_inj.mp
  rw [Int32.toBitVec_and, Int64.toBitVec_toInt32, Int64.toBitVec_toInt32, Int64.toBitVec_and]
  apply BitVec.eq_of_getLsbD_eq
  intro i hi
  rw [BitVec.getLsbD_and, BitVec.getLsbD_signExtend, BitVec.getLsbD_signExtend, if_pos (by omega), if_pos (by omega), BitVec.getLsbD_and, decide_eq_true hi, Bool.true_and, Bool.true_and]
  have hm : ∀ i < 32, (255 : Int32).toBitVec.getLsbD i = decide (i < 8) := by decide
  have hm2 : ∀ i < 32, (255 : Int64).toBitVec.getLsbD i = decide (i < 8) := by decide
  rw [hm i hi, hm2 i hi]
  by_cases z : i < 8
  · rw [decide_eq_true z, Bool.and_true, Bool.and_true]
    have e1 : ((x.toUInt64 >>> UInt64.ofNat k).toInt64).toBitVec = x.toBitVec >>> k := by
      apply BitVec.eq_of_toNat_eq
      show (x.toUInt64 >>> UInt64.ofNat k).toNat = _
      have h1 : (UInt64.ofNat k).toNat = k := by
        show (BitVec.ofNat 64 k).toNat = k
        rw [BitVec.toNat_ofNat, Nat.mod_eq_of_lt (by omega)]
      rw [UInt64.toNat_shiftRight, h1, Nat.mod_eq_of_lt (by omega), BitVec.toNat_ushiftRight]
      rfl
    have e2 : (x >>> lN k).toBitVec = x.toBitVec.sshiftRight k := by
      show x.toBitVec.sshiftRight ((lN k).toBitVec.smod 64).toNat = _
      rw [wb_tb, wb_sm k (by omega), BitVec.toNat_ofNat, Nat.mod_eq_of_lt (by omega)]
    rw [e1, e2, BitVec.getLsbD_ushiftRight, BitVec.getLsbD_sshiftRight, if_pos (by omega)]
    simp
    omega
  · rw [decide_eq_false z, Bool.and_false, Bool.and_false]
/-- the byte of a word -/
def byK (x : Int64) (i : Nat) : Int32 := ((x >>> lN (8 * i)) &&& 255).toInt32
theorem by_F (x : Int64) {i : Nat} (hi : i < 8) : ((((((x.toUInt64 >>> ((8 * nI i).toInt64.toUInt64 &&& Int64.toUInt64 63)).toInt64).toInt32).toInt8.toInt32).toInt8.toInt32) &&& 255) = byK x i := by
  have e : (8 : Int32) * nI i = nI (8 * i) := pk_mul 8 i
  rw [bp_b, bp_b, e, wb_cu (8 * i) (by omega), by_bits x (by omega)]
  rfl
theorem by_K (x : Int64) {i : Nat} (hi : i < 8) : ((x >>> ((8 * nI i).toInt64 &&& 63)) &&& 255).toInt32 = byK x i := by
  have e : (8 : Int32) * nI i = nI (8 * i) := pk_mul 8 i
  rw [e, wb_c (8 * i) (by omega)]
  rfl
/-- the byte as the class keeps it -/
def byM (x : Int64) (i : Nat) : Int32 := (((((x.toUInt64 >>> ((8 * nI i).toInt64.toUInt64 &&& Int64.toUInt64 63)).toInt64).toInt32).toInt8.toInt32).toInt8.toInt32)
theorem F_feed_39 (x : Int64) (M : Mem) {P n0 : Nat} (hP : M 1 0 0 14 = nI P) (hn : n0 ≤ 8) (h50 : P + n0 ≤ 50) : ∀ (d i n : Nat), i + d = n0 → d < n → mF_feed_39 n x (nI n0) (nI i) (fm M 13 0 12 P i (byM x)) = some (nI (P + n0), up (fm M 13 0 12 P n0 (byM x)) 1 0 0 14 (nI (P + n0))) := by
  intro d
  induction d with
  | zero =>
    intro i n hi hn'
    obtain ⟨m, rfl⟩ : ∃ m, n = m + 1 := ⟨n - 1, by omega⟩
    show mF_feed_39b (mF_feed_39 m) x (nI n0) (nI i) _ = _
    unfold mF_feed_39b
    rw [if_neg (nI_nlt (by omega) (by omega)), show i = n0 by omega]
    have e : fm M 13 0 12 P n0 (byM x) 1 0 0 14 = nI P := by rw [fm_o (by omega), hP]
    simp only [up_eq, e, nI_add]
  | succ d ih =>
    intro i n hi hn'
    obtain ⟨m, rfl⟩ : ∃ m, n = m + 1 := ⟨n - 1, by omega⟩
    show mF_feed_39b (mF_feed_39 m) x (nI n0) (nI i) _ = _
    unfold mF_feed_39b
    have e : fm M 13 0 12 P i (byM x) 1 0 0 14 = nI P := by rw [fm_o (by omega), hP]
    rw [if_pos (nI_lt (by omega) (by omega)), e, nI_add, ixx_nI (by omega) (by decide), nI_1]
    have z := ih (i + 1) m (by omega) (by omega)
    rw [← fm_s] at z
    exact z
theorem K_feed_39 (x : Int64) {P n0 : Nat} (hn : n0 ≤ 8) (h50 : P + n0 ≤ 50) : ∀ (d i n : Nat) (N : Mem), i + d = n0 → d < n → N 41 0 0 7 = nI (P + i) → ∃ N', mK_feed_39 n x (nI n0) (nI i) N = some (nI (P + n0), N') ∧ (∀ r w k j, ¬ (r = 41 ∧ (j = 7 ∨ (1432 + P + i ≤ j ∧ j < 1432 + P + n0))) → N' r w k j = N r w k j) ∧ N' 41 0 0 7 = nI (P + n0) ∧ ∀ j, i ≤ j → j < n0 → N' 41 0 0 (1432 + P + j) = byK x j := by
  intro d
  induction d with
  | zero =>
    intro i n N hi hn' h7
    obtain ⟨m, rfl⟩ : ∃ m, n = m + 1 := ⟨n - 1, by omega⟩
    have e : i = n0 := by omega
    subst e
    refine ⟨N, ?_, fun _ _ _ _ _ => rfl, h7, fun j h1 h2 => by omega⟩
    show mK_feed_39b (mK_feed_39 m) x (nI i) (nI i) N = _
    unfold mK_feed_39b
    rw [if_neg (nI_nlt (by omega) (by omega)), h7]
  | succ d ih =>
    intro i n N hi hn' h7
    obtain ⟨m, rfl⟩ : ∃ m, n = m + 1 := ⟨n - 1, by omega⟩
    show ∃ N', mK_feed_39b (mK_feed_39 m) x (nI n0) (nI i) N = _ ∧ _
    unfold mK_feed_39b
    have i1 : ∀ {F : Nat → Option (Int32 × Mem)}, ixx (1432 + nI (P + i)) 1502 F = F (1432 + (P + i)) := fun {F} => ixx_e (nI_add 1432 _) (by omega) (by decide)
    have e7 : ∀ v, up N 41 0 0 (1432 + (P + i)) v 41 0 0 7 = nI (P + i) := fun v => by rw [up_ne (by omega), h7]
    rw [if_pos (nI_lt (by omega) (by omega)), h7, i1, by_K x (by omega)]
    simp only [e7, nI_1]
    obtain ⟨N', a1, a2, a3, a4⟩ := ih (i + 1) m (up (up N 41 0 0 (1432 + (P + i)) (byK x i)) 41 0 0 7 (nI (P + i + 1))) (by omega) (by omega) up_eq
    refine ⟨N', a1, fun r w k j q => ?_, a3, fun j h1 h2 => ?_⟩
    · rw [a2 r w k j (by omega), up_ne (by omega), up_ne (by omega)]
    · by_cases e : j = i
      · subst e
        rw [a2 _ _ _ _ (by omega), up_ne (by omega), show 1432 + P + j = 1432 + (P + j) by omega, up_eq]
      · exact a4 j (by omega) h2
theorem s_feed {B : Nat} {M N : Mem} (h : Rel B M N) (x : Int64) (x3 : Int32) : Sim (Rel (B + 1)) (mF_feed x x3 M) (mK_feed x x3 N) := by
  unfold mF_feed mK_feed mF_feedb mK_feedb
  simp only [F_within_eq, K_in_eq, Option.bind_some, bI_ite, bindE]
  refine Sim.ite (fun hp => ?_) (fun _ => Sim.f1 h)
  have e7 := h.1.c.e7
  have n7 := h.1.c.n7
  have b7 := h.1.c.b7
  rw [e7]
  refine Sim.ite (fun hq => ?_) (fun _ => Sim.f4 h)
  obtain ⟨n0, h1, h2, rfl⟩ := in_lit (a := 1) (b := 8) (by decide) hp (by decide)
  have h50 : cn (N 41 0 0) 7 + n0 ≤ 50 := by
    rw [n7, nI_add] at hq
    exact (nI_leI (b := 50) (by omega) (by decide)).mp hq
  generalize hT : cn (N 41 0 0) 7 = P at *
  have z1 := F_feed_39 x M (e7.trans n7) h2 h50 n0 0 fuel (by omega) (by unfold fuel; omega)
  rw [fm_0] at z1
  obtain ⟨N', a1, a2, a3, a4⟩ := K_feed_39 x h2 h50 n0 0 fuel N (by omega) (by unfold fuel; omega) n7
  rw [show mF_feed_39 fuel x (nI n0) 0 M = _ from z1, show mK_feed_39 fuel x (nI n0) 0 N = _ from a1]
  refine Sim.ret (h.world (by omega) ?_ (fun r w i k _ _ _ _ q => by rw [up_ne (by omega), fm_o (by omega)]) (fun r k q => a2 r 0 0 k (by omega)))
  have hc : cn (N' 41 0 0) 7 = P + n0 := cn_nI a3 (by omega)
  refine h.1.tape (by omega) (fun r i k _ _ q => by rw [up_ne (by omega), fm_o (by omega)]) (fun k q => a2 41 0 0 k (by omega)) ?_ ?_
  · refine h.1.c.set (j := 7) (n := P + n0) (by decide) h50 (fun k hk e => ?_) (fun k hk e => a2 41 0 0 k (by omega)) up_eq a3
    have := slC_ne hk (by decide) e
    have e' : slC 7 = 14 := rfl
    rw [up_ne (by omega), fm_o (by omega)]
  · intro j hj
    rw [hc] at hj
    rw [upR (by decide)]
    by_cases e : j < P
    · rw [fm_o (by omega), a2 41 0 0 _ (by omega)]
      exact h.1.a j (by omega)
    · obtain ⟨k, rfl⟩ : ∃ k, j = P + k := ⟨j - P, by omega⟩
      rw [fm_i (by omega), show 1432 + (P + k) = 1432 + P + k by omega, a4 k (by omega) (by omega)]
      exact by_F x (by omega)
