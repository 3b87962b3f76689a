/-! ===== wintering: which town, by the class ===== -/
theorem P_winterCost_eq {M : Mem} {w C T : Nat} {cst : Nat → Nat → Nat} (h : WH M w C T cst) : ∃ M', mP_winterCost w M = some (nI (oW cst C T C 0), M') ∧ (∀ r w' i k, r ≠ 24 → M' r w' i k = M r w' i k) ∧ TW M' C T cst 0 := by
  have h4 := h.2.2.2.1
  have e : ∀ a : Fin 9, (1 : Int32) <<< (nI a.val &&& 31) = nI (2 ^ a.val) := by decide +kernel
  have e1 : (1 : Int32) <<< (nI T &&& 31) = nI (2 ^ T) := e ⟨T, by omega⟩
  have hp : 2 ^ T ≤ 2 ^ 8 := Nat.pow_le_pow_right (by decide) h4
  obtain ⟨M', a1, a2, a3⟩ := wc_9 (2 ^ T) fuel M (Nat.le_refl _) (by unfold fuel; omega) h (fun k h1 h2 => by omega)
  refine ⟨M', ?_, a2, a3⟩
  unfold mP_winterCost mP_winterCostb
  rw [h.2.1, e1]
  exact a1
/-- the first cheapest town is free -/
theorem amW {cst : Nat → Nat → Nat} (h7 : ∀ c t, cst c t ≤ 9999) {C T m : Nat} (h4 : T ≤ 8) (h5 : C ≤ T) (hm : m < 2 ^ T) (z : pc8 m < C) : amG (gW cst (oW cst C T (C - pc8 m - 1)) (pc8 m) m) T < T ∧ m.testBit (amG (gW cst (oW cst C T (C - pc8 m - 1)) (pc8 m) m) T) = false := by
  have eo : oW cst C T (C - pc8 m) m = mnG (gW cst (oW cst C T (C - pc8 m - 1)) (pc8 m) m) T := by
    obtain ⟨r, hr'⟩ : ∃ r, C - pc8 m = r + 1 := ⟨C - pc8 m - 1, by omega⟩
    rw [hr', oW_s, show C - (r + 1) = pc8 m by omega, Nat.add_sub_cancel]
  have lo := oW_le h7 (C := C) h4 (C - pc8 m) m hm (by omega)
  have av := amG_v (gW cst (oW cst C T (C - pc8 m - 1)) (pc8 m) m) T (by rw [← eo]; omega)
  refine ⟨av.1, ?_⟩
  cases qq : m.testBit (amG (gW cst (oW cst C T (C - pc8 m - 1)) (pc8 m) m) T) with
  | false => rfl
  | true =>
    have : gW cst (oW cst C T (C - pc8 m - 1)) (pc8 m) m (amG (gW cst (oW cst C T (C - pc8 m - 1)) (pc8 m) m) T) = 1000000000 := by
      show (if m.testBit (amG (gW cst (oW cst C T (C - pc8 m - 1)) (pc8 m) m) T) = true then 1000000000 else _) = _
      rw [if_pos qq]
    rw [av.2, ← eo] at this
    omega
/-- the towns taken before company c -/
def mkW (cst : Nat → Nat → Nat) (C T : Nat) : Nat → Nat
  | 0 => 0
  | c + 1 => mkW cst C T c ||| 2 ^ (amG (gW cst (oW cst C T (C - c - 1)) c (mkW cst C T c)) T)
def tnW (cst : Nat → Nat → Nat) (C T c : Nat) : Nat := amG (gW cst (oW cst C T (C - c - 1)) c (mkW cst C T c)) T
theorem mkW_ok {cst : Nat → Nat → Nat} (h7 : ∀ c t, cst c t ≤ 9999) {C T : Nat} (h4 : T ≤ 8) (h5 : C ≤ T) : ∀ c, c ≤ C → mkW cst C T c < 2 ^ T ∧ pc8 (mkW cst C T c) = c
  | 0, _ => ⟨Nat.two_pow_pos T, by show pc8 0 = 0; decide⟩
  | c + 1, hc => by
    obtain ⟨i1, i2⟩ := mkW_ok h7 h4 h5 c (by omega)
    have a := amW h7 h4 h5 i1 (by rw [i2]; omega)
    rw [i2] at a
    have h256 : mkW cst C T c < 256 := Nat.lt_of_lt_of_le i1 (Nat.pow_le_pow_right (by decide) h4)
    have p := pc8_or (mkW cst C T c) _ h256 (by omega) a.2
    refine ⟨or_lt2 i1 a.1, ?_⟩
    show pc8 (mkW cst C T c ||| 2 ^ (amG (gW cst (oW cst C T (C - c - 1)) c (mkW cst C T c)) T)) = c + 1
    rw [p.1, i2]
theorem W_choice_at {M : Mem} {w C T : Nat} {cst : Nat → Nat → Nat} (h : WH M w C T cst) (hW : TW M C T cst 0) {c : Nat} (hc : c < C) : mP_winterChoice w (nI (mkW cst C T c)) M = some (nI (tnW cst C T c), M) := by
  have h4 := h.2.2.2.1
  have h5 := h.2.2.2.2.1
  have h7 := h.2.2.2.2.2.2
  obtain ⟨i1, i2⟩ := mkW_ok h7 h4 h5 c (by omega)
  have h256 : mkW cst C T c < 256 := Nat.lt_of_lt_of_le i1 (Nat.pow_le_pow_right (by decide) h4)
  have hW' : TW M C T cst (mkW cst C T c + 1) := fun k _ h2 => hW k (Nat.zero_le _) h2
  have := P_winterChoice_eq h (o := oW cst C T (C - pc8 (mkW cst C T c) - 1)) h256 (by rw [i2]; exact hc) (oW_b cst C T _) (hW'.row h4 i1 (by rw [i2]; exact hc))
  rw [i2] at this
  exact this
theorem P_winterTown_13 {M : Mem} {w C T c : Nat} {cst : Nat → Nat → Nat} (h : WH M w C T cst) (hW : TW M C T cst 0) (hc : c < C) : ∀ (d i n : Nat), i + d = c → d < n → mP_winterTown_13 n w (nI c) (nI (mkW cst C T i)) (nI (tnW cst C T i)) (nI i) M = some (nI (tnW cst C T c), M)
  | 0, i, n, hi, hn => by
    obtain ⟨n, rfl⟩ : ∃ k, n = k + 1 := ⟨n - 1, by omega⟩
    obtain rfl : i = c := hi
    have h3 := h.2.2.1
    show mP_winterTown_13b (mP_winterTown_13 n) w (nI i) _ _ (nI i) M = _
    unfold mP_winterTown_13b
    rw [if_neg (nI_nlt (Nat.le_refl _) (by omega))]
  | d + 1, i, n, hi, hn => by
    obtain ⟨n, rfl⟩ : ∃ k, n = k + 1 := ⟨n - 1, by omega⟩
    have h3 := h.2.2.1
    have h4 := h.2.2.2.1
    have h5 := h.2.2.2.2.1
    have h7 := h.2.2.2.2.2.2
    have ih := P_winterTown_13 h hW hc d (i + 1) n (by omega) (by omega)
    obtain ⟨i1, i2⟩ := mkW_ok h7 h4 h5 i (by omega)
    have h256 : mkW cst C T i < 256 := Nat.lt_of_lt_of_le i1 (Nat.pow_le_pow_right (by decide) h4)
    have a := amW h7 h4 h5 i1 (by rw [i2]; omega)
    rw [i2] at a
    have t8 : tnW cst C T i < 8 := by
      have : tnW cst C T i < T := a.1
      omega
    have eb : nI (mkW cst C T i) ||| (1 <<< (nI (tnW cst C T i) &&& 31)) = nI (mkW cst C T (i + 1)) := bit_or _ _ h256 t8
    show mP_winterTown_13b (mP_winterTown_13 n) w (nI c) _ _ (nI i) M = _
    unfold mP_winterTown_13b
    rw [if_pos (nI_lt (by omega) (by omega)), eb, W_choice_at h hW (show i + 1 < C by omega)]
    simp only [Option.bind_some, nI_1]
    exact ih
theorem P_winterTown_eq {M : Mem} {w C T c : Nat} {cst : Nat → Nat → Nat} (h : WH M w C T cst) (hW : TW M C T cst 0) (hc : c < C) : mP_winterTown w (nI c) M = some (nI (tnW cst C T c), M) := by
  have h3 := h.2.2.1
  have e0 : mP_winterChoice w 0 M = some (nI (tnW cst C T 0), M) := W_choice_at h hW (c := 0) (by omega)
  unfold mP_winterTown mP_winterTownb
  rw [e0]
  exact P_winterTown_13 h hW hc c 0 fuel (by omega) (by unfold fuel; omega)
