/-! ===== hiring: the class ===== -/
theorem vC_lt {p C : Nat} (hp : p ≤ 100) (hC : C ≤ 100) : vC p < nI C ↔ p ≤ C := by
  by_cases z : p = 0
  · subst z
    rw [vC_0]
    constructor
    · intro _
      exact Nat.zero_le _
    · intro _
      exact Int32.lt_of_lt_of_le (b := 0) (by decide) (Int32.not_lt.mp (nI_pos (by omega)))
  · obtain ⟨p, rfl⟩ : ∃ j, p = j + 1 := ⟨p - 1, by omega⟩
    rw [vC_s, nI_ltI (by omega) (by omega)]
    omega
theorem hc_loop {M : Mem} {w si C S : Nat} {me q : Nat → Nat} (h : TH M w si C S me q) {s p r : Nat} (hs : s < S) (hp : p ≤ C) (hr : r ≤ 5) (hT : ∀ c, c ≤ C → M 25 0 0 ((s + 1) * 6 + c) = nI (oH me q C r (s + 1) c)) : ∀ (d j n : Nat), j + d = C → d < n → mP_hireChoice_18 n w si (nI s) (vC p) (vC (amF (fun c => kH me q s p c + oH me q C r (s + 1) c) j)) (nI (mnF (fun c => kH me q s p c + oH me q C r (s + 1) c) j)) (nI j) M = some (vC (chH me q C r s p), M)
  | 0, j, n, hj, hn => by
    obtain ⟨n, rfl⟩ : ∃ k, n = k + 1 := ⟨n - 1, by omega⟩
    obtain rfl : j = C := hj
    have h4 := h.2.2.2.1
    show mP_hireChoice_18b (mP_hireChoice_18 n) w si (nI s) (vC p) _ _ (nI j) M = _
    unfold mP_hireChoice_18b
    rw [h.2.2.1, if_neg (nI_nlt (Nat.le_refl _) (by omega))]
    rfl
  | d + 1, j, n, hj, hn => by
    obtain ⟨n, rfl⟩ : ∃ k, n = k + 1 := ⟨n - 1, by omega⟩
    have h4 := h.2.2.2.1
    have nx := P_hireNext_eq h (p := p) (c := j + 1) hs (by omega) hp (hT (j + 1) (by omega))
    rw [vC_s] at nx
    have ih := hc_loop h hs hp hr hT d (j + 1) n (by omega) (by omega)
    rw [amF_s, mnF_s] at ih
    have k1 := kH_le h.2.2.2.2.2.1 h.2.2.2.2.2.2 s p (j + 1)
    have k2 := oH_le h.2.2.2.2.2.1 h.2.2.2.2.2.2 C r (s + 1) (j + 1)
    have k3 : mnF (fun c => kH me q s p c + oH me q C r (s + 1) c) j ≤ kH me q s p 0 + oH me q C r (s + 1) 0 := mnF_0 (fun c => kH me q s p c + oH me q C r (s + 1) c) j
    have k4 := kH_le h.2.2.2.2.2.1 h.2.2.2.2.2.2 s p 0
    have k5 := oH_le h.2.2.2.2.2.1 h.2.2.2.2.2.2 C r (s + 1) 0
    show mP_hireChoice_18b (mP_hireChoice_18 n) w si (nI s) (vC p) _ _ (nI j) M = _
    unfold mP_hireChoice_18b
    rw [h.2.2.1, if_pos (nI_lt (by omega) (by omega)), nx]
    simp only [Option.bind_some, nI_1]
    by_cases z : kH me q s p (j + 1) + oH me q C r (s + 1) (j + 1) < mnF (fun c => kH me q s p c + oH me q C r (s + 1) c) j
    · rw [if_pos (nI_lt z (by omega))]
      rw [if_pos z, if_pos z, vC_s] at ih
      exact ih
    · rw [if_neg (nI_nlt (by omega) (by omega))]
      rw [if_neg z, if_neg z] at ih
      exact ih
theorem P_hireChoice_eq {M : Mem} {w si C S : Nat} {me q : Nat → Nat} (h : TH M w si C S me q) {s p r : Nat} (hs : s < S) (hp : p ≤ C) (hr : r ≤ 5) (hT : ∀ c, c ≤ C → M 25 0 0 ((s + 1) * 6 + c) = nI (oH me q C r (s + 1) c)) : mP_hireChoice w si (nI s) (vC p) M = some (vC (chH me q C r s p), M) := by
  have nx := P_hireNext_eq h (p := p) (c := 0) hs (by omega) hp (hT 0 (by omega))
  rw [vC_0] at nx
  unfold mP_hireChoice mP_hireChoiceb
  rw [nx]
  have h4 := h.2.2.2.1
  exact hc_loop h hs hp hr hT C 0 fuel (by omega) (by unfold fuel; omega)
/-- rows from t on are done -/
def TB (M : Mem) (C S : Nat) (me q : Nat → Nat) (t : Nat) : Prop := ∀ s, t ≤ s → s ≤ S → ∀ c, c ≤ C → M 25 0 0 (s * 6 + c) = nI (oH me q C (S - s) s c)
theorem hc_43 {w si C S : Nat} {me q : Nat → Nat} {s : Nat} (hs : s < S) (hS : S ≤ 5) (r35 : Nat → Nat → Int32 → Mem → Option (Int32 × Mem)) : ∀ (d p n : Nat) (M : Mem), p + d = C + 1 → d < n → TH M w si C S me q → TB M C S me q (s + 1) → (∀ c, c < p → M 25 0 0 (s * 6 + c) = nI (oH me q C (S - s) s c)) → ∃ M', mP_hireCost_43 r35 n w si (nI s) (vC p) M = r35 w si (vC s) M' ∧ (∀ r w' i k, r ≠ 25 → M' r w' i k = M r w' i k) ∧ TB M' C S me q s
  | 0, p, n, M, hp, hn, h, hB, hd => by
    obtain ⟨n, rfl⟩ : ∃ k, n = k + 1 := ⟨n - 1, by omega⟩
    have h4 := h.2.2.2.1
    refine ⟨M, ?_, fun _ _ _ _ _ => rfl, fun s' h1 h2 c hc => ?_⟩
    · show mP_hireCost_43b r35 (mP_hireCost_43 r35 n) w si (nI s) (vC p) M = _
      unfold mP_hireCost_43b
      rw [h.2.2.1, if_neg (fun z => by have := (vC_lt (by omega) (by omega)).mp z; omega), ← Int32.sub_eq_add_neg]
      rfl
    · by_cases e : s' = s
      · subst e
        exact hd c (by omega)
      · exact hB s' (by omega) h2 c hc
  | d + 1, p, n, M, hp, hn, h, hB, hd => by
    obtain ⟨n, rfl⟩ : ∃ k, n = k + 1 := ⟨n - 1, by omega⟩
    have h4 := h.2.2.2.1
    have hT : ∀ c, c ≤ C → M 25 0 0 ((s + 1) * 6 + c) = nI (oH me q C (S - (s + 1)) (s + 1) c) := fun c hc => hB (s + 1) (by omega) (by omega) c hc
    have ch := P_hireChoice_eq h (s := s) (p := p) (r := S - (s + 1)) (by omega) (by omega) (by omega) hT
    have cl : chH me q C (S - (s + 1)) s p ≤ C := amF_le _ _
    have nx := P_hireNext_eq h (s := s) (p := p) (by omega) cl (by omega) (hT _ cl)
    have ev : kH me q s p (chH me q C (S - (s + 1)) s p) + oH me q C (S - (s + 1)) (s + 1) (chH me q C (S - (s + 1)) s p) = oH me q C (S - s) s p := by
      rw [show S - s = S - (s + 1) + 1 by omega, oH_s]
      exact amF_v (fun c => kH me q s p c + oH me q C (S - (s + 1)) (s + 1) c) C
    rw [ev] at nx
    have st : mP_hireCost_43 r35 (n + 1) w si (nI s) (vC p) M = mP_hireCost_43 r35 n w si (nI s) (vC (p + 1)) (up M 25 0 0 (s * 6 + p) (nI (oH me q C (S - s) s p))) := by
      show mP_hireCost_43b r35 (mP_hireCost_43 r35 n) w si (nI s) (vC p) M = _
      unfold mP_hireCost_43b
      rw [h.2.2.1, if_pos ((vC_lt (by omega) (by omega)).mpr (by omega)), ch]
      simp only [Option.bind_some, P_hirePlace_eq, nx, ixx_nI (show s * 6 + p < 36 by omega) (show 36 < 2 ^ 31 by decide), vC_1]
    have fr : ∀ r w' i k, r ≠ 25 → up M 25 0 0 (s * 6 + p) (nI (oH me q C (S - s) s p)) r w' i k = M r w' i k := fun r w' i k hr => upR hr
    obtain ⟨M', a1, a2, a3⟩ := hc_43 hs hS r35 d (p + 1) n (up M 25 0 0 (s * 6 + p) (nI (oH me q C (S - s) s p))) (by omega) (by omega) (h.cong fr) (fun s' h1 h2 c hc => by rw [up_ne (by omega)]; exact hB s' h1 h2 c hc) (fun c hc => by
      by_cases e : c = p
      · subst e
        rw [up_eq]
      · rw [up_ne (by omega)]
        exact hd c (by omega))
    exact ⟨M', st.trans a1, fun r w' i k hr => by rw [a2 r w' i k hr, fr r w' i k hr], a3⟩
theorem hc_35 {w si C S : Nat} {me q : Nat → Nat} (hS : S ≤ 5) : ∀ (t n : Nat) (M : Mem), t ≤ S → t < n → TH M w si C S me q → TB M C S me q t → ∃ M', mP_hireCost_35 n w si (vC t) M = some (nI (oH me q C S 0 0), M') ∧ (∀ r w' i k, r ≠ 25 → M' r w' i k = M r w' i k) ∧ TB M' C S me q 0
  | 0, n, M, ht, hn, h, hB => by
    obtain ⟨n, rfl⟩ : ∃ k, n = k + 1 := ⟨n - 1, by omega⟩
    refine ⟨M, ?_, fun _ _ _ _ _ => rfl, hB⟩
    show mP_hireCost_35b (mP_hireCost_43 (mP_hireCost_35 n) fuel) w si (vC 0) M = _
    unfold mP_hireCost_35b
    have e : mP_hirePlace 0 (-1) M = some (nI 0, M) := P_hirePlace_eq 0 0 M
    rw [vC_0, if_pos (by decide), e]
    simp only [Option.bind_some, ixx_nI (show 0 < 36 by decide) (show 36 < 2 ^ 31 by decide)]
    have z := hB 0 (Nat.le_refl _) (Nat.zero_le _) 0 (Nat.zero_le _)
    rw [show (0 : Nat) * 6 + 0 = 0 from rfl] at z
    rw [z]
    rfl
  | t + 1, n, M, ht, hn, h, hB => by
    obtain ⟨n, rfl⟩ : ∃ k, n = k + 1 := ⟨n - 1, by omega⟩
    have h4 := h.2.2.2.1
    obtain ⟨M1, a1, a2, a3⟩ := hc_43 (s := t) (by omega) hS (mP_hireCost_35 n) (C + 1) 0 fuel M (by omega) (by unfold fuel; omega) h hB (fun c hc => by omega)
    obtain ⟨M2, c1, c2, c3⟩ := hc_35 hS t n M1 (by omega) (by omega) (h.cong a2) a3
    refine ⟨M2, ?_, fun r w' i k hr => by rw [c2 r w' i k hr, a2 r w' i k hr], c3⟩
    show mP_hireCost_35b (mP_hireCost_43 (mP_hireCost_35 n) fuel) w si (vC (t + 1)) M = _
    unfold mP_hireCost_35b
    rw [vC_s, if_neg (nI_pos (by omega))]
    exact a1.trans c1
theorem hc_3 {w si C S : Nat} {me q : Nat → Nat} (hS : S ≤ 5) : ∀ (d p n : Nat) (M : Mem), p + d = C + 1 → d < n → TH M w si C S me q → (∀ c, c < p → M 25 0 0 (S * 6 + c) = 0) → ∃ M', mP_hireCost_3 n w si (nI S) (vC p) M = mP_hireCost_35 fuel w si (vC S) M' ∧ (∀ r w' i k, r ≠ 25 → M' r w' i k = M r w' i k) ∧ ∀ c, c ≤ C → M' 25 0 0 (S * 6 + c) = 0
  | 0, p, n, M, hp, hn, h, hd => by
    obtain ⟨n, rfl⟩ : ∃ k, n = k + 1 := ⟨n - 1, by omega⟩
    have h4 := h.2.2.2.1
    refine ⟨M, ?_, fun _ _ _ _ _ => rfl, fun c hc => hd c (by omega)⟩
    show mP_hireCost_3b (mP_hireCost_3 n) (mP_hireCost_35 fuel) w si (nI S) (vC p) M = _
    unfold mP_hireCost_3b
    rw [h.2.2.1, if_neg (fun z => by have := (vC_lt (by omega) (by omega)).mp z; omega)]
    rfl
  | d + 1, p, n, M, hp, hn, h, hd => by
    obtain ⟨n, rfl⟩ : ∃ k, n = k + 1 := ⟨n - 1, by omega⟩
    have h4 := h.2.2.2.1
    have st : mP_hireCost_3 (n + 1) w si (nI S) (vC p) M = mP_hireCost_3 n w si (nI S) (vC (p + 1)) (up M 25 0 0 (S * 6 + p) 0) := by
      show mP_hireCost_3b (mP_hireCost_3 n) (mP_hireCost_35 fuel) w si (nI S) (vC p) M = _
      unfold mP_hireCost_3b
      rw [h.2.2.1, if_pos ((vC_lt (by omega) (by omega)).mpr (by omega)), P_hirePlace_eq]
      simp only [Option.bind_some, ixx_nI (show S * 6 + p < 36 by omega) (show 36 < 2 ^ 31 by decide), vC_1]
    obtain ⟨M', a1, a2, a3⟩ := hc_3 hS d (p + 1) n (up M 25 0 0 (S * 6 + p) 0) (by omega) (by omega) (h.cong fun r w' i k hr => upR hr) (fun c hc => by
      by_cases e : c = p
      · subst e
        rw [up_eq]
      · rw [up_ne (by omega)]
        exact hd c (by omega))
    exact ⟨M', st.trans a1, fun r w' i k hr => by rw [a2 r w' i k hr, upR hr], a3⟩
theorem P_hireCost_eq {M : Mem} {w si C S : Nat} {me q : Nat → Nat} (hS : S ≤ 5) (h : TH M w si C S me q) : ∃ M', mP_hireCost w si (nI S) M = some (nI (oH me q C S 0 0), M') ∧ (∀ r w' i k, r ≠ 25 → M' r w' i k = M r w' i k) ∧ TB M' C S me q 0 := by
  have h4 := h.2.2.2.1
  obtain ⟨M1, a1, a2, a3⟩ := hc_3 hS (C + 1) 0 fuel M (by omega) (by unfold fuel; omega) h (fun c hc => by omega)
  obtain ⟨M2, c1, c2, c3⟩ := hc_35 hS S fuel M1 (Nat.le_refl _) (by unfold fuel; omega) (h.cong a2) (fun s h1 h2 c hc => by
    obtain rfl : s = S := by omega
    rw [a3 c hc, Nat.sub_self]
    rfl)
  exact ⟨M2, (show mP_hireCost w si (nI S) M = _ from a1).trans c1, fun r w' i k hr => by rw [c2 r w' i k hr, a2 r w' i k hr], c3⟩
/-- whom one hires in the months before s -/
def hdH (me q : Nat → Nat) (C S : Nat) : Nat → Nat
  | 0 => 0
  | s + 1 => chH me q C (S - (s + 1)) s (hdH me q C S s)
theorem hdH_le (me q : Nat → Nat) (C S : Nat) : ∀ s, hdH me q C S s ≤ C
  | 0 => Nat.zero_le _
  | _ + 1 => amF_le _ _
theorem P_hiredIn_6 {M : Mem} {w si C S m : Nat} {me q : Nat → Nat} (hS : S ≤ 5) (hm : m < S) (h : TH M w si C S me q) (hB : TB M C S me q 0) : ∀ (d s n : Nat), s + d = m + 1 → d < n → mP_hiredIn_6 n w si (nI S) (nI m) (vC (hdH me q C S s)) (nI s) M = some (vC (hdH me q C S (m + 1)), M)
  | 0, s, n, hs, hn => by
    obtain ⟨n, rfl⟩ : ∃ k, n = k + 1 := ⟨n - 1, by omega⟩
    obtain rfl : s = m + 1 := hs
    show mP_hiredIn_6b (mP_hiredIn_6 n) w si (nI S) (nI m) _ (nI (m + 1)) M = _
    unfold mP_hiredIn_6b
    rw [if_neg (fun z => by have := (nI_leI (by omega) (by omega)).mp z; omega)]
  | d + 1, s, n, hs, hn => by
    obtain ⟨n, rfl⟩ : ∃ k, n = k + 1 := ⟨n - 1, by omega⟩
    have ih := P_hiredIn_6 hS hm h hB d (s + 1) n (by omega) (by omega)
    show mP_hiredIn_6b (mP_hiredIn_6 n) w si (nI S) (nI m) _ (nI s) M = _
    unfold mP_hiredIn_6b
    rw [if_pos (nI_le (by omega) (by omega)), if_pos (nI_lt (by omega) (by omega)), P_hireChoice_eq h (r := S - (s + 1)) (by omega) (hdH_le me q C S s) (by omega) (fun c hc => hB (s + 1) (Nat.zero_le _) (by omega) c hc)]
    simp only [Option.bind_some, nI_1]
    exact ih
theorem P_hiredIn_eq {M : Mem} {w si C S m : Nat} {me q : Nat → Nat} (hS : S ≤ 5) (hm : m < S) (h : TH M w si C S me q) (hB : TB M C S me q 0) : mP_hiredIn w si (nI S) (nI m) M = some (vC (hdH me q C S (m + 1)), M) :=
  P_hiredIn_6 hS hm h hB (m + 1) 0 fuel (by omega) (by unfold fuel; omega)
