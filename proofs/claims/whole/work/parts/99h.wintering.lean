/-! ===== wintering ===== -/
theorem settle_34 {s : Nat} (s5 : s ≤ 5) (rec : Int32 → Int32 → Int32 → Mem → Option Mem) : ∀ (d i n : Nat) (N : Mem), i + d = s → d < n → ∃ N', mK_settle_34 rec n (nI s) (nI i) N = some N' ∧ (∀ r w' i' k, r ≠ 55 → N' r w' i' k = N r w' i' k) ∧ (∀ j, j < i → N' 55 0 0 j = N 55 0 0 j) ∧ ∀ j, i ≤ j → j < s → N' 55 0 0 j = N 54 0 0 j
  | 0, i, n, N, hi, hn => by
    obtain ⟨n, rfl⟩ : ∃ k, n = k + 1 := ⟨n - 1, by omega⟩
    refine ⟨N, ?_, fun _ _ _ _ _ => rfl, fun _ _ => rfl, fun j h1 h2 => by omega⟩
    show mK_settle_34b rec (mK_settle_34 rec n) (nI s) (nI i) N = _
    unfold mK_settle_34b
    rw [if_neg (nI_nlt (by omega) (by omega))]
  | d + 1, i, n, N, hi, hn => by
    obtain ⟨n, rfl⟩ : ∃ k, n = k + 1 := ⟨n - 1, by omega⟩
    obtain ⟨N', a1, a2, a3, a4⟩ := settle_34 s5 rec d (i + 1) n (up N 55 0 0 i (N 54 0 0 i)) (by omega) (by omega)
    refine ⟨N', ?_, fun r w' i' k hr => by rw [a2 r w' i' k hr, upR hr], fun j hj => by rw [a3 j (by omega), up_ne (by omega)], fun j h1 h2 => ?_⟩
    · show mK_settle_34b rec (mK_settle_34 rec n) (nI s) (nI i) N = _
      unfold mK_settle_34b
      rw [if_pos (nI_lt (by omega) (by omega)), ixx_nI (by omega) (by decide), ixx_nI (by omega) (by decide), nI_1]
      exact a1
    · by_cases e : j = i
      · subst e
        rw [a3 j (by omega), up_eq]
      · rw [a4 j (by omega) h2, upR (by decide)]
theorem settleW {cst : Nat → Nat → Nat} {C T : Nat} : ∀ (r s m x n : Nat) (N : Mem) (l : Option Nat), s + r = C → r < n → m < 2 ^ T → pc8 m = s → UW N C T cst → N 40 0 0 15 = lvH l → (∀ v, l = some v → v < 2 ^ 30) → x ≤ 9999 * s → ∃ N', g3 n 0 (nI s) (nI m) (nI x) N = some N' ∧ RHW cst C T r s m x l N N' := by
  intro r
  induction r with
  | zero =>
    intro s m x n N l hsr hn hm hpc h hl hlb hx
    obtain ⟨n, rfl⟩ : ∃ k, n = k + 1 := ⟨n - 1, by omega⟩
    obtain ⟨h1, h2, h3, h4, h5, h6, h7⟩ := h
    obtain rfl : s = C := by omega
    show ∃ N', mK_settle (fun x1 x2 x3 M => g3 n 0 x1 x2 x3 M) (nI s) (nI m) (nI x) N = some N' ∧ _
    unfold mK_settle mK_settleb
    obtain ⟨N', a1, a2, a3, a4⟩ := settle_34 (s := s) (by omega) (fun x1 x2 x3 M => g3 n 0 x1 x2 x3 M) s 0 fuel (up N 40 0 0 15 (nI x)) (by omega) (by unfold fuel; omega)
    have a1 : mK_settle_34 (fun x1 x2 x3 M => g3 n 0 x1 x2 x3 M) fuel (nI s) 0 (up N 40 0 0 15 (nI x)) = some N' := a1
    rw [h2, if_pos rfl]
    have good : bet l x → RHW cst s T 0 s m x l N N' := fun hb => ⟨fun r w' i k hq => by rw [a2 r w' i k (by omega), up_ne (by omega)], .inl ⟨hb, by rw [a2 40 0 0 15 (by decide), up_eq]; rfl, fun j hj => by rw [a4 j (by omega) hj, upR (by decide)], fun k hk => by omega⟩⟩
    match l, hl, good with
    | none, hl, good =>
      have hl : N 40 0 0 15 = -1 := hl
      rw [hl, if_pos (by decide)]
      exact ⟨N', a1, good trivial⟩
    | some v, hl, good =>
      have hv := hlb v rfl
      have hl : N 40 0 0 15 = nI v := hl
      rw [hl, if_neg (nI_pos (by omega))]
      by_cases z : x < v
      · rw [if_pos (nI_lt z (by omega))]
        exact ⟨N', a1, good z⟩
      · rw [if_neg (nI_nlt (by omega) (by omega))]
        exact ⟨N, rfl, fun _ _ _ _ _ => rfl, .inr ⟨z, rfl, fun _ _ => rfl⟩⟩
  | succ r ih =>
    intro s m x n N l hsr hn hm hpc h hl hlb hx
    obtain ⟨n, rfl⟩ : ∃ k, n = k + 1 := ⟨n - 1, by omega⟩
    have hU := h
    obtain ⟨h1, h2, h3, h4, h5, h6, h7⟩ := h
    show ∃ N', mK_settle (fun x1 x2 x3 M => g3 n 0 x1 x2 x3 M) (nI s) (nI m) (nI x) N = some N' ∧ _
    unfold mK_settle mK_settleb
    obtain ⟨N', a1, aF, a2⟩ := settle_loop (cst := cst) (C := C) (T := T) (r := r) rfl (show s + 1 + r = C by omega) hm hpc hx hl hlb (fun x1 x2 x3 M => g3 n 0 x1 x2 x3 M) (fun m' x' N1 l1 hm' hp' hx' hU1 hl1 hb1 => ih (s + 1) m' x' n N1 l1 (by omega) (by omega) hm' hp' hU1 hl1 hb1 hx') T 0 fuel N (by omega) (by unfold fuel; omega) hU ⟨fun _ _ _ _ _ => rfl, .inr ⟨.inl rfl, rfl, fun _ _ => rfl⟩⟩
    have a1 : mK_settle_64 (fun x1 x2 x3 M => g3 n 0 x1 x2 x3 M) fuel (nI s) (nI m) (nI x) 0 N = some N' := a1
    have ne : ¬ nI s = nI C := by
      rw [nI_eq (by omega) (by omega)]
      omega
    rw [h2, if_neg ne]
    have eo : oW cst C T (r + 1) m = mnG (gW cst (oW cst C T r) s m) T := by rw [oW_s, show C - (r + 1) = s by omega]
    have lo := oW_le h7 (C := C) h4 (r + 1) m hm (by omega)
    have good : RHW cst C T (r + 1) s m x l N N' := by
      refine ⟨aF, ?_⟩
      rw [eo]
      rw [eo] at lo
      rcases a2 with ⟨_, c1, c2, c3, c4, c5⟩ | ⟨c1, c2, c3⟩
      · refine .inl ⟨c1, c2, c3, fun k hk => ?_⟩
        match k, hk with
        | 0, _ => exact c4
        | k + 1, hk =>
          rw [show s + (k + 1) = s + 1 + k by omega]
          exact c5 k (by omega)
      · exact .inr ⟨c1.resolve_left (by omega), c2, c3⟩
    match l, hl, good with
    | none, hl, good =>
      have hl : N 40 0 0 15 = -1 := hl
      rw [hl, if_pos (by decide)]
      exact ⟨N', a1, good⟩
    | some v, hl, good =>
      have hv := hlb v rfl
      have hl : N 40 0 0 15 = nI v := hl
      rw [hl, if_neg (nI_pos (by omega))]
      by_cases z : x < v
      · rw [if_pos (nI_lt z (by omega))]
        exact ⟨N', a1, good⟩
      · rw [if_neg (nI_nlt (by omega) (by omega))]
        refine ⟨N, rfl, fun _ _ _ _ _ => rfl, .inr ⟨?_, rfl, fun _ _ => rfl⟩⟩
        show ¬ x + oW cst C T (r + 1) m < v
        omega
theorem ptW_tnW (cst : Nat → Nat → Nat) (C T : Nat) : ∀ (k s r : Nat), s + r = C → k < r → ptW cst C T r s (mkW cst C T s) k = tnW cst C T (s + k) := by
  intro k
  induction k with
  | zero =>
    intro s r h hk
    obtain ⟨r, rfl⟩ : ∃ j, r = j + 1 := ⟨r - 1, by omega⟩
    show amG (gW cst (oW cst C T r) s (mkW cst C T s)) T = amG (gW cst (oW cst C T (C - s - 1)) s (mkW cst C T s)) T
    rw [show C - s - 1 = r by omega]
  | succ k ih =>
    intro s r h hk
    obtain ⟨r, rfl⟩ : ∃ j, r = j + 1 := ⟨r - 1, by omega⟩
    have e : mkW cst C T s ||| 2 ^ (amG (gW cst (oW cst C T r) s (mkW cst C T s)) T) = mkW cst C T (s + 1) := by
      show _ = mkW cst C T s ||| 2 ^ (amG (gW cst (oW cst C T (C - s - 1)) s (mkW cst C T s)) T)
      rw [show C - s - 1 = r by omega]
    show ptW cst C T r (s + 1) (mkW cst C T s ||| 2 ^ (amG (gW cst (oW cst C T r) s (mkW cst C T s)) T)) k = _
    rw [e, ih (s + 1) r (by omega) (by omega), show s + 1 + k = s + (k + 1) by omega]
