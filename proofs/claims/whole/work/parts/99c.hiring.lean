/-! ===== hiring ===== -/
theorem hires_39 {s : Nat} (s5 : s ≤ 5) (rec : Int32 → Int32 → Int32 → Mem → Option Mem) : ∀ (d i n : Nat) (N : Mem), i + d = s → d < n → ∃ N', mK_hires_39 rec n (nI s) (nI i) N = some N' ∧ (∀ r w' i' k, r ≠ 58 → N' r w' i' k = N r w' i' k) ∧ (∀ j, j < i → N' 58 0 0 j = N 58 0 0 j) ∧ ∀ j, i ≤ j → j < s → N' 58 0 0 j = N 57 0 0 j
  | 0, i, n, N, hi, hn => by
    obtain ⟨n, rfl⟩ : ∃ k, n = k + 1 := ⟨n - 1, by omega⟩
    refine ⟨N, ?_, fun _ _ _ _ _ => rfl, fun _ _ => rfl, fun j h1 h2 => by omega⟩
    show mK_hires_39b rec (mK_hires_39 rec n) (nI s) (nI i) N = _
    unfold mK_hires_39b
    rw [if_neg (nI_nlt (by omega) (by omega))]
  | d + 1, i, n, N, hi, hn => by
    obtain ⟨n, rfl⟩ : ∃ k, n = k + 1 := ⟨n - 1, by omega⟩
    obtain ⟨N', a1, a2, a3, a4⟩ := hires_39 s5 rec d (i + 1) n (up N 58 0 0 i (N 57 0 0 i)) (by omega) (by omega)
    refine ⟨N', ?_, fun r w' i' k hr => by rw [a2 r w' i' k hr, upR hr], fun j hj => by rw [a3 j (by omega), up_ne (by omega)], fun j h1 h2 => ?_⟩
    · show mK_hires_39b rec (mK_hires_39 rec n) (nI s) (nI i) N = _
      unfold mK_hires_39b
      rw [if_pos (nI_lt (by omega) (by omega)), ixx_nI (by omega) (by decide), ixx_nI (by omega) (by decide), nI_1]
      exact a1
    · by_cases e : j = i
      · subst e
        rw [a3 j (by omega), up_eq]
      · rw [a4 j (by omega) h2, upR (by decide)]
theorem hires_ok {me q : Nat → Nat} {si C S : Nat} : ∀ (r s p x n : Nat) (N : Mem) (l : Option Nat), s + r = S → r < n → UH N si C S me q → N 40 0 0 20 = lvH l → (∀ v, l = some v → v < 2 ^ 30) → x ≤ 500000 * s → p ≤ C → ∃ N', g4 n 0 (nI s) (vC p) (nI x) N = some N' ∧ RH me q C S r s p x l N N' := by
  intro r
  induction r with
  | zero =>
    intro s p x n N l hsr hn h hl hlb hx hp
    obtain ⟨n, rfl⟩ : ∃ k, n = k + 1 := ⟨n - 1, by omega⟩
    obtain ⟨h1, h2, h3, h4, h5, h6, h7, h8, h9, h10, h11⟩ := h
    obtain rfl : s = S := by omega
    show ∃ N', mK_hires (fun x1 x2 x3 M => g4 n 0 x1 x2 x3 M) (nI s) (vC p) (nI x) N = some N' ∧ _
    unfold mK_hires mK_hiresb
    obtain ⟨N', a1, a2, a3, a4⟩ := hires_39 (s := s) (by omega) (fun x1 x2 x3 M => g4 n 0 x1 x2 x3 M) s 0 fuel (up N 40 0 0 20 (nI x)) (by omega) (by unfold fuel; omega)
    have a1 : mK_hires_39 (fun x1 x2 x3 M => g4 n 0 x1 x2 x3 M) fuel (nI s) 0 (up N 40 0 0 20 (nI x)) = some N' := a1
    rw [h8, ixx_nI h9 (by decide), h11, if_pos rfl]
    have good : bet l x → RH me q C s 0 s p x l N N' := fun hb => ⟨fun r w' i k hq => by rw [a2 r w' i k (by omega), up_ne (by omega)], .inl ⟨hb, by rw [a2 40 0 0 20 (by decide), up_eq]; rfl, fun j hj => by rw [a4 j (by omega) hj, upR (by decide)], fun k hk => by omega⟩⟩
    match l, hl, good with
    | none, hl, good =>
      have hl : N 40 0 0 20 = -1 := hl
      rw [hl, if_pos (by decide)]
      exact ⟨N', a1, good trivial⟩
    | some v, hl, good =>
      have hv := hlb v rfl
      have hl : N 40 0 0 20 = nI v := hl
      rw [hl, if_neg (nI_pos (by omega))]
      by_cases z : x < v
      · rw [if_pos (nI_lt z (by omega))]
        exact ⟨N', a1, good z⟩
      · rw [if_neg (nI_nlt (by omega) (by omega))]
        exact ⟨N, rfl, fun _ _ _ _ _ => rfl, .inr ⟨z, rfl, fun _ _ => rfl⟩⟩
  | succ r ih =>
    intro s p x n N l hsr hn h hl hlb hx hp
    obtain ⟨n, rfl⟩ : ∃ k, n = k + 1 := ⟨n - 1, by omega⟩
    have hU := h
    obtain ⟨h1, h2, h3, h4, h5, h6, h7, h8, h9, h10, h11⟩ := h
    show ∃ N', mK_hires (fun x1 x2 x3 M => g4 n 0 x1 x2 x3 M) (nI s) (vC p) (nI x) N = some N' ∧ _
    unfold mK_hires mK_hiresb
    obtain ⟨N', a1, aF, a2⟩ := hires_loop (si := si) (r := r) (show s + 1 + r = S by omega) hp hx hl hlb (fun x1 x2 x3 M => g4 n 0 x1 x2 x3 M) (fun c x' N1 l1 hc hx' hU1 hl1 hb1 => ih (s + 1) c x' n N1 l1 (by omega) (by omega) hU1 hl1 hb1 hx' hc) (C + 1) 0 fuel N (by omega) (by unfold fuel; omega) hU ⟨fun _ _ _ _ _ => rfl, .inr ⟨.inl rfl, rfl, fun _ _ => rfl⟩⟩
    rw [Nat.add_sub_cancel, mnF_add x (fun c => kH me q s p c + oH me q C r (s + 1) c) C, amF_add x (fun c => kH me q s p c + oH me q C r (s + 1) c) C] at a2
    have a1 : mK_hires_82 (fun x1 x2 x3 M => g4 n 0 x1 x2 x3 M) fuel (nI s) (vC p) (nI x) (nI (24 * si + 3 * s)) (-1) N = some N' := a1
    have ix : (24 : Int32) * nI si + 3 * nI s = nI (24 * si + 3 * s) := by rw [show (24 : Int32) = nI 24 from rfl, show (3 : Int32) = nI 3 from rfl, pk_mul, pk_mul, nI_add]
    have ne : ¬ nI s = nI S := by
      rw [nI_eq (by omega) (by omega)]
      omega
    rw [h8, ixx_nI h9 (by decide), h11, if_neg ne, ix]
    have good : RH me q C S (r + 1) s p x l N N' := by
      refine ⟨aF, ?_⟩
      rw [oH_s]
      rcases a2 with ⟨_, c1, c2, c3, c4, c5⟩ | ⟨c1, c2, c3⟩
      · refine .inl ⟨c1, c2, c3, fun k hk => ?_⟩
        match k, hk with
        | 0, _ => exact c4
        | k + 1, hk =>
          rw [show s + (k + 1) = s + 1 + k by omega]
          exact c5 k (by omega)
      · exact .inr ⟨c1.resolve_left (by omega), c2, c3⟩
    match l, hl, good with
    | none, hl, good =>
      have hl : N 40 0 0 20 = -1 := hl
      rw [hl, if_pos (by decide)]
      exact ⟨N', a1, good⟩
    | some v, hl, good =>
      have hv := hlb v rfl
      have hl : N 40 0 0 20 = nI v := hl
      rw [hl, if_neg (nI_pos (by omega))]
      by_cases z : x < v
      · rw [if_pos (nI_lt z (by omega))]
        exact ⟨N', a1, good⟩
      · rw [if_neg (nI_nlt (by omega) (by omega))]
        refine ⟨N, rfl, fun _ _ _ _ _ => rfl, .inr ⟨?_, rfl, fun _ _ => rfl⟩⟩
        show ¬ x + oH me q C (r + 1) s p < v
        omega
theorem ptH_hdH (me q : Nat → Nat) (C S : Nat) : ∀ (k s r : Nat), s + r = S → k < r → ptH me q C r s (hdH me q C S s) k = hdH me q C S (s + k + 1) := by
  intro k
  induction k with
  | zero =>
    intro s r h hk
    obtain ⟨r, rfl⟩ : ∃ j, r = j + 1 := ⟨r - 1, by omega⟩
    show chH me q C r s (hdH me q C S s) = chH me q C (S - (s + 1)) s (hdH me q C S s)
    rw [show S - (s + 1) = r by omega]
  | succ k ih =>
    intro s r h hk
    obtain ⟨r, rfl⟩ : ∃ j, r = j + 1 := ⟨r - 1, by omega⟩
    have e : chH me q C r s (hdH me q C S s) = hdH me q C S (s + 1) := by
      show _ = chH me q C (S - (s + 1)) s (hdH me q C S s)
      rw [show S - (s + 1) = r by omega]
    show ptH me q C r (s + 1) (chH me q C r s (hdH me q C S s)) k = _
    rw [e, ih (s + 1) r (by omega) (by omega), show s + 1 + k + 1 = s + (k + 1) + 1 by omega]
/-- what follows when the lances are counted -/
def tlH (x2 : Int32) (N : Mem) : Option (Int32 × Mem) :=
  (xK_hires 0 (-1) 0 N).bind fun q4 =>
    if x2 < 0 then
      some (q4 40 0 0 20, q4)
    else
      ixx x2 5 fun k5 =>
      some (q4 58 0 0 k5, q4)
theorem K_hiring_79 {B : Nat} {M : Mem} {f : Row} (h : RW B M 0 f) (x2 : Int32) : ∀ (d i n : Nat) (N : Mem), i + d = cn f 2 → d < n → N 41 0 0 = f → ∃ N', mK_hiring_79 n x2 (nI i) N = tlH x2 N' ∧ (∀ r w' i' k, r ≠ 59 → N' r w' i' k = N r w' i' k) ∧ (∀ j, j < i → N' 59 0 0 j = N 59 0 0 j) ∧ ∀ j, i ≤ j → j < cn f 2 → N' 59 0 0 j = nI (cL f j 0)
  | 0, i, n, N, hi, hn, hN => by
    obtain ⟨n, rfl⟩ : ∃ k, n = k + 1 := ⟨n - 1, by omega⟩
    have b2 := h.c.b2
    refine ⟨N, ?_, fun _ _ _ _ _ => rfl, fun _ _ => rfl, fun j h1 h2 => by omega⟩
    show mK_hiring_79b (mK_hiring_79 n) x2 (nI i) N = _
    unfold mK_hiring_79b
    rw [hN, h.c.n2, if_neg (nI_nlt (by omega) (by omega))]
    rfl
  | d + 1, i, n, N, hi, hn, hN => by
    obtain ⟨n, rfl⟩ : ∃ k, n = k + 1 := ⟨n - 1, by omega⟩
    have b2 := h.c.b2
    obtain ⟨N', a1, a2, a3, a4⟩ := K_hiring_79 h x2 d (i + 1) n (up N 59 0 0 i (nI (cL f i 0))) (by omega) (by omega) (by funext k; rw [upR (by decide), hN])
    refine ⟨N', ?_, fun r w' i' k hr => by rw [a2 r w' i' k hr, upR hr], fun j hj => by rw [a3 j (by omega), up_ne (by omega)], fun j h1 h2 => ?_⟩
    · have h' : RW B M 0 (N 41 0 0) := by rw [hN]; exact h
      show mK_hiring_79b (mK_hiring_79 n) x2 (nI i) N = _
      unfold mK_hiring_79b
      rw [K_manySo_0 h', hN, h.c.n2, if_pos (nI_lt (by omega) (by omega))]
      simp only [Option.bind_some, ixx_nI (show i < 5 by omega) (show 5 < 2 ^ 31 by decide), nI_1]
      exact a1
    · by_cases e : j = i
      · subst e
        rw [a3 j (by omega), up_eq]
      · exact a4 j (by omega) h2
theorem s_hiring {B : Nat} {M N : Mem} (h : Rel B M N) (x1 x2 : Int32) : Sim (Rel (B + 1)) (mF_hiring x1 x2 M) (mK_hiring x1 x2 N) := by
  unfold mF_hiring mK_hiring mK_hiringb
  simp only [F_isSheet_eq, K_isSheet_eq, S_missing_eq, Option.bind_some, bI_ite, bindE]
  refine Sim.ite (fun hp => ?_) (fun _ => Sim.f1 h)
  obtain ⟨si, s4, rfl⟩ := in_lit0 (b := 3) (by decide) hp
  obtain ⟨n, hsh⟩ := h.2.2.sheet s4
  obtain ⟨v1, v2, v3, v4⟩ := hsh
  have b2 := h.1.c.b2
  have b3 := h.1.c.b3
  rw [ixx_nI s4 (by decide), ixx_nI s4 (by decide), (h.2.2.2.2.1 si s4).1]
  refine Sim.ite (fun _ => Sim.f2 h) (fun _ => ?_)
  have t1 : mS_inThrees si 5 M = _ := S_inThrees_eq ⟨v1, v2, v3, v4⟩ (most := 5) (by decide)
  have t2 : mK_isOfThrees (nI si) 5 N = _ := K_isOfThrees_eq s4 ⟨v1, v2, v3, v4⟩ (most := 5) (by decide)
  rw [t1, t2]
  simp only [Option.bind_some, ixx_nI s4 (show 4 < 2 ^ 31 by decide), v1, v2, div3 v3, F_within_eq, K_in_eq, bI_ite]
  refine Sim.ite (fun _ => Sim.f5 h) (fun ht => ?_)
  have hthr : (n % 3 = 0 ∧ 1 ≤ n / 3 ∧ n / 3 ≤ 5) ∧ ¬ allW (fun k => N 66 0 0 (24 * si + k)) 0 9999 n 0 = 0 := by
    unfold thr at ht
    by_cases z : n % 3 = 0 ∧ 1 ≤ n / 3 ∧ n / 3 ≤ 5
    · rw [if_pos z] at ht
      exact ⟨z, ht⟩
    · rw [if_neg z] at ht
      exact absurd rfl ht
  refine Sim.ite (fun hq => ?_) (fun _ => Sim.f1 h)
  obtain ⟨⟨_, S1, S5⟩, hall⟩ := hthr
  generalize hS : n / 3 = S at *
  have hall := allW_all hall
  -- the numbers and the lances
  obtain ⟨q, hqd⟩ : ∃ q : Nat → Nat, q = fun k => if k < n then (N 66 0 0 (24 * si + k)).toNatClampNeg else 0 := ⟨_, rfl⟩
  have q1 : ∀ k, k < n → N 66 0 0 (24 * si + k) = nI (q k) ∧ q k ≤ 9999 := by
    intro k hk
    obtain ⟨j, hj, ej⟩ := in_lit0 (b := 9999) (by decide) (hall k (by omega) (by omega))
    have ej : N 66 0 0 (24 * si + k) = nI j := ej
    rw [hqd]
    simp only [if_pos hk, ej, nI_clamp (show j < 2 ^ 31 by omega)]
    exact ⟨trivial, by omega⟩
  have q2 : ∀ k, q k ≤ 9999 := by
    intro k
    by_cases z : k < n
    · exact (q1 k z).2
    · rw [hqd]
      simp only [if_neg z]
      omega
  obtain ⟨me, hme⟩ : ∃ me : Nat → Nat, me = fun c => if c = 0 then 0 else cL (N 41 0 0) (c - 1) 0 := ⟨_, rfl⟩
  have me0 : me 0 = 0 := by rw [hme]; rfl
  have mes : ∀ c, me (c + 1) = cL (N 41 0 0) c 0 := fun c => by rw [hme]; rfl
  have me4 : ∀ c, me c ≤ 40 := by
    intro c
    by_cases z : c = 0
    · rw [z, me0]; omega
    · obtain ⟨c, rfl⟩ : ∃ j, c = j + 1 := ⟨c - 1, by omega⟩
      rw [mes]
      have : cL (N 41 0 0) c 0 ≤ cn (N 41 0 0) 3 := fb_ct_le _ _
      omega
  have hT : TH M 0 si (cn (N 41 0 0) 2) S me q := ⟨fun c hc => by rw [(h.1.f c hc).1, mes], ⟨me0, S5⟩, h.1.c.e2.trans h.1.c.n2, b2, fun k hk => by rw [v4 k (by omega)]; exact (q1 k (by omega)).1, me4, q2⟩
  obtain ⟨M', m1, m2, m3⟩ := P_hireCost_eq S5 hT
  rw [m1]
  simp only [Option.bind_some]
  -- the reference
  obtain ⟨N1, c1, c2, c3, c4⟩ := K_hiring_79 h.1 x2 (cn (N 41 0 0) 2) 0 fuel (up (up N 40 0 0 19 (nI si)) 40 0 0 20 (-1)) (by omega) (by unfold fuel; omega) (by funext k; rw [upR (by decide), upR (by decide)])
  have c1 : mK_hiring_79 fuel x2 0 (up (up N 40 0 0 19 (nI si)) 40 0 0 20 (-1)) = tlH x2 N1 := c1
  rw [c1]
  have hU : UH N1 si (cn (N 41 0 0) 2) S me q := by
    refine ⟨fun c hc => by rw [c4 c (by omega) hc, mes], me0, ?_, b2, fun k hk => ?_, me4, q2, ?_, s4, S5, ?_⟩
    · rw [c2 _ _ _ _ (by decide), upR (by decide), upR (by decide)]
      exact h.1.c.n2
    · rw [c2 _ _ _ _ (by decide), upR (by decide), upR (by decide)]
      exact (q1 k (by omega)).1
    · rw [c2 _ _ _ _ (by decide), up_ne (by omega), up_eq]
    · rw [c2 _ _ _ _ (by decide), upR (by decide), upR (by decide), v2, div3 v3, hS]
  obtain ⟨N2, r1, rF, r2⟩ := hires_ok S 0 0 0 60 N1 none (by omega) (by omega) hU (by rw [c2 _ _ _ _ (by decide), up_eq]; rfl) (fun v hv => by cases hv) (Nat.zero_le _) (Nat.zero_le _)
  have r1 : xK_hires 0 (-1) 0 N1 = some N2 := r1
  unfold tlH
  rw [r1]
  simp only [Option.bind_some]
  have hR : Rel (B + 1) M' N2 := h.frame (by omega) (fun r w i k _ _ q _ => m2 r w i k q) (fun r k q => by rw [rF r 0 0 k (by omega), c2 r 0 0 k (by omega), up_ne (by omega), up_ne (by omega)])
  rcases r2 with ⟨_, p2, p3, p4⟩ | ⟨p1, _⟩
  · by_cases z : x2 < 0
    · rw [if_pos z, if_pos z, p2, Nat.zero_add]
      exact Sim.ret hR
    · rw [if_neg z, if_neg z]
      have eS : nI S - 1 = nI (S - 1) := pk_sub (b := 1) S1
      rw [eS] at hq
      obtain ⟨m, hm, rfl⟩ := in_lit0 (b := S - 1) (by omega) ⟨Int32.not_lt.mp z, hq.2⟩
      rw [P_hiredIn_eq S5 (show m < S by omega) (hT.cong m2) m3, ixx_nI (by omega) (by decide)]
      have e4 := p4 m (by omega)
      rw [Nat.zero_add] at e4
      have e5 : ptH me q (cn (N 41 0 0) 2) S 0 0 m = hdH me q (cn (N 41 0 0) 2) S (m + 1) := by
        have := ptH_hdH me q (cn (N 41 0 0) 2) S m 0 S (by omega) (by omega)
        rw [Nat.zero_add] at this
        exact this
      rw [e4, e5]
      exact Sim.ret hR
  · exact absurd trivial p1
