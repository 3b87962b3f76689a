/-! ===== lances that change ===== -/
theorem C_part_eq (w c : Nat) (x : Int32) (M : Mem) : mC_part w c x M = some (up (up M 6 w c 6 (M 6 w c 6 - bI (x = 0))) 6 w c 7 (M 6 w c 7 - bI (x = 1))) := by
  have e : ∀ v, up M 6 w c 6 v 6 w c 7 = M 6 w c 7 := fun v => up_ne (by omega)
  unfold mC_part bI
  by_cases h0 : x = 0
  · subst h0
    simp [e]
  · by_cases h1 : x = 1
    · subst h1
      simp [e]
    · simp [h0, h1, e]
theorem C_join_eq (w c : Nat) (x : Int32) (M : Mem) : mC_join w c x M = some (up (up M 6 w c 6 (M 6 w c 6 + bI (x = 0))) 6 w c 7 (M 6 w c 7 + bI (x = 1))) := by
  have e : ∀ v, up M 6 w c 6 v 6 w c 7 = M 6 w c 7 := fun v => up_ne (by omega)
  unfold mC_join bI
  by_cases h0 : x = 0
  · subst h0
    simp [e]
  · by_cases h1 : x = 1
    · subst h1
      simp [e]
    · simp [h0, h1, e]
/-- a lance that becomes so -/
def lB (M : Mem) (w l c : Nat) (old x : Int32) : Mem := up (up (up M 10 w l 3 x) 6 w c 6 (M 6 w c 6 - bI (old = 0) + bI (x = 0))) 6 w c 7 (M 6 w c 7 - bI (old = 1) + bI (x = 1))
theorem W_become_eq {w l c : Nat} {M : Mem} (hc : c < 5) (h : M 10 w l 0 = nI c) (x : Int32) : mW_become w w l x M = some (lB M w l c (M 10 w l 3) x) := by
  unfold mW_become
  rw [h, ixx_nI hc (by decide), C_part_eq]
  simp only [Option.bind_some, C_join_eq]
  refine congrArg some ?_
  unfold lB
  funext r w' i k
  by_cases h7 : r = 6 ∧ w' = w ∧ i = c ∧ k = 7
  · obtain ⟨rfl, rfl, rfl, rfl⟩ := h7
    simp [up]
  · by_cases h6 : r = 6 ∧ w' = w ∧ i = c ∧ k = 6
    · obtain ⟨rfl, rfl, rfl, rfl⟩ := h6
      simp [up]
    · by_cases h3 : r = 10 ∧ w' = w ∧ i = l ∧ k = 3
      · obtain ⟨rfl, rfl, rfl, rfl⟩ := h3
        simp [up]
      · rw [up_ne h7, up_ne h6, up_ne h3, up_ne h7, up_ne h6, up_ne h7, up_ne h6, up_ne h3]
theorem bI_nat {p : Prop} [Decidable p] : bI p = nI (if p then 1 else 0) := by
  unfold bI; split <;> rfl
theorem cL_upd {f f' : Row} {l : Nat} (hl : l < cn f 3) (h3 : f' 3 = f 3) (hf : ∀ j, j < cn f 3 → j ≠ l → f' (220 + 5 * j) = f (220 + 5 * j) ∧ f' (220 + 5 * j + 3) = f (220 + 5 * j + 3)) (c h : Nat) : nI (cL f' c h) = nI (cL f c h) - bI (f (220 + 5 * l) = nI c ∧ f (220 + 5 * l + 3) = nI h) + bI (f' (220 + 5 * l) = nI c ∧ f' (220 + 5 * l + 3) = nI h) := by
  have key := fb_ct_upd (fun j => decide (f (220 + 5 * j) = nI c ∧ f (220 + 5 * j + 3) = nI h)) (decide (f' (220 + 5 * l) = nI c ∧ f' (220 + 5 * l + 3) = nI h)) hl
  have e : cL f' c h = fb_ct (fun k => if k = l then decide (f' (220 + 5 * l) = nI c ∧ f' (220 + 5 * l + 3) = nI h) else decide (f (220 + 5 * k) = nI c ∧ f (220 + 5 * k + 3) = nI h)) (cn f 3) := by
    unfold cL
    rw [cn_same h3]
    refine fb_ct_cong fun k hk => ?_
    by_cases q : k = l
    · subst q
      rw [if_pos rfl]
    · rw [if_neg q, (hf k hk q).1, (hf k hk q).2]
  rw [← e] at key
  simp only [decide_eq_true_eq] at key
  have e2 : cL f c h = fb_ct (fun j => decide (f (220 + 5 * j) = nI c ∧ f (220 + 5 * j + 3) = nI h)) (cn f 3) := rfl
  rw [← e2] at key
  have k2 := congrArg nI key
  rw [← nI_add, ← nI_add, ← bI_nat, ← bI_nat] at k2
  rw [Int32.sub_eq_add_neg, Int32.add_assoc, Int32.add_comm (-_), ← Int32.add_assoc, ← k2, Int32.add_assoc, Int32.add_right_neg, Int32.add_zero]
/-- a lance is another -/
theorem RW.lanceMove {B B' : Nat} {M M' : Mem} {w : Nat} {f f' : Row} {l : Nat} (h : RW B M w f) (hB : B ≤ B') (hl : l < cn f 3) (hM : ∀ r i k, r ≠ 17 → r < 18 → ¬ ((r = 10 ∧ i = l) ∨ (r = 6 ∧ (k = 6 ∨ k = 7))) → M' r w i k = M r w i k) (hf : ∀ k, (k < 220 + 5 * l ∨ 225 + 5 * l ≤ k) → f' k = f k) (hL : ∀ k, k < 5 → M' 10 w l k = f' (220 + 5 * l + k)) (v0 : isN (f' (220 + 5 * l)) (cn f 2)) (v3 : isN (f' (220 + 5 * l + 3)) 4) (v4 : f' (220 + 5 * l + 4) = -1 ∨ isN (f' (220 + 5 * l + 4)) (cn f 0))
    (hc6 : ∀ c, c < cn f 2 → M' 6 w c 6 = M 6 w c 6 - bI (f (220 + 5 * l) = nI c ∧ f (220 + 5 * l + 3) = nI 0) + bI (f' (220 + 5 * l) = nI c ∧ f' (220 + 5 * l + 3) = nI 0)) (hc7 : ∀ c, c < cn f 2 → M' 6 w c 7 = M 6 w c 7 - bI (f (220 + 5 * l) = nI c ∧ f (220 + 5 * l + 3) = nI 1) + bI (f' (220 + 5 * l) = nI c ∧ f' (220 + 5 * l + 3) = nI 1)) : RW B' M' w f' := by
  have b3 := h.c.b3
  have e0 : f' 0 = f 0 := hf 0 (by omega)
  have e2 : f' 2 = f 2 := hf 2 (by omega)
  have e3 : f' 3 = f 3 := hf 3 (by omega)
  refine h.lanceAt (l := l) hB hM hf (by omega) ⟨hL, ?_, v3, ?_⟩ ?_
  · rw [cn_same e2]; exact v0
  · rw [cn_same e0]; exact v4
  · intro c hc
    rw [cn_same e2] at hc
    have z := h.f c hc
    rw [hc6 c hc, hc7 c hc, cL_upd hl e3 (fun j hj q => ⟨hf _ (by omega), hf _ (by omega)⟩), cL_upd hl e3 (fun j hj q => ⟨hf _ (by omega), hf _ (by omega)⟩), z.1, z.2]
    exact ⟨rfl, rfl⟩
theorem lB_o {M : Mem} {w l c : Nat} {old x : Int32} {r w' i k : Nat} (h : ¬ (w' = w ∧ ((r = 10 ∧ i = l ∧ k = 3) ∨ (r = 6 ∧ i = c ∧ (k = 6 ∨ k = 7))))) : lB M w l c old x r w' i k = M r w' i k := by
  unfold lB
  rw [up_ne (by omega), up_ne (by omega), up_ne (by omega)]
theorem lB_3 {M : Mem} {w l c : Nat} {old x : Int32} : lB M w l c old x 10 w l 3 = x := by
  unfold lB
  rw [up_ne (by omega), up_ne (by omega), up_eq]
theorem lB_6 {M : Mem} {w l c : Nat} {old x : Int32} : lB M w l c old x 6 w c 6 = M 6 w c 6 - bI (old = 0) + bI (x = 0) := by
  unfold lB
  rw [up_ne (by omega), up_eq]
theorem lB_7 {M : Mem} {w l c : Nat} {old x : Int32} : lB M w l c old x 6 w c 7 = M 6 w c 7 - bI (old = 1) + bI (x = 1) := up_eq
/-- a lance becomes so -/
theorem RW.become {B B' : Nat} {M : Mem} {w : Nat} {f : Row} {l c : Nat} {x : Int32} (h : RW B M w f) (hB : B ≤ B') (hl : l < cn f 3) (hc5 : c < 5) (hc : f (220 + 5 * l) = nI c) (hx : isN x 4) : RW B' (lB M w l c (f (220 + 5 * l + 3)) x) w (upd f (220 + 5 * l + 3) x) := by
  obtain ⟨q1, q2, q3, q4⟩ := h.l l hl
  have b2 := h.c.b2
  have b3 := h.c.b3
  have n0 : upd f (220 + 5 * l + 3) x (220 + 5 * l) = f (220 + 5 * l) := pk_un (by omega)
  have n4 : upd f (220 + 5 * l + 3) x (220 + 5 * l + 4) = f (220 + 5 * l + 4) := pk_un (by omega)
  have n3 : upd f (220 + 5 * l + 3) x (220 + 5 * l + 3) = x := pk_us
  refine h.lanceMove (l := l) hB hl (fun r i k _ _ q => lB_o (by omega)) (fun k hk => pk_un (by omega)) (fun k hk => ?_) (by rw [n0]; exact q2) (by rw [n3]; exact hx) (by rw [n4]; exact q4) (fun j hj => ?_) (fun j hj => ?_)
  · by_cases e : k = 3
    · subst e
      rw [lB_3, n3]
    · rw [lB_o (by omega), pk_un (by omega)]
      exact q1 k hk
  · rw [n0, n3]
    by_cases e : j = c
    · subst e
      rw [lB_6, bI_cong (p := f (220 + 5 * l + 3) = 0) (q := f (220 + 5 * l) = nI j ∧ f (220 + 5 * l + 3) = nI 0) ⟨fun z => ⟨hc, z⟩, fun z => z.2⟩, bI_cong (p := x = 0) (q := f (220 + 5 * l) = nI j ∧ x = nI 0) ⟨fun z => ⟨hc, z⟩, fun z => z.2⟩]
    · have ne : ¬ f (220 + 5 * l) = nI j := by
        rw [hc, nI_eq (by omega) (by omega)]
        omega
      rw [lB_o (by omega)]
      simp [bI, ne]
  · rw [n0, n3]
    by_cases e : j = c
    · subst e
      rw [lB_7, bI_cong (p := f (220 + 5 * l + 3) = 1) (q := f (220 + 5 * l) = nI j ∧ f (220 + 5 * l + 3) = nI 1) ⟨fun z => ⟨hc, z⟩, fun z => z.2⟩, bI_cong (p := x = 1) (q := f (220 + 5 * l) = nI j ∧ x = nI 1) ⟨fun z => ⟨hc, z⟩, fun z => z.2⟩]
    · have ne : ¬ f (220 + 5 * l) = nI j := by
        rw [hc, nI_eq (by omega) (by omega)]
        omega
      rw [lB_o (by omega)]
      simp [bI, ne]
/-- who holds a lance -/
theorem RW.holder {B B' : Nat} {M : Mem} {w : Nat} {f : Row} {l : Nat} {x : Int32} (h : RW B M w f) (hB : B ≤ B') (hl : l < cn f 3) (hx : x = -1 ∨ isN x (cn f 0)) : RW B' (up M 10 w l 4 x) w (upd f (220 + 5 * l + 4) x) := by
  obtain ⟨q1, q2, q3, q4⟩ := h.l l hl
  have b3 := h.c.b3
  have n0 : upd f (220 + 5 * l + 4) x (220 + 5 * l) = f (220 + 5 * l) := pk_un (by omega)
  have n3 : upd f (220 + 5 * l + 4) x (220 + 5 * l + 3) = f (220 + 5 * l + 3) := pk_un (by omega)
  have n4 : upd f (220 + 5 * l + 4) x (220 + 5 * l + 4) = x := pk_us
  refine h.lanceMove (l := l) hB hl (fun r i k _ _ q => up_ne (by omega)) (fun k hk => pk_un (by omega)) (fun k hk => ?_) (by rw [n0]; exact q2) (by rw [n3]; exact q3) (by rw [n4]; exact hx) (fun j hj => ?_) (fun j hj => ?_)
  · by_cases e : k = 4
    · subst e
      rw [up_eq, n4]
    · rw [up_ne (by omega), pk_un (by omega)]
      exact q1 k hk
  · rw [n0, n3, up_ne (by omega), Int32.sub_add_cancel]
  · rw [n0, n3, up_ne (by omega), Int32.sub_add_cancel]
theorem s_take {B : Nat} {M N : Mem} (h : Rel B M N) (x1 x2 : Int32) : Sim (Rel (B + 1)) (mF_take x1 x2 M) (mK_take x1 x2 N) := by
  unfold mF_take mK_take
  simp only [F_isTown_eq h.1.c, K_isTown_eq, F_isLance_eq h.1.c, K_isLance_eq, L_present_eq, Option.bind_some, bI_ite, bindE]
  refine Sim.ite (fun hp => ?_) (fun _ => Sim.f1 h)
  refine Sim.ite (fun hq => ?_) (fun _ => Sim.f1 h)
  obtain ⟨l, hl, rfl⟩ := h.1.c.in3 hq
  have b3 := h.1.c.b3
  have b2 := h.1.c.b2
  have l4 : l < 40 := by omega
  obtain ⟨q1, ⟨c, hc, ec⟩, ⟨s, hs, es⟩, q4⟩ := h.1.l l hl
  have c5 : c < 5 := by omega
  have q10 : M 10 0 l 0 = N 41 0 0 (220 + 5 * l) := q1 0 (by decide)
  rw [ixx_nI l4 (by decide), q1 3 (by decide), q10, ec, ixx_nI c5 (by decide), (h.1.p c hc).1.2.2.2.1]
  simp only [K_its_3 l4, K_its_0 l4, ec, K_own_2 c5, Option.bind_some]
  by_cases hs1 : N 41 0 0 (220 + 5 * l + 3) = 0 ∨ N 41 0 0 (220 + 5 * l + 3) = 1
  · have hle : N 41 0 0 (220 + 5 * l + 3) ≤ 1 := by
      rcases hs1 with q | q <;> rw [q] <;> decide
    rw [if_pos hs1, if_pos hle]
    refine Sim.ite (fun _ => Sim.f3 h) (fun hne => ?_)
    rw [W_become_eq c5 (q10.trans ec), q1 3 (by decide)]
    simp only [K_turns_eq l4, Option.bind_some, iL4 l4]
    refine Sim.ret (h.world (by omega) ?_ (fun r w i k _ _ _ _ q => by rw [up_ne (by omega), lB_o (by omega)]) (fun r k q => by rw [up_ne (by omega), up_ne (by omega)]))
    rw [up_row, up_row]
    have r1 := h.1.become (B' := B + 1) (x := 2) (by omega) hl c5 ec ⟨2, by decide, rfl⟩
    refine r1.holder (by omega) ?_ (.inr ?_)
    · rw [cn_same (pk_un (by omega))]; exact hl
    · rw [cn_same (pk_un (by omega))]; exact h.1.c.in0 hp
  · have hle : ¬ N 41 0 0 (220 + 5 * l + 3) ≤ 1 := by
      rw [es] at hs1 ⊢
      intro z
      have := (nI_leI (b := 1) (by omega) (by decide)).mp z
      rcases (by omega : s = 0 ∨ s = 1) with rfl | rfl
      · exact hs1 (.inl rfl)
      · exact hs1 (.inr rfl)
    rw [if_neg hs1, if_neg hle]
    exact Sim.f3 h
theorem s_lance {B : Nat} {M N : Mem} (h : Rel B M N) (x1 x2 x3 : Int32) : Sim (Rel (B + 1)) (mF_lance x1 x2 x3 M) (mK_lance x1 x2 x3 N) := by
  unfold mF_lance mK_lance mL_begin
  simp only [F_isCompany_eq h.1.c, K_isCompany_eq, F_within_eq, K_in_eq, F_isMark_eq, Option.bind_some, bI_ite, bindE]
  refine Sim.ite (fun hp => ?_) (fun _ => Sim.f1 h)
  refine Sim.ite (fun hq => ?_) (fun _ => Sim.f1 h)
  refine Sim.ite (fun hr => ?_) (fun _ => Sim.f1 h)
  obtain ⟨c, hc, rfl⟩ := h.1.c.in2 hp
  have b2 := h.1.c.b2
  have c5 : c < 5 := by omega
  have b3 := h.1.c.b3
  have e3 := h.1.c.e3
  have n3 := h.1.c.n3
  rw [e3]
  by_cases hf : N 41 0 0 3 = 40
  · rw [if_pos hf, if_neg (by rw [hf]; decide)]
    exact Sim.f4 h
  have hlt : N 41 0 0 3 < 40 := (cnt_lt (b := 40) n3 b3 (by decide)).mpr hf
  rw [if_neg hf, if_pos hlt]
  have l4 : cn (N 41 0 0) 3 < 40 := by
    rw [n3] at hlt
    exact (nI_ltI (b := 40) (by omega) (by decide)).mp hlt
  rw [n3, ixx_nI l4 (by decide), ixx_nI c5 (by decide), iL0 l4, iL1 l4, iL2 l4, iL3 l4, iL4 l4]
  generalize hT : cn (N 41 0 0) 3 = T at *
  generalize hMb : up (up (up (up (up M 10 0 T 0 (nI c)) 10 0 T 1 x2) 10 0 T 2 x3) 10 0 T 3 0) 10 0 T 4 (-1) = Mb
  have o1 : ∀ r w i k, ¬ (r = 10 ∧ w = 0 ∧ i = T) → Mb r w i k = M r w i k := fun r w i k z => by rw [← hMb, up_ne (by omega), up_ne (by omega), up_ne (by omega), up_ne (by omega), up_ne (by omega)]
  have o2 : ∀ v, up Mb 6 0 c 6 v 1 0 0 8 = nI T := fun v => by rw [upR (by decide), o1 _ _ _ _ (by omega), e3, n3]
  rw [o2, nI_1, o1 6 0 c 6 (by omega)]
  refine Sim.ret (h.world (by omega) ?_ (fun r w i k _ _ _ _ q => by rw [up_ne (by omega), up_ne (by omega), o1 _ _ _ _ (by omega)]) (fun r k q => by rw [up_ne (by omega), up_ne (by omega), up_ne (by omega), up_ne (by omega), up_ne (by omega), up_ne (by omega)]))
  rw [up_row, up_row, up_row, up_row, up_row, up_row]
  generalize hg : upd (upd (upd (upd (upd (upd (N 41 0 0) 3 (nI (T + 1))) (220 + 5 * T) (nI c)) (220 + 5 * T + 1) x2) (220 + 5 * T + 2) x3) (220 + 5 * T + 3) 0) (220 + 5 * T + 4) (-1) = g
  have g3 : g 3 = nI (T + 1) := by rw [← hg, pk_un (by omega), pk_un (by omega), pk_un (by omega), pk_un (by omega), pk_un (by omega), pk_us]
  have c3 : cn g 3 = T + 1 := cn_nI g3 (by omega)
  have go : ∀ k, k ≠ 3 → (k < 220 + 5 * T ∨ 225 + 5 * T ≤ k) → g k = N 41 0 0 k := fun k z1 z2 => by rw [← hg, pk_un (by omega), pk_un (by omega), pk_un (by omega), pk_un (by omega), pk_un (by omega), pk_un (by omega)]
  have gl : ∀ k, k < 5 → g (220 + 5 * T + k) = Mb 10 0 T k := by
    intro k hk
    rw [← hg, ← hMb]
    rcases (by omega : k = 0 ∨ k = 1 ∨ k = 2 ∨ k = 3 ∨ k = 4) with rfl | rfl | rfl | rfl | rfl <;> simp [up, upd]
  have g0 : g (220 + 5 * T) = nI c := by rw [← hg, pk_un (by omega), pk_un (by omega), pk_un (by omega), pk_un (by omega), pk_us]
  have gh : g (220 + 5 * T + 3) = nI 0 := by rw [← hg, pk_un (by omega), pk_us]; rfl
  have g4 : g (220 + 5 * T + 4) = -1 := by rw [← hg, pk_us]
  have hcl : ∀ j q, cL g j q = cL (N 41 0 0) j q + (if (g (220 + 5 * T) = nI j ∧ g (220 + 5 * T + 3) = nI q) then 1 else 0) := by
    intro j q
    unfold cL
    rw [c3, fb_ct_succ, hT]
    simp only [decide_eq_true_eq]
    refine congrArg (fun z => z + _) (fb_ct_cong fun k hk => ?_)
    rw [go _ (by omega) (by omega), go _ (by omega) (by omega)]
  subst hT
  refine h.1.newLance (by omega) (fun r i k _ _ q => by rw [up_ne (by omega), up_ne (by omega), o1 _ _ _ _ (by omega)]) (fun k q => go k (by omega) (by omega)) ?_ c3 ⟨fun k hk => ?_, ?_, ?_, .inl g4⟩ ?_
  · refine h.1.c.set (j := 3) (n := cn (N 41 0 0) 3 + 1) (by decide) l4 (fun k hk e => ?_) (fun k hk e => go k e (by omega)) up_eq g3
    have := slC_ne hk (by decide) e
    have e' : slC 3 = 8 := rfl
    rw [up_ne (by omega), up_ne (by omega), o1 _ _ _ _ (by omega)]
  · rw [gl k hk, up_ne (by omega), up_ne (by omega)]
  · rw [g0, cn_same (go 2 (by omega) (by omega))]
    exact ⟨c, hc, rfl⟩
  · rw [gh]
    exact ⟨0, by decide, rfl⟩
  · intro j hj
    rw [cn_same (go 2 (by omega) (by omega))] at hj
    have z := h.1.f j hj
    rw [hcl, hcl, ← nI_add (cL (N 41 0 0) j 0), ← nI_add (cL (N 41 0 0) j 1), ← z.1, ← z.2]
    by_cases e : j = c
    · subst e
      rw [up_ne (by omega), up_eq, up_ne (by omega), up_ne (by omega), o1 _ _ _ _ (by omega), if_pos ⟨g0, gh⟩, if_neg (fun q => by rw [gh] at q; exact absurd q.2 (by decide))]
      exact ⟨rfl, (Int32.add_zero _).symm⟩
    · have ne : ¬ g (220 + 5 * cn (N 41 0 0) 3) = nI j := by
        rw [g0, nI_eq (by omega) (by omega)]
        omega
      rw [up_ne (by omega), up_ne (by omega), up_ne (by omega), up_ne (by omega), o1 _ _ _ _ (by omega), o1 _ _ _ _ (by omega), if_neg (fun q => ne q.1), if_neg (fun q => ne q.1)]
      exact ⟨(Int32.add_zero _).symm, (Int32.add_zero _).symm⟩
