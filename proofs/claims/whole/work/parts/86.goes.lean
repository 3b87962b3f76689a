/-! ===== what needs a statute worked out: says, share, over ===== -/
def sW (w : Nat) (M M' : Mem) : Prop := ∀ r w' i k, ¬ (r = 17 ∧ w' = w) → M' r w' i k = M r w' i k
def sV (N N' : Mem) : Prop := ∀ r w' i k, r ≠ 49 → r ≠ 50 → N' r w' i k = N r w' i k
def sWV (w : Nat) (M N M' N' : Mem) : Prop := sW w M M' ∧ sV N N'
theorem sWV.rf {w : Nat} {M N : Mem} : sWV w M N M N := ⟨fun _ _ _ _ _ => rfl, fun _ _ _ _ _ _ => rfl⟩
theorem sWV.tr {w : Nat} {M N M1 N1 M2 N2 : Mem} (h : sWV w M N M1 N1) (g : sWV w M1 N1 M2 N2) : sWV w M N M2 N2 := ⟨fun r w' i k q => (g.1 r w' i k q).trans (h.1 r w' i k q), fun r w' i k q1 q2 => (g.2 r w' i k q1 q2).trans (h.2 r w' i k q1 q2)⟩
theorem sWV.row {w : Nat} {M N M1 N1 : Mem} (h : sWV w M N M1 N1) : N1 41 0 0 = N 41 0 0 := funext fun k => h.2 41 0 0 k (by decide) (by decide)
theorem RW.scr {B w : Nat} {M N M1 N1 : Mem} (h : RW B M w (N 41 0 0)) (g : sWV w M N M1 N1) : RW B M1 w (N1 41 0 0) := by
  rw [g.row]
  exact h.cong (Nat.le_refl _) (fun r i k q _ => g.1 r w i k (fun z => q z.1))
theorem Rel.scr {B B' : Nat} {M N M1 N1 : Mem} (h : Rel B M N) (hB : B ≤ B') (g : sWV 0 M N M1 N1) : Rel B' M1 N1 :=
  h.frame hB (fun r w i k q _ _ _ => g.1 r w i k (fun z => q z.1)) (fun r k q => g.2 r 0 0 k (by omega) (by omega))
theorem Sim.mono {P Q : Mem → Mem → Prop} {a b : Option (Int32 × Mem)} (h : Sim P a b) (g : ∀ M N, P M N → Q M N) : Sim Q a b := by
  obtain ⟨r, M', N', h1, h2, h3⟩ := h
  exact ⟨r, M', N', h1, h2, g _ _ h3⟩
theorem RW.works {B : Nat} {M N : Mem} {w : Nat} (h : RW B M w (N 41 0 0)) {s : Nat} (hs : s < cn (N 41 0 0) 4) (a b c : Int32) : Sim (sWV w M N) (mR_workOut w w s a b c M) (mK_comesTo (nI s) a b c N) := by
  obtain ⟨v, M', N', h1, h2, h3, h4⟩ := h.work hs a b c
  exact ⟨v, M', N', h1, h2, h3, h4⟩
theorem s_says {B : Nat} {M N : Mem} (h : Rel B M N) (x1 x2 x3 x4 : Int32) : Sim (Rel (B + 1)) (mF_says x1 x2 x3 x4 M) (mK_says x1 x2 x3 x4 N) := by
  unfold mF_says mK_says
  simp only [F_within_eq, K_in_eq, h.1.c.e4, Option.bind_some, bI_ite, bindE]
  refine Sim.ite (fun hp => ?_) (fun _ => Sim.f1 h)
  obtain ⟨s, hs, rfl⟩ := h.1.c.in4 hp
  have b4 := h.1.c.b4
  rw [ixx_nI (by omega) (by decide)]
  exact (h.1.works hs x2 x3 x4).mono fun M' N' g => h.scr (by omega) g
theorem s_share {B : Nat} {M N : Mem} (h : Rel B M N) (x1 : Int32) : Sim (Rel (B + 1)) (mF_share x1 M) (mK_share x1 N) := by
  unfold mF_share mK_share
  simp only [F_within_eq, K_in_eq, h.1.c.e6, W_inForce_eq h.1, K_inForce_eq h.1, Option.bind_some, bI_ite, bindE]
  refine Sim.ite (fun hp => ?_) (fun _ => Sim.f1 h)
  obtain ⟨x, hx, rfl⟩ := in_lit0 (b := 99999) (by decide) hp
  have b4 := h.1.c.b4
  refine Sim.ite (fun hq => ?_) (fun hq => ?_)
  · have e3 : nI x / 3 = nI (x / 3) := pk_div (d := 3) (by omega) (by decide) (by decide)
    rw [e3, if_neg (nI_pos (show x / 3 < 2 ^ 31 by omega)), if_pos (nI_le (by omega) (by omega))]
    exact Sim.ret h.up1
  · rcases inF_spec (N 41 0 0) 3 (N 41 0 0 6) (cn (N 41 0 0) 4) with q | ⟨s, hs, q⟩
    · rw [q] at hq
      exact absurd (by decide) hq
    rw [q, ixx_nI (by omega) (by decide)]
    refine (h.1.works hs (nI x) 0 0).bind fun r M' N' g => ?_
    have g' := h.scr (Nat.le_succ B) g
    simp only
    have x0 : ¬ nI x < 0 := nI_nlt (b := 0) (Nat.zero_le _) (by omega)
    by_cases z1 : r < 0
    · rw [if_pos z1]
      have z2 : r < nI x := Int32.lt_of_lt_of_le z1 (Int32.not_lt.mp x0)
      rw [if_pos z2, if_neg (Int32.not_lt.mpr (Int32.le_of_lt z1))]
      exact Sim.ret g'
    · rw [if_neg z1]
      by_cases z2 : r < nI x
      · rw [if_pos z2, if_pos (Int32.le_of_lt z2)]
        by_cases z3 : 0 < r
        · rw [if_pos z3]
          exact Sim.ret g'
        · rw [if_neg z3]
          have : r = 0 := Int32.le_antisymm (Int32.not_lt.mp z3) (Int32.not_lt.mp z1)
          rw [this]
          exact Sim.ret g'
      · rw [if_neg z2]
        have z4 : (if 0 < nI x then nI x else 0) = nI x := by
          by_cases z3 : 0 < nI x
          · rw [if_pos z3]
          · rw [if_neg z3]
            exact (Int32.le_antisymm (Int32.not_lt.mp z3) (Int32.not_lt.mp x0)).symm
        rw [z4]
        by_cases z5 : r ≤ nI x
        · rw [if_pos z5]
          have : r = nI x := Int32.le_antisymm z5 (Int32.not_lt.mp z2)
          rw [this]
          exact Sim.ret g'
        · rw [if_neg z5]
          exact Sim.ret g'
/-- whether a company's lances may go -/
theorem mayGo_loop {B w c : Nat} : ∀ (d i n m : Nat) (M N : Mem), RW B M w (N 41 0 0) → i + d = cn (N 41 0 0) 5 → d < n → d < m → Sim (sWV w M N) (mW_mayGo_16 n w (nI c) (nI i) M) (mK_mayLeave_32 m (nI c) (inF (N 41 0 0) 2 (N 41 0 0 6) (cn (N 41 0 0) 4)) (nI i) N)
  | 0, i, n, m, M, N, h, hi, hn, hm => by
    obtain ⟨n, rfl⟩ : ∃ k, n = k + 1 := ⟨n - 1, by omega⟩
    obtain ⟨m, rfl⟩ : ∃ k, m = k + 1 := ⟨m - 1, by omega⟩
    have b5 := h.c.b5
    show Sim _ (mW_mayGo_16b (mW_mayGo_16 n) w (nI c) (nI i) M) (mK_mayLeave_32b (mK_mayLeave_32 m) (nI c) _ (nI i) N)
    unfold mW_mayGo_16b mK_mayLeave_32b
    rw [h.c.e5, h.c.n5, if_neg (nI_nlt (by omega) (by omega)), if_neg (nI_nlt (by omega) (by omega))]
    exact Sim.ret sWV.rf
  | d + 1, i, n, m, M, N, h, hi, hn, hm => by
    obtain ⟨n, rfl⟩ : ∃ k, n = k + 1 := ⟨n - 1, by omega⟩
    obtain ⟨m, rfl⟩ : ∃ k, m = k + 1 := ⟨m - 1, by omega⟩
    have b5 := h.c.b5
    have b4 := h.c.b4
    have b6 := h.c.b6
    have i24 : i < 24 := by omega
    obtain ⟨q1, q2, q3, q4, q5, ⟨o, ho, eo⟩, q7, q8, q9⟩ := h.b i (by omega)
    have q10 : M 15 w i 0 = N 41 0 0 (1056 + 14 * i) := q1 0 (by decide)
    have key : ∀ M' N', sWV w M N M' N' → Sim (sWV w M N) (mW_mayGo_16 n w (nI c) (nI (i + 1)) M') (mK_mayLeave_32 m (nI c) (inF (N 41 0 0) 2 (N 41 0 0 6) (cn (N 41 0 0) 4)) (nI (i + 1)) N') := by
      intro M' N' g
      have := mayGo_loop (c := c) d (i + 1) n m M' N' (h.scr g) (by rw [g.row]; omega) (by omega) (by omega)
      rw [g.row] at this
      exact this.mono fun M2 N2 g2 => g.tr g2
    have key0 := key M N sWV.rf
    show Sim _ (mW_mayGo_16b (mW_mayGo_16 n) w (nI c) (nI i) M) (mK_mayLeave_32b (mK_mayLeave_32 m) (nI c) _ (nI i) N)
    unfold mW_mayGo_16b mK_mayLeave_32b mW_letsGo
    rw [h.c.e5, h.c.n5, if_pos (nI_lt (by omega) (by omega)), if_pos (nI_lt (by omega) (by omega))]
    simp only [ixx_nI i24 (by decide), B_isContractOf_eq, K_isContract_eq i24, K_bond_1 i24, K_bond_8 i24, K_bond_9 i24, h.c.e6, W_inForce_eq h, Option.bind_some, nI_1, bI_ite, q10, q1 1 (by decide), q1 8 (by decide), q1 9 (by decide)]
    by_cases zk : N 41 0 0 (1056 + 14 * i) = 1 ∨ N 41 0 0 (1056 + 14 * i) = 2
    · rw [if_pos zk]
      by_cases zc : N 41 0 0 (1056 + 14 * i + 1) = nI c
      · rw [if_pos zc, if_pos ⟨zk, zc⟩]
        by_cases zo : N 41 0 0 (1056 + 14 * i + 8) = 0
        · rw [if_pos zo, zo, if_pos (by decide)]
          exact key0
        · have zo' : ¬ N 41 0 0 (1056 + 14 * i + 8) ≤ 0 := by
            intro z
            rw [eo] at z zo
            have := (nI_leI (b := 0) (by omega) (by decide)).mp z
            obtain rfl : o = 0 := by omega
            exact zo rfl
          rw [if_neg zo, if_neg zo']
          by_cases zf : inF (N 41 0 0) 2 (N 41 0 0 6) (cn (N 41 0 0) 4) < 0
          · rw [if_pos zf, if_pos zf]
            by_cases z6 : N 41 0 0 6 - N 41 0 0 (1056 + 14 * i + 9) ≤ 60
            · rw [if_pos z6, if_pos z6]
              exact key0
            · rw [if_neg z6, if_neg z6]
              exact Sim.ret sWV.rf
          · rw [if_neg zf, if_neg zf]
            rcases inF_spec (N 41 0 0) 2 (N 41 0 0 6) (cn (N 41 0 0) 4) with q | ⟨s, hs, q⟩
            · rw [q] at zf
              exact absurd (by decide) zf
            rw [q] at key ⊢
            rw [ixx_nI (by omega) (by decide)]
            obtain ⟨v, M', N', a1, a2, a3⟩ := h.works hs (N 41 0 0 6 - N 41 0 0 (1056 + 14 * i + 9)) (N 41 0 0 (1056 + 14 * i + 8)) 0
            rw [a1, a2]
            simp only [Option.bind_some]
            by_cases zv : v = 0
            · rw [if_pos zv, if_pos zv]
              exact key M' N' a3
            · rw [if_neg zv, if_neg zv]
              exact Sim.ret a3
      · rw [if_neg zc, if_neg (fun z => zc z.2)]
        exact key0
    · rw [if_neg zk, if_neg (fun z => zk z.1)]
      exact key0
theorem mayGo_ok {B w : Nat} {M N : Mem} (h : RW B M w (N 41 0 0)) (c : Nat) : Sim (sWV w M N) (mW_mayGo w (nI c) M) (mK_mayLeave (nI c) N) := by
  have b5 := h.c.b5
  have hday : ¬ N 41 0 0 6 < 0 := by
    rw [h.c.n6]
    exact nI_nlt (b := 0) (Nat.zero_le _) (by have := h.c.b6; omega)
  unfold mW_mayGo mW_mayGob mK_mayLeave mK_mayLeaveb
  simp only [h.c.e6, W_served_eq h, K_servedOn_eq h (nI c) hday, K_inForce_eq h, Option.bind_some]
  exact Sim.ite (fun _ => Sim.ret sWV.rf) (fun _ => mayGo_loop (cn (N 41 0 0) 5) 0 fuel fuel M N h (by omega) (by unfold fuel; omega) (by unfold fuel; omega))
theorem s_over {B : Nat} {M N : Mem} (h : Rel B M N) (x1 x2 : Int32) : Sim (Rel (B + 1)) (mF_over x1 x2 M) (mK_over x1 x2 N) := by
  unfold mF_over mK_over
  simp only [F_isLance_eq h.1.c, K_isLance_eq, F_isCompany_eq h.1.c, K_isCompany_eq, L_present_eq, Option.bind_some, bI_ite, bindE]
  refine Sim.ite (fun hp => ?_) (fun _ => Sim.f1 h)
  refine Sim.ite (fun hq => ?_) (fun _ => Sim.f1 h)
  obtain ⟨l, hl, rfl⟩ := h.1.c.in3 hp
  obtain ⟨g, hg, rfl⟩ := h.1.c.in2 hq
  have b3 := h.1.c.b3
  have b2 := h.1.c.b2
  have l4 : l < 40 := by omega
  have g5 : g < 5 := by omega
  obtain ⟨q1, ⟨c, hc, ec⟩, ⟨s, hs, es⟩, q4⟩ := h.1.l l hl
  have c5 : c < 5 := by omega
  have q10 : M 10 0 l 0 = N 41 0 0 (220 + 5 * l) := q1 0 (by decide)
  simp only [ixx_nI l4 (by decide), K_its_3 l4, K_its_0 l4, q10, ec, q1 3 (by decide), Option.bind_some]
  refine Sim.ite (fun _ => Sim.f1 h) (fun hne => ?_)
  have hne' : c ≠ g := fun z => hne (by rw [z])
  by_cases hs1 : N 41 0 0 (220 + 5 * l + 3) = 0 ∨ N 41 0 0 (220 + 5 * l + 3) = 1
  · have hle : N 41 0 0 (220 + 5 * l + 3) ≤ 1 := by
      rcases hs1 with q | q <;> rw [q] <;> decide
    rw [if_pos hs1, if_pos hle]
    refine (mayGo_ok h.1 c).bind fun v M' N' gg => ?_
    have h' := h.scr (Nat.le_refl B) gg
    have e := gg.row
    have r' : RW B M' 0 (N 41 0 0) := by rw [← e]; exact h'.1
    simp only
    refine Sim.ite (fun _ => Sim.f3 h') (fun _ => ?_)
    unfold mW_together
    simp only [ixx_nI c5 (by decide), ixx_nI g5 (by decide), C_marches_eq, K_own_2 c5, K_own_2 g5, Option.bind_some, e, (r'.p c hc).1.2.2.2.1, (r'.p g hg).1.2.2.2.1, bI_ite, iL0 l4]
    by_cases zm : N 41 0 0 (100 + 24 * c + 2) < 0
    · rw [if_pos zm, if_pos zm]
      simp only [Option.bind_some, if_true]
      exact Sim.f3 h'
    rw [if_neg zm, if_neg zm]
    by_cases zt : N 41 0 0 (100 + 24 * c + 2) = N 41 0 0 (100 + 24 * g + 2)
    · rw [if_pos zt, if_pos zt]
      simp only [Option.bind_some]
      rw [if_neg (by decide)]
      obtain ⟨p1, p2, p3, p4⟩ := r'.l l hl
      simp only [C_part_eq, C_join_eq, Option.bind_some]
      have n0 : upd (N 41 0 0) (220 + 5 * l) (nI g) (220 + 5 * l) = nI g := pk_us
      have n3 : upd (N 41 0 0) (220 + 5 * l) (nI g) (220 + 5 * l + 3) = N 41 0 0 (220 + 5 * l + 3) := pk_un (by omega)
      have n4 : upd (N 41 0 0) (220 + 5 * l) (nI g) (220 + 5 * l + 4) = N 41 0 0 (220 + 5 * l + 4) := pk_un (by omega)
      refine Sim.ret (h'.world (by omega) ?_ (fun r w i k _ _ _ _ q => by rw [up_ne (by omega), up_ne (by omega), up_ne (by omega), up_ne (by omega), up_ne (by omega)]) (fun r k q => by rw [up_ne (by omega)]))
      have eN : up N' 41 0 0 (220 + 5 * l) (nI g) 41 0 0 = upd (N 41 0 0) (220 + 5 * l) (nI g) := by rw [up_row, e]
      rw [eN]
      refine r'.lanceMove (l := l) (by omega) hl (fun r i k _ _ q => by rw [up_ne (by omega), up_ne (by omega), up_ne (by omega), up_ne (by omega), up_ne (by omega)]) (fun k hk => pk_un (by omega)) (fun k hk => ?_) (by rw [n0]; exact ⟨g, hg, rfl⟩) (by rw [n3]; exact p3) (by rw [n4]; exact p4) (fun j hj => ?_) (fun j hj => ?_)
      · by_cases ek : k = 0
        · subst ek
          rw [up_ne (by omega), up_ne (by omega), up_eq]
          exact n0.symm
        · rw [up_ne (by omega), up_ne (by omega), up_ne (by omega), up_ne (by omega), up_ne (by omega), pk_un (by omega)]
          exact p1 k hk
      · rw [n0, n3, ec]
        have x3 : (up (up (up M' 6 0 c 6 (M' 6 0 c 6 - bI (M' 10 0 l 3 = 0))) 6 0 c 7 (M' 6 0 c 7 - bI (M' 10 0 l 3 = 1))) 10 0 l 0 (nI g)) 10 0 l 3 = N 41 0 0 (220 + 5 * l + 3) := by
          rw [up_ne (by omega), up_ne (by omega), up_ne (by omega)]
          exact p1 3 (by decide)
        rw [up_ne (by omega)]
        by_cases ec' : j = c
        · subst ec'
          rw [up_ne (by omega), up_ne (by omega), up_ne (by omega), up_eq, p1 3 (by decide)]
          have ne : ¬ nI g = nI j := by rw [nI_eq (by omega) (by omega)]; omega
          rw [bI_cong (p := N 41 0 0 (220 + 5 * l + 3) = 0) (q := nI j = nI j ∧ N 41 0 0 (220 + 5 * l + 3) = nI 0) ⟨fun z => ⟨rfl, z⟩, fun z => z.2⟩]
          simp [bI, ne]
        · by_cases eg : j = g
          · subst eg
            have ne : ¬ nI c = nI j := by rw [nI_eq (by omega) (by omega)]; omega
            rw [up_eq, x3, up_ne (by omega), up_ne (by omega), up_ne (by omega)]
            rw [bI_cong (p := N 41 0 0 (220 + 5 * l + 3) = 0) (q := nI j = nI j ∧ N 41 0 0 (220 + 5 * l + 3) = nI 0) ⟨fun z => ⟨rfl, z⟩, fun z => z.2⟩]
            simp [bI, ne]
          · have ne : ¬ nI c = nI j := by rw [nI_eq (by omega) (by omega)]; omega
            have ne2 : ¬ nI g = nI j := by rw [nI_eq (by omega) (by omega)]; omega
            rw [up_ne (by omega), up_ne (by omega), up_ne (by omega), up_ne (by omega)]
            simp [bI, ne, ne2]
      · rw [n0, n3, ec]
        have x3 : (up (up (up M' 6 0 c 6 (M' 6 0 c 6 - bI (M' 10 0 l 3 = 0))) 6 0 c 7 (M' 6 0 c 7 - bI (M' 10 0 l 3 = 1))) 10 0 l 0 (nI g)) 10 0 l 3 = N 41 0 0 (220 + 5 * l + 3) := by
          rw [up_ne (by omega), up_ne (by omega), up_ne (by omega)]
          exact p1 3 (by decide)
        by_cases ec' : j = c
        · subst ec'
          rw [up_ne (by omega), up_ne (by omega), up_ne (by omega), up_eq, p1 3 (by decide)]
          have ne : ¬ nI g = nI j := by rw [nI_eq (by omega) (by omega)]; omega
          rw [bI_cong (p := N 41 0 0 (220 + 5 * l + 3) = 1) (q := nI j = nI j ∧ N 41 0 0 (220 + 5 * l + 3) = nI 1) ⟨fun z => ⟨rfl, z⟩, fun z => z.2⟩]
          simp [bI, ne]
        · by_cases eg : j = g
          · subst eg
            have ne : ¬ nI c = nI j := by rw [nI_eq (by omega) (by omega)]; omega
            rw [up_eq, x3, up_ne (by omega), up_ne (by omega), up_ne (by omega)]
            rw [bI_cong (p := N 41 0 0 (220 + 5 * l + 3) = 1) (q := nI j = nI j ∧ N 41 0 0 (220 + 5 * l + 3) = nI 1) ⟨fun z => ⟨rfl, z⟩, fun z => z.2⟩]
            simp [bI, ne]
          · have ne : ¬ nI c = nI j := by rw [nI_eq (by omega) (by omega)]; omega
            have ne2 : ¬ nI g = nI j := by rw [nI_eq (by omega) (by omega)]; omega
            rw [up_ne (by omega), up_ne (by omega), up_ne (by omega), up_ne (by omega), up_ne (by omega)]
            simp [bI, ne, ne2]
    · rw [if_neg zt, if_neg zt]
      simp only [Option.bind_some, if_true]
      exact Sim.f3 h'
  · have hle : ¬ N 41 0 0 (220 + 5 * l + 3) ≤ 1 := by
      rw [es] at hs1 ⊢
      intro z
      have := (nI_leI (b := 1) (by omega) (by decide)).mp z
      rcases (by omega : s = 0 ∨ s = 1) with rfl | rfl
      · exact hs1 (.inl rfl)
      · exact hs1 (.inr rfl)
    rw [if_neg hs1, if_neg hle]
    exact Sim.f3 h
