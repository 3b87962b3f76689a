/-! ===== calls out of the law ===== -/
theorem tb_sub {w : Cond} (h : w ∈ tbT) : w ∈ lw_tbl := (List.mem_filter.mp h).1
theorem room_law {d' maxL : Nat} (hm : maxL ≤ 21) (hdd : d' ≤ 2000) : (rmD d').frames + 1 ≤ room_1.frames ∧ 8 + (maxL + 11) + (rmD d').locals ≤ room_1.locals := by
  refine ⟨?_, ?_⟩
  · show d' + 1 ≤ 2048
    omega
  · show 8 + (maxL + 11) + 40 * d' ≤ 84000
    omega
theorem wsE_ast {E : EV} {M : Mem} {k : Nat} {x : Nat × va_E} (h : (wsE E M)[k]? = some x) : Ast E x.1 := by
  simp only [wsE, List.getElem?_map, Option.map_eq_some_iff] at h
  obtain ⟨a, ha, rfl⟩ := h
  exact ⟨a, List.mem_of_getElem? ha, rfl⟩
theorem okA_v0 {E : EL} {a : AV} (h : okA 0 a = true) : vL E a = vO (e0 E).2.1 a := by
  rcases a with x | x | q | x
  · rfl
  · rfl
  · simp only [okA, Bool.and_eq_true] at h
    have h1 := Nat.eq_of_beq_eq_true h.1
    show (if q.1 = 99 then _ else if q.1 < 40 then _ else _) = _
    rw [h1, if_neg (by decide), if_pos (by decide)]
    rfl
  · cases h
theorem okA_v1 {E : EL} {a : AV} (h : okA 40 a = true) : vL E a = vO (e1 E).2.1 a := by
  rcases a with x | x | q | x
  · rfl
  · rfl
  · simp only [okA, Bool.and_eq_true] at h
    have h1 := Nat.eq_of_beq_eq_true h.1
    show (if q.1 = 99 then _ else if q.1 < 40 then _ else _) = _
    rw [h1, if_neg (by decide), if_neg (by decide)]
    rfl
  · cases h
theorem okA_vA0 {a : AV} (h : okA 0 a = true) : vA 0 a := by
  rcases a with x | x | q | x
  · trivial
  · trivial
  · simp only [okA, Bool.and_eq_true] at h
    have h1 := Nat.eq_of_beq_eq_true h.1
    have h2 := Nat.eq_of_beq_eq_true h.2.1
    have h3 := Nat.eq_of_beq_eq_true h.2.2
    refine Or.inl ?_
    obtain ⟨r, w, i⟩ := q
    dsimp only at h1 h2 h3
    subst h1 h2 h3
    exact mem_Ls.mpr ⟨by decide, by decide, by decide⟩
  · trivial
theorem okA_vA1 {a : AV} (h : okA 40 a = true) : vA 1 a := by
  rcases a with x | x | q | x
  · trivial
  · trivial
  · simp only [okA, Bool.and_eq_true] at h
    have h1 := Nat.eq_of_beq_eq_true h.1
    have h2 := Nat.eq_of_beq_eq_true h.2.1
    have h3 := Nat.eq_of_beq_eq_true h.2.2
    refine Or.inl ?_
    obtain ⟨r, w, i⟩ := q
    dsimp only at h1 h2 h3
    subst h1 h2 h3
    exact mem_Ls.mpr ⟨by decide, by decide, by decide⟩
  · trivial
theorem vL_cat (E : EL) (a : AV) : (vL E a).category = (vO (e0 E).2.1 a).category := by
  rcases a with x | x | q | x
  · rfl
  · rfl
  · show (if q.1 = 99 then Value.ref _ else if q.1 < 40 then Value.ref _ else Value.ref _).category = _
    split
    · rfl
    · split <;> rfl
  · rfl
theorem vL_sum (E : EL) (st : List AV) : ((st.map (vL E)).map fun v => v.category).sum = catS st := by
  rw [← catS_sum (ad := (e0 E).2.1) (st := st), List.map_map, List.map_map]
  congr 1
  exact List.map_congr_left fun a _ => vL_cat E a
theorem kl_callF {L : Nat} {xs : Nat → Int32} {l : Launch} {pc d' maxL idx n ci N0 : Nat} {y : MethodName} {cb : ByteArray} {cr : Option FieldType} {den : Den Unit} {T : u_T} {ty : Nat → FieldType} (hD : ∀ E' : EV, E'.2.2.2 = 0 → DenOK E' l d' y cb maxL cr true den) (hR : RecOK 0 den) (hK : CK ci y.cls T N0 ty) (hkd : kd 0 = (0, ci, N0)) (hI : MI y cb maxL cr n) (hin : Cond.instanceMethod y ∈ tbT) (hse : Cond.selects y.cls y y ∈ tbT) (hdd : d' ≤ 2000) (hl : Cond.methodLink R_law idx y ∈ tbT) (hd : decode code pc = .ok (.invokevirtual idx, 3)) : OkL L xs l (pc, lCallF pc (n + 1) den) := by
  intro E p e s m below meth c C k σ h hw H ls hP hN hS hM hO hL
  obtain ⟨i, st, M, N⟩ := σ
  simp only [lCallF] at h
  split at h
  · rename_i as st' htk
    split at h
    · rename_i hcat
      simp only [Bool.and_eq_true, List.all_eq_true] at hcat
      obtain ⟨v, M', hk, hu, hM'⟩ := hD (e0 E) rfl _ _ _ _ h
      obtain ⟨w, j, as', rfl⟩ := hR _ _ _ _ h
      obtain ⟨ys, s1, s2, s3⟩ := tk_spec htk
      simp only [List.append_nil] at s2
      have hts : ∀ w ∈ tbT, w.before #[Value.ref E.2.2.2.2.2.2] s = true := fun w hw => C.2.2.2.2.1 w (tb_sub hw)
      have hyv : ys.map (vL E) = ys.map (vO (e0 E).2.1) := List.map_congr_left fun a ha => okA_v0 (hcat.2 a (by rw [s2]; exact List.mem_reverse.mpr ha))
      have hstk : st.map (vL E) = ((as'.map (vO (e0 E).2.1)).reverse ++ Value.ref ((e0 E).2.1 (0, w, j)) :: st'.map (vL E)) := by
        have hys : ys = as'.reverse ++ [aR (0, w, j)] := by
          have := congrArg List.reverse s2
          simpa using this.symm
        rw [s1, List.map_append, hyv, hys]
        simp [vO]
      have hlen : as'.length = n := by
        have h1 := congrArg List.length s2
        simp at h1
        omega
      have hm := in_Ls (E := e0 E) (okA_vA0 (hcat.2 _ List.mem_cons_self)) (kd_no hkd)
      obtain ⟨q0, hq0, he⟩ := wsE_at (E := e0 E) (M := M) hm
      simp only [cellE, hkd, cellK] at he
      have hrc := va_recv C.2.2.2.2.2.2.2.2.1 hP hK.1 he
      have hpm : ∀ U : State, U.heap = H → s.WarmedH U.vm → Pm (e0 E) (aR (0, w, j) :: as') M ((aR (0, w, j) :: as').map (vO (e0 E).2.1)).toArray U := by
        intro U hU hW
        refine ⟨rfl, by rw [hU]; exact hP, va_K.moved hW.alike C.2.2.2.2.2.2.2.2.1, ?_, C.2.2.2.2.2.2.2.2.2.2.2.1, hM, fun a ha => okA_vA0 (hcat.2 a ha), fun w hw hn => nest_warm hn hW (va_tabs (nest_on hn) rfl (hts w hw))⟩
        rw [hU]
        exact (C.2.2.2.2.2.2.2.2.2.1.moved hW.alike).kept fun a h1 _ => hS.2.1 a h1 (Nat.not_le.mpr h1)
      have hrun := va_runV (As := as'.map (vO (e0 E).2.1)) (b := (e0 E).2.1 (0, w, j)) ⟨C.1, C.2.1, C.2.2.1, C.2.2.2.1, hts⟩ hM' ⟨callB_of n hts (gw_code hI.1) rfl rfl rfl (hts _ hI.2.1) (hts _ hl) ⟨hI.2.2.1.1, hI.2.2.1.2, hI.2.2.2.1⟩ (room_law hI.2.2.2.2.1 hdd), hts _ hin, hts _ hse⟩ ⟨Pm_blind _ _ _, hrc, hpm⟩ (g := F0 m pc ls (st.map (vL E))) (l := l) (e := e) (below := below) (meth := meth) (locs := []) (cells := 402) (slots := 10119) rfl (by simpa using hlen) hL.1 hstk (lv_room (by rw [vL_sum]; exact Nat.le_of_ble_eq_true hcat.1)) hd ⟨by decide, by decide⟩
      intro T hT X
      obtain ⟨v', st₀, t, T', L', h0, X', hL', hz1, hz2, ⟨ho, hP', hM1, hv', hF⟩, go⟩ := hrun T hT X
      have hv0 : v' = ov (e0 E).2.1 v := by cases ho; rfl
      subst hv0
      split at hk
      · rename_i x
        have hfr : ∀ q : Nat, q < H.size → ¬ Ast (e0 E) q → t.heap[q]? = H[q]? := fun q h1 h2 => by rw [hF.2 q (by rw [h0]; exact h1) h2, h0]
        have hoth : va_P E.1 cls (wsE (e1 E) N) t.heap := hN.kept fun k x hx => hfr x.1 ((hN k x hx).lt) (fun ha => C.2.2.2.2.2.2.2.2.2.2.2.2.2.2.2.1 _ ha (wsE_ast hx))
        have hS1 : va_S (fun a => s.heap.size ≤ a) s.heap t.heap [] := ⟨Nat.le_trans hS.1 (by rw [← h0]; exact hF.1), fun q h1 h2 => (hfr q (Nat.lt_of_lt_of_le h1 hS.1) (fun ha => h2 (C.2.2.2.2.2.2.2.2.2.2.2.2.2.1 q ha))).trans (hS.2.1 q h1 h2), fun q hq => by cases hq⟩
        obtain ⟨t2, a1, b1⟩ := (W.forget (L := L') (fun q hq => C.2.2.2.2.2.2.2.2.2.2.2.2.2.1 _ (hL' q hq)) (hw _ _ hk t.heap ls hP' hoth hS1 hM1 hO hL)) T' hz1 X'
        exact ⟨t2, go t2 a1, b1⟩
      · cases hk
    · cases h
  · cases h
theorem kl_callK {L : Nat} {xs : Nat → Int32} {l : Launch} {pc d' maxL idx n ci N0 : Nat} {y : MethodName} {cb : ByteArray} {cr : Option FieldType} {den : Den Unit} {T : u_T} {ty : Nat → FieldType} (hD : ∀ E' : EV, E'.2.2.2 = 1 → DenOK E' l d' y cb maxL cr true den) (hR : RecOK 40 den) (hK : CK ci y.cls T N0 ty) (hkd : kd 40 = (0, ci, N0)) (hI : MI y cb maxL cr n) (hin : Cond.instanceMethod y ∈ tbT) (hse : Cond.selects y.cls y y ∈ tbT) (hdd : d' ≤ 2000) (hl : Cond.methodLink R_law idx y ∈ tbT) (hd : decode code pc = .ok (.invokevirtual idx, 3)) : OkL L xs l (pc, lCallK pc (n + 1) den) := by
  intro E p e s m below meth c C k σ h hw H ls hP hN hS hM hO hL
  obtain ⟨i, st, M, N⟩ := σ
  simp only [lCallK] at h
  split at h
  · rename_i as st' htk
    split at h
    · rename_i hcat
      simp only [Bool.and_eq_true, List.all_eq_true] at hcat
      obtain ⟨v, M', hk, hu, hM'⟩ := hD (e1 E) rfl _ _ _ _ h
      obtain ⟨w, j, as', rfl⟩ := hR _ _ _ _ h
      obtain ⟨ys, s1, s2, s3⟩ := tk_spec htk
      simp only [List.append_nil] at s2
      have hts : ∀ w ∈ tbT, w.before #[Value.ref E.2.2.2.2.2.2] s = true := fun w hw => C.2.2.2.2.1 w (tb_sub hw)
      have hyv : ys.map (vL E) = ys.map (vO (e1 E).2.1) := List.map_congr_left fun a ha => okA_v1 (hcat.2 a (by rw [s2]; exact List.mem_reverse.mpr ha))
      have hstk : st.map (vL E) = ((as'.map (vO (e1 E).2.1)).reverse ++ Value.ref ((e1 E).2.1 (40, w, j)) :: st'.map (vL E)) := by
        have hys : ys = as'.reverse ++ [aR (40, w, j)] := by
          have := congrArg List.reverse s2
          simpa using this.symm
        rw [s1, List.map_append, hyv, hys]
        simp [vO]
      have hlen : as'.length = n := by
        have h1 := congrArg List.length s2
        simp at h1
        omega
      have hm := in_Ls (E := e1 E) (okA_vA1 (hcat.2 _ List.mem_cons_self)) (kd_no hkd)
      obtain ⟨q0, hq0, he⟩ := wsE_at (E := e1 E) (M := N) hm
      simp only [cellE, hkd, cellK] at he
      have hrc := va_recv C.2.2.2.2.2.2.2.2.1 hN hK.1 he
      have hpm : ∀ U : State, U.heap = H → s.WarmedH U.vm → Pm (e1 E) (aR (40, w, j) :: as') N ((aR (40, w, j) :: as').map (vO (e1 E).2.1)).toArray U := by
        intro U hU hW
        refine ⟨rfl, by rw [hU]; exact hN, va_K.moved hW.alike C.2.2.2.2.2.2.2.2.1, ?_, C.2.2.2.2.2.2.2.2.2.2.2.2.1, hO, fun a ha => okA_vA1 (hcat.2 a ha), fun w hw hn => nest_warm hn hW (va_tabs (nest_on hn) rfl (hts w hw))⟩
        rw [hU]
        exact (C.2.2.2.2.2.2.2.2.2.2.1.moved hW.alike).kept fun a h1 _ => hS.2.1 a h1 (Nat.not_le.mpr h1)
      have hrun := va_runV (As := as'.map (vO (e1 E).2.1)) (b := (e1 E).2.1 (40, w, j)) ⟨C.1, C.2.1, C.2.2.1, C.2.2.2.1, hts⟩ hM' ⟨callB_of n hts (gw_code hI.1) rfl rfl rfl (hts _ hI.2.1) (hts _ hl) ⟨hI.2.2.1.1, hI.2.2.1.2, hI.2.2.2.1⟩ (room_law hI.2.2.2.2.1 hdd), hts _ hin, hts _ hse⟩ ⟨Pm_blind _ _ _, hrc, hpm⟩ (g := F0 m pc ls (st.map (vL E))) (l := l) (e := e) (below := below) (meth := meth) (locs := []) (cells := 402) (slots := 10119) rfl (by simpa using hlen) hL.1 hstk (lv_room (by rw [vL_sum]; exact Nat.le_of_ble_eq_true hcat.1)) hd ⟨by decide, by decide⟩
      intro T hT X
      obtain ⟨v', st₀, t, T', L', h0, X', hL', hz1, hz2, ⟨ho, hP', hM1, hv', hF⟩, go⟩ := hrun T hT X
      have hv0 : v' = ov (e1 E).2.1 v := by cases ho; rfl
      subst hv0
      split at hk
      · rename_i x
        have hfr : ∀ q : Nat, q < H.size → ¬ Ast (e1 E) q → t.heap[q]? = H[q]? := fun q h1 h2 => by rw [hF.2 q (by rw [h0]; exact h1) h2, h0]
        have hoth : va_P E.1 cls (wsE (e0 E) M) t.heap := hP.kept fun k x hx => hfr x.1 ((hP k x hx).lt) (fun ha => C.2.2.2.2.2.2.2.2.2.2.2.2.2.2.2.1 _ (wsE_ast hx) ha)
        have hS1 : va_S (fun a => s.heap.size ≤ a) s.heap t.heap [] := ⟨Nat.le_trans hS.1 (by rw [← h0]; exact hF.1), fun q h1 h2 => (hfr q (Nat.lt_of_lt_of_le h1 hS.1) (fun ha => h2 (C.2.2.2.2.2.2.2.2.2.2.2.2.2.2.1 q ha))).trans (hS.2.1 q h1 h2), fun q hq => by cases hq⟩
        obtain ⟨t2, a1, b1⟩ := (W.forget (L := L') (fun q hq => C.2.2.2.2.2.2.2.2.2.2.2.2.2.2.1 _ (hL' q hq)) (hw _ _ hk t.heap ls hoth hP' hS1 hM hM1 hL)) T' hz1 X'
        exact ⟨t2, go t2 a1, b1⟩
      · cases hk
    · cases h
  · cases h
