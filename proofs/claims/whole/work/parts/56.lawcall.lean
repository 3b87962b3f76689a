/-! ===== calls out of the law ===== -/
theorem tb_sub {w : Cond} (h : w ∈ tbT) : w ∈ lw_tbl := (List.mem_filter.mp h).1
theorem room_law {d' maxL : Nat} (hm : maxL ≤ 21) (hdd : d' ≤ 2000) : (rmD d').frames + 1 ≤ room_1.frames ∧ 8 + (maxL + 11) + (rmD d').locals ≤ room_1.locals := by
  refine ⟨?_, ?_⟩
  · show d' + 1 ≤ 2048
    omega
  · show 8 + (maxL + 11) + 40 * d' ≤ 84000
    omega
theorem wsE_ast {E : EV} {M : Mem} {k : Nat} {x : Nat × va_E} (h : (wsE E M)[k]? = some x) : Ast E x.1 := by
  simp only [wsE, List.getElem?_map, Option.map_eq_some_iff] at h
  obtain ⟨a, ha, rfl⟩ := h
  exact ⟨a, List.mem_of_getElem? ha, rfl⟩
theorem okA_v0 {E : EL} {a : AV} (h : okA 0 a = true) : vL E a = vO (e0 E).2.1 a := by
  rcases a with x | x | q | x
  · rfl
  · rfl
  · simp only [okA, Bool.and_eq_true] at h
    have h1 := Nat.eq_of_beq_eq_true h.1
    show (if q.1 = 99 then _ else if q.1 < 40 then _ else _) = _
    rw [h1, if_neg (by decide), if_pos (by decide)]
    rfl
  · cases h
theorem okA_v1 {E : EL} {a : AV} (h : okA 40 a = true) : vL E a = vO (e1 E).2.1 a := by
  rcases a with x | x | q | x
  · rfl
  · rfl
  · simp only [okA, Bool.and_eq_true] at h
    have h1 := Nat.eq_of_beq_eq_true h.1
    show (if q.1 = 99 then _ else if q.1 < 40 then _ else _) = _
    rw [h1, if_neg (by decide), if_neg (by decide)]
    rfl
  · cases h
theorem okA_vA0 {a : AV} (h : okA 0 a = true) : vA 0 a := by
  rcases a with x | x | q | x
  · trivial
  · trivial
  · simp only [okA, Bool.and_eq_true] at h
    have h1 := Nat.eq_of_beq_eq_true h.1
    have h2 := Nat.eq_of_beq_eq_true h.2.1
    have h3 := Nat.eq_of_beq_eq_true h.2.2
    refine Or.inl ?_
    obtain ⟨r, w, i⟩ := q
    dsimp only at h1 h2 h3
    subst h1 h2 h3
    exact mem_Ls.mpr ⟨by decide, by decide, by decide⟩
  · trivial
theorem okA_vA1 {a : AV} (h : okA 40 a = true) : vA 1 a := by
  rcases a with x | x | q | x
  · trivial
  · trivial
  · simp only [okA, Bool.and_eq_true] at h
    have h1 := Nat.eq_of_beq_eq_true h.1
    have h2 := Nat.eq_of_beq_eq_true h.2.1
    have h3 := Nat.eq_of_beq_eq_true h.2.2
    refine Or.inl ?_
    obtain ⟨r, w, i⟩ := q
    dsimp only at h1 h2 h3
    subst h1 h2 h3
    exact mem_Ls.mpr ⟨by decide, by decide, by decide⟩
  · trivial
