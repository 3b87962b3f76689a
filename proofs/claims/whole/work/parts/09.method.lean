/-! ===== stretches of code, methods ===== -/
def chainB {α : Type} : List (Ent α) → Bool
  | [] => true
  | [_] => true
  | a :: b :: r => Nat.beq (a.2.1 + a.2.2.1) b.2.1 && chainB (b :: r)
theorem chain_suf {α : Type} : ∀ {pre r : List (Ent α)}, chainB (pre ++ r) = true → chainB r = true
  | [], _, h => h
  | [a], [], _ => rfl
  | [a], b :: r, h => by
    simp only [List.cons_append, List.nil_append, chainB, Bool.and_eq_true] at h
    exact h.2
  | a :: b :: pre, r, h => by
    simp only [List.cons_append, chainB, Bool.and_eq_true] at h
    exact chain_suf (pre := b :: pre) h.2
theorem seek_spec {α : Type} {t : Nat} {e2 : Ent α} {r2 : List (Ent α)} : ∀ {code : List (Ent α)}, seek code t = e2 :: r2 → (∃ pre, code = pre ++ e2 :: r2) ∧ e2.2.1 = t
  | [], h => by simp [seek] at h
  | e :: r, h => by
    simp only [seek] at h
    split at h
    · rename_i hb
      cases h
      exact ⟨⟨[], rfl⟩, Nat.eq_of_beq_eq_true hb⟩
    · obtain ⟨⟨pre, h1⟩, h2⟩ := seek_spec h
      exact ⟨⟨e :: pre, by rw [h1]; rfl⟩, h2⟩
def AllOK (E : EV) (l : Launch) (d : Nat) (own : String) (bytes : ByteArray) (nL : Nat) (ret : Option FieldType) {α : Type} (out : α → AV × Mem) : List (Ent α) → Prop
  | [] => True
  | x :: r => SemOK E l d own bytes nL ret out x ∧ AllOK E l d own bytes nL ret out r
theorem AllOK.mem {E : EV} {l : Launch} {d : Nat} {own : String} {bytes : ByteArray} {nL : Nat} {ret : Option FieldType} {α : Type} {out : α → AV × Mem} {x : Ent α} : ∀ {c : List (Ent α)}, AllOK E l d own bytes nL ret out c → x ∈ c → SemOK E l d own bytes nL ret out x
  | [], _, h => by cases h
  | a :: r, h, hx => by
    rcases List.mem_cons.mp hx with rfl | hx
    · exact h.1
    · exact h.2.mem hx
section RunS
variable {E : EV} {l : Launch} {d : Nat} {own : String} {bytes : ByteArray} {nL : Nat} {ret : Option FieldType} {α : Type} {out : α → AV × Mem}
variable {p : Program} {e : Env} {s : State} {m : MethodId} {args : Array Value} {below : List Frame} {meth : Method} {c : Code}
theorem run_suf (C : Cx E p s m args meth c own bytes nL ret) {code : List (Ent α)} (hA : AllOK E l d own bytes nL ret out code) (hch : chainB code = true) {K : Jm α} {rt : Rt α} {res : α}
    (hK : ∀ t als st M, K t als st M = some res → Wm E p l e d s m args below meth c nL t als st M (out res).1 (out res).2) (hrt : ∀ v M, rt v M = some res → out res = (v, M)) :
    ∀ (n : Nat) (x : Ent α) (r : List (Ent α)) (als st : List AV) (M : Mem), (∃ pre, code = pre ++ x :: r) → run code K rt n (x :: r) als st M = some res → Wm E p l e d s m args below meth c nL x.2.1 als st M (out res).1 (out res).2 := by
  intro n
  induction n with
  | zero => intro x r als st M _ h; simp [run] at h
  | succ n ih =>
    intro x r als st M hpre h
    obtain ⟨pre, hpre⟩ := hpre
    simp only [run] at h
    have hx : SemOK E l d own bytes nL ret out x := hA.mem (by rw [hpre]; simp)
    have hcx : chainB (x :: r) = true := by rw [hpre] at hch; exact chain_suf hch
    refine hx p e s m args below meth c C _ _ rt als st M res h ?_ ?_ hrt
    · intro als st M h
      split at h
      · cases h
      · rename_i e2 r2 h0
        simp only [chainB, Bool.and_eq_true] at hcx
        have hpc : x.2.1 + x.2.2.1 = e2.2.1 := Nat.eq_of_beq_eq_true hcx.1
        rw [hpc]
        split at h
        · exact hK _ _ _ _ h
        · exact ih e2 r2 als st M ⟨pre ++ [x], by rw [hpre]; simp⟩ h
    · intro t als st M h
      split at h
      · cases h
      · rename_i e2 r2 hs
        obtain ⟨h1, h2⟩ := seek_spec hs
        split at h
        · exact hK _ _ _ _ h
        · rw [← h2]
          exact ih e2 r2 als st M h1 h
/-- from the place t on -/
theorem run_at (C : Cx E p s m args meth c own bytes nL ret) {code : List (Ent α)} (hA : AllOK E l d own bytes nL ret out code) (hch : chainB code = true) {K : Jm α} {rt : Rt α} {res : α}
    (hrt : ∀ v M, rt v M = some res → out res = (v, M)) {n t : Nat} {als st : List AV} {M : Mem} (h : run code K rt n (seek code t) als st M = some res)
    (hK : ∀ t als st M, K t als st M = some res → Wm E p l e d s m args below meth c nL t als st M (out res).1 (out res).2) : Wm E p l e d s m args below meth c nL t als st M (out res).1 (out res).2 := by
  cases hs : seek code t with
  | nil =>
    rw [hs] at h
    cases n <;> simp [run] at h
  | cons x r =>
    rw [hs] at h
    obtain ⟨h1, h2⟩ := seek_spec hs
    rw [← h2]
    exact run_suf C hA hch hK hrt n x r als st M h1 h
end RunS
/-- a method's locals at its beginning -/
def layA : List AV → List AV
  | [] => []
  | a :: r => match isLong a with
    | true => a :: aU :: layA r
    | false => a :: layA r
def padA (as : List AV) (nL : Nat) : List AV := layA as ++ List.replicate (nL - (layA as).length) aU
theorem nth_app : ∀ (a b : List AV) (i : Nat), nth (a ++ b) i = if i < a.length then nth a i else nth b (i - a.length)
  | [], b, i => by simp
  | x :: a, b, 0 => by simp [nth]
  | x :: a, b, i + 1 => by
    show nth (a ++ b) i = _
    rw [nth_app a b i]
    simp [nth]
theorem nth_rep : ∀ (n i : Nat), nth (List.replicate n aU) i = aU
  | 0, _ => rfl
  | n + 1, 0 => rfl
  | n + 1, i + 1 => by
    show nth (List.replicate n aU) i = aU
    exact nth_rep n i
theorem isLong_cat {ad : Loc3 → Nat} {a : AV} : (vO ad a).category = 2 ↔ isLong a = true := by
  rcases a with x | x | x | x <;> simp [vO, Value.category, isLong]
theorem layA_mem {ad : Loc3 → Nat} : ∀ (as : List AV) (o i : Nat), nth (layA as) i ≠ aU → (o + i, vO ad (nth (layA as) i)) ∈ lv_args o (as.map (vO ad))
  | [], _, _, h => absurd rfl h
  | a :: r, o, i, h => by
    simp only [List.map_cons, lv_args]
    cases hl : isLong a with
    | true =>
      have hc := (isLong_cat (ad := ad)).mpr hl
      simp only [layA, hl] at h ⊢
      rw [if_pos hc]
      match i, h with
      | 0, _ => exact List.mem_cons_self
      | 1, h => exact absurd rfl h
      | i + 2, h =>
        have := layA_mem (ad := ad) r (o + 2) i h
        rw [show o + (i + 2) = o + 2 + i by omega]
        exact List.mem_cons_of_mem _ this
    | false =>
      have hc : ¬ (vO ad a).category = 2 := fun q => by rw [isLong_cat, hl] at q; cases q
      simp only [layA, hl] at h ⊢
      rw [if_neg hc]
      match i, h with
      | 0, _ => exact List.mem_cons_self
      | i + 1, h =>
        have := layA_mem (ad := ad) r (o + 1) i h
        rw [show o + (i + 1) = o + 1 + i by omega]
        exact List.mem_cons_of_mem _ this
theorem layA_len {ad : Loc3 → Nat} : ∀ (as : List AV), (lg_sl (as.map (vO ad))).length = (layA as).length
  | [] => rfl
  | a :: r => by
    have ih := layA_len (ad := ad) r
    simp only [lg_sl] at ih ⊢
    simp only [List.map_cons, List.flatMap_cons, List.length_append, ih]
    cases hl : isLong a with
    | true =>
      rw [if_pos ((isLong_cat (ad := ad)).mpr hl)]
      simp [layA, hl]; omega
    | false =>
      rw [if_neg (fun q => by rw [isLong_cat, hl] at q; cases q)]
      simp [layA, hl]; omega
theorem LSo.entry {ad : Loc3 → Nat} {as : List AV} {nL : Nat} (h : (layA as).length ≤ nL) : LSo ad nL (padA as nL) ((lg_sl (as.map (vO ad)) ++ List.replicate (nL - (lg_sl (as.map (vO ad))).length) Slot.unset).toArray) := by
  have h1 := lv_entry (as.map (vO ad)) (n := nL) (by rw [layA_len]; exact h)
  refine ⟨by simp [padA]; omega, h1.1, h1.2.1, fun i hi => ?_⟩
  unfold padA at hi ⊢
  rw [nth_app] at hi ⊢
  by_cases hlt : i < (layA as).length
  · rw [if_pos hlt] at hi ⊢
    have h2 := layA_mem (ad := ad) as 0 i hi
    rw [Nat.zero_add] at h2
    exact h1.2.2 _ h2
  · rw [if_neg hlt] at hi
    exact absurd (nth_rep _ _) hi
theorem padA_mem {as : List AV} {nL : Nat} {sd : Nat} (h : ∀ a ∈ as, vA sd a) : ∀ a ∈ padA as nL, vA sd a := by
  have key : ∀ (as : List AV), (∀ a ∈ as, vA sd a) → ∀ a ∈ layA as, vA sd a := by
    intro as
    induction as with
    | nil => intro _ a ha; cases ha
    | cons x r ih =>
      intro h a ha
      obtain ⟨h1, h2⟩ := List.forall_mem_cons.mp h
      cases hl : isLong x with
      | true =>
        simp only [layA, hl, List.mem_cons] at ha
        rcases ha with rfl | rfl | ha
        · exact h1
        · exact trivial
        · exact ih h2 a ha
      | false =>
        simp only [layA, hl, List.mem_cons] at ha
        rcases ha with rfl | ha
        · exact h1
        · exact ih h2 a ha
  intro a ha
  rcases List.mem_append.mp ha with q | q
  · exact key as h a q
  · rw [(List.mem_replicate.mp q).2]
    exact trivial
/-- a method's contract out of its walk -/
theorem con_of {E : EV} {l : Launch} {d : Nat} {y : MethodName} {bytes : ByteArray} {nL : Nat} {ret : Option FieldType} {n : Nat} {as : List AV} {M : Mem} {v : AV} {M' : Mem} (hI : MI y bytes nL ret n) (hlen : (layA as).length ≤ nL)
    (hW : ∀ (p : Program) (e : Env) (s : State) (m : MethodId) (args : Array Value) (below : List Frame) (meth : Method) (c : Code), Cx E p s m args meth c y.cls bytes nL ret → Wm E p l e d s m args below meth c nL 0 (padA as nL) [] M v M') : Con E l d y bytes nL ret as M v M' := by
  refine Met.ofW (cc := bytes) (maxL := nL) (ret := ret) hI.2.2.2.2.2 rfl ?_
  intro p e s m args below meth c s₁ B hml hv
  obtain ⟨rfl, hP, hK, hZ, hE, hM, hV, hN⟩ := hv
  have hts0 := atoms_spec (ws := Cond.code y bytes nL ret :: gwT) B.pre
  have hts : ∀ w ∈ tbT, w.before (as.map (vO E.2.1)).toArray s = true := by
    intro w hw
    have h1 := (List.mem_filter.mp hw).2
    simp only [Bool.or_eq_true] at h1
    rcases h1 with h1 | h1
    · exact hts0 w (List.mem_cons_of_mem _ (List.mem_filter.mpr ⟨hw, h1⟩))
    · exact va_tabs (nest_on h1) rfl (hN w hw h1)
  have hown : s.vm.findClass y.cls = some m.cls := findClass_of_methodNamed B.named
  rw [lg_entry_eq]
  exact hW p e s m _ below meth c ⟨B.exec, B.bytes, hml, hown, hts, B.returns, B.notSynchronized, hK, hZ, hE⟩ s.heap [] _ hP va_S.rf hM (padA_mem hV) (fun a ha => by cases ha) (LSo.entry hlen)
