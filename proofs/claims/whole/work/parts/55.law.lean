/-! ===== the law: two worlds, a script ===== -/
/-- class ids and slots, classes of rows, the bases of the two worlds, the two tables, the script -/
abbrev EL : Type := va_G × (Nat → ClassId) × Nat × Nat × Nat × Nat × Nat
def e0 (E : EL) : EV := (E.1, adS E.2.2.1 E.2.2.2.2.1 E.2.2.2.2.2.1, E.2.1, 0)
def e1 (E : EL) : EV := (E.1, adS E.2.2.2.1 E.2.2.2.2.1 E.2.2.2.2.2.1, E.2.1, 1)
def vL (E : EL) : AV → Value
  | .inl x => .int x
  | .inr (.inl x) => .long x
  | .inr (.inr (.inl q)) => if q.1 = 99 then .ref E.2.2.2.2.2.2 else if q.1 < 40 then .ref ((e0 E).2.1 q) else .ref ((e1 E).2.1 q)
  | .inr (.inr (.inr _)) => .null
/-- the script's place, what lies on the stack, the two memories -/
abbrev SL : Type := Int32 × List AV × Mem × Mem
abbrev StL : Type := (Nat → SL → Option Unit) → SL → Option Unit
def R_law : String := "FreeLancesLaw"
def lw_Q (_ : Array Value) (s : State) (o : Outcome) (t : State) : Prop := o = .returned (some (.int 1)) ∧ Framed s o t [] 600000 7302250
def lw_Z (below : List Frame) (a : Array Value) (s : State) : State → Prop := fun t => ∃ o, t.status = .running ∧ Ended t below o ∧ lw_Q a s o t
def CxL (E : EL) (L : Nat) (xs : Nat → Int32) (p : Program) (s : State) (m : MethodId) (meth : Method) (c : Code) : Prop :=
  p.tables.exec = Jvm.exec ∧ c.code = code ∧ c.maxLocals = 4 ∧ s.vm.findClass R_law = some m.cls ∧ (∀ w ∈ lw_tbl, w.before #[Value.ref E.2.2.2.2.2.2] s = true) ∧ meth.sig.returnType = ret ∧ meth.locks = false ∧ va_X E.2.2.2.2.2.2 L xs s s.heap ∧ va_K E.1 cls (tysE (e0 E)) s ∧ ZK (e0 E) s s.heap ∧ ZK (e1 E) s s.heap ∧ EOK (e0 E) ∧ EOK (e1 E) ∧
  (∀ a, Ast (e0 E) a → s.heap.size ≤ a) ∧ (∀ a, Ast (e1 E) a → s.heap.size ≤ a) ∧ (∀ a, Ast (e0 E) a → ¬ Ast (e1 E) a) ∧ L ≤ 384
def LSl (E : EL) (i : Int32) (ls : Array Slot) : Prop := lv_has ls 4 [(0, vL E (aR (99, 0, 0))), (1, vL E (aR (0, 0, 0))), (2, vL E (aR (40, 0, 0))), (3, .int i)]
def Wl (E : EL) (p : Program) (l : Launch) (e : Env) (s : State) (m : MethodId) (below : List Frame) (meth : Method) (c : Code) (pc : Nat) (σ : SL) : Prop :=
  ∀ (H : Heap) (ls : Array Slot), va_P E.1 cls (wsE (e0 E) σ.2.2.1) H → va_P E.1 cls (wsE (e1 E) σ.2.2.2) H → va_S (fun a => s.heap.size ≤ a) s.heap H [] → okM σ.2.2.1 → okM σ.2.2.2 → LSl E σ.1 ls →
    W p l e room_1 s m #[Value.ref E.2.2.2.2.2.2] below meth c H [] 402 10119 (lw_Z below #[Value.ref E.2.2.2.2.2.2] s) (F0 m pc ls (σ.2.1.map (vL E)))
def OkL (L : Nat) (xs : Nat → Int32) (l : Launch) (x : Nat × StL) : Prop :=
  ∀ (E : EL) (p : Program) (e : Env) (s : State) (m : MethodId) (below : List Frame) (meth : Method) (c : Code), CxL E L xs p s m meth c → ∀ (k : Nat → SL → Option Unit) (σ : SL), x.2 k σ = some () → (∀ pc' σ', k pc' σ' = some () → Wl E p l e s m below meth c pc' σ') → Wl E p l e s m below meth c x.1 σ
def lC (pc n : Nat) (v : Int32) : StL := fun k σ => k (pc + n) (σ.1, aI v :: σ.2.1, σ.2.2)
def lCL (pc : Nat) (v : Int64) : StL := fun k σ => k (pc + 3) (σ.1, aL v :: σ.2.1, σ.2.2)
def lA (pc : Nat) (r : Nat) : StL := fun k σ => k (pc + 1) (σ.1, aR (r, 0, 0) :: σ.2.1, σ.2.2)
def lI (pc : Nat) : StL := fun k σ => k (pc + 1) (σ.1, aI σ.1 :: σ.2.1, σ.2.2)
def lBin (pc : Nat) (f : Int32 → Int32 → Int32) : StL := fun k σ => match σ.2.1 with
  | .inl y :: .inl x :: st => k (pc + 1) (σ.1, aI (f x y) :: st, σ.2.2)
  | _ => none
def lAt (pc L : Nat) (xs : Nat → Int32) : StL := fun k σ => match σ.2.1 with
  | .inl x :: .inr (.inr (.inl (r, _, _))) :: st => match Nat.beq r 99 with
    | true => ixx x L fun j => k (pc + 1) (σ.1, aI (xs j) :: st, σ.2.2)
    | false => none
  | _ => none
def lI2L (pc : Nat) : StL := fun k σ => match σ.2.1 with
  | .inl x :: st => k (pc + 1) (σ.1, aL x.toInt64 :: st, σ.2.2)
  | _ => none
def lShl (pc : Nat) : StL := fun k σ => match σ.2.1 with
  | .inl y :: .inr (.inl x) :: st => k (pc + 1) (σ.1, aL (x <<< (y.toInt64 &&& 63)) :: st, σ.2.2)
  | _ => none
def lBinL (pc : Nat) (f : Int64 → Int64 → Int64) : StL := fun k σ => match σ.2.1 with
  | .inr (.inl y) :: .inr (.inl x) :: st => k (pc + 1) (σ.1, aL (f x y) :: st, σ.2.2)
  | _ => none
def lIfEq (pc t : Nat) : StL := fun k σ => match σ.2.1 with
  | .inl x :: st => if x = 0 then k t (σ.1, st, σ.2.2) else k (pc + 3) (σ.1, st, σ.2.2)
  | _ => none
def lGoto (t : Nat) : StL := fun k σ => k t σ
/-- the two answers are the same -/
def lSame (t : Nat) : StL := fun k σ => match σ.2.1 with
  | .inl y :: .inl x :: st => if x = y then k t (σ.1, st, σ.2.2) else none
  | _ => none
def okA (r : Nat) : AV → Bool
  | .inl _ => true
  | .inr (.inl _) => true
  | .inr (.inr (.inl q)) => Nat.beq q.1 r && (Nat.beq q.2.1 0 && Nat.beq q.2.2 0)
  | .inr (.inr (.inr _)) => false
def lCallF (pc n : Nat) (den : Den Unit) : StL := fun k σ => match tk n σ.2.1 [] with
  | some (as, st) => match Nat.ble (catS st) 8 && as.all (okA 0) with
    | true => den as σ.2.2.1 fun v M' => match v with
      | .inl x => k (pc + 3) (σ.1, aI x :: st, M', σ.2.2.2)
      | _ => none
    | false => none
  | none => none
def lCallK (pc n : Nat) (den : Den Unit) : StL := fun k σ => match tk n σ.2.1 [] with
  | some (as, st) => match Nat.ble (catS st) 8 && as.all (okA 40) with
    | true => den as σ.2.2.2 fun v N' => match v with
      | .inl x => k (pc + 3) (σ.1, aI x :: st, σ.2.2.1, N')
      | _ => none
    | false => none
  | none => none
def seekL : List (Nat × StL) → Nat → Option (Nat × StL)
  | [], _ => none
  | e :: r, pc => match Nat.beq e.1 pc with
    | true => some e
    | false => seekL r pc
def runL (code : List (Nat × StL)) (K : SL → Option Unit) : Nat → Nat → SL → Option Unit
  | 0, _, _ => none
  | n + 1, pc, σ => match seekL code pc with
    | none => none
    | some (_, f) => f (fun pc' σ' => match Nat.beq pc' 2238 with
      | true => K σ'
      | false => runL code K n pc' σ') σ
def AllL (L : Nat) (xs : Nat → Int32) (l : Launch) : List (Nat × StL) → Prop
  | [] => True
  | x :: r => OkL L xs l x ∧ AllL L xs l r
theorem akL {L : Nat} {xs : Nat → Int32} {l : Launch} {x : Nat × StL} {r : List (Nat × StL)} (h : OkL L xs l x) (h2 : AllL L xs l r) : AllL L xs l (x :: r) := ⟨h, h2⟩
theorem seekL_spec {L : Nat} {xs : Nat → Int32} {l : Launch} {t : Nat} {x : Nat × StL} : ∀ {code : List (Nat × StL)}, AllL L xs l code → seekL code t = some x → OkL L xs l x ∧ x.1 = t
  | [], _, h => by simp [seekL] at h
  | e :: r, hA, h => by
    simp only [seekL] at h
    split at h
    · rename_i hb
      cases h
      exact ⟨hA.1, Nat.eq_of_beq_eq_true hb⟩
    · exact seekL_spec hA.2 h
theorem runL_ok {L : Nat} {xs : Nat → Int32} {l : Launch} {code : List (Nat × StL)} (hA : AllL L xs l code) {E : EL} {p : Program} {e : Env} {s : State} {m : MethodId} {below : List Frame} {meth : Method} {c : Code} (C : CxL E L xs p s m meth c) {K : SL → Option Unit} (hK : ∀ σ, K σ = some () → Wl E p l e s m below meth c 2238 σ) : ∀ (n pc : Nat) (σ : SL), runL code K n pc σ = some () → Wl E p l e s m below meth c pc σ := by
  intro n
  induction n with
  | zero => intro pc σ h; simp [runL] at h
  | succ n ih =>
    intro pc σ h
    simp only [runL] at h
    split at h
    · cases h
    · rename_i a f hs
      obtain ⟨h1, h2⟩ := seekL_spec hA hs
      subst h2
      refine h1 E p e s m below meth c C _ σ h (fun pc' σ' h' => ?_)
      split at h'
      · rename_i hb
        rw [Nat.eq_of_beq_eq_true hb]
        exact hK σ' h'
      · exact ih pc' σ' h'
section OkLs
variable {L : Nat} {xs : Nat → Int32} {l : Launch} {pc : Nat}
theorem kl_const {n : Nat} {v : Int32} {ins : Instr} (hd : decode code pc = .ok (ins, n)) (hi : (∃ z, ins = .iconst z ∧ n = 1 ∧ Int32.ofInt z = v) ∨ (∃ z, ins = .bipush z ∧ n = 2 ∧ (Int8.ofInt z).toInt32 = v)) : OkL L xs l (pc, lC pc n v) := by
  intro E p e s m below meth c C k σ h hw H ls hP hN hS hM hO hL
  have hw := hw _ _ h H ls hP hN hS hM hO hL
  rcases hi with ⟨z, rfl, rfl, hz1⟩ | ⟨z, rfl, rfl, hz1⟩
  · exact lv_iconst C.1 C.2.1 hd hz1 hw
  · exact lv_bipush C.1 C.2.1 hd hz1 hw
theorem kl_aload {k0 : Fin 4} {r : Nat} (hi : ((k0 : Nat) = 0 ∧ r = 99) ∨ ((k0 : Nat) = 1 ∧ r = 0) ∨ ((k0 : Nat) = 2 ∧ r = 40)) (hd : decode code pc = .ok (.aload_n k0, 1)) : OkL L xs l (pc, lA pc r) := by
  intro E p e s m below meth c C k σ h hw H ls hP hN hS hM hO hL
  have hw := hw _ _ h H ls hP hN hS hM hO hL
  rcases hi with ⟨h1, rfl⟩ | ⟨h1, rfl⟩ | ⟨h1, rfl⟩
  · exact lv_aload_n C.1 C.2.1 hd h1 (lv_at hL 0 rfl) hw
  · exact lv_aload_n C.1 C.2.1 hd h1 (lv_at hL 1 rfl) hw
  · exact lv_aload_n C.1 C.2.1 hd h1 (lv_at hL 2 rfl) hw
theorem kl_iload {k0 : Fin 4} (h1 : (k0 : Nat) = 3) (hd : decode code pc = .ok (.iload_n k0, 1)) : OkL L xs l (pc, lI pc) := by
  intro E p e s m below meth c C k σ h hw H ls hP hN hS hM hO hL
  exact lv_iload_n C.1 C.2.1 hd h1 (lv_at hL 3 rfl) (hw _ _ h H ls hP hN hS hM hO hL)
theorem kl_iadd (hd : decode code pc = .ok (.iadd, 1)) : OkL L xs l (pc, lBin pc (fun x y => x + y)) := by
  intro E p e s m below meth c C k σ h hw H ls hP hN hS hM hO hL
  obtain ⟨i, st, M, N⟩ := σ
  simp only [lBin] at h
  split at h
  · exact lv_iadd C.1 C.2.1 hd (hw _ _ h H ls hP hN hS hM hO hL)
  · cases h
theorem kl_at (hd : decode code pc = .ok (.iaload, 1)) : OkL L xs l (pc, lAt pc L xs) := by
  intro E p e s m below meth c C k σ h hw H ls hP hN hS hM hO hL
  obtain ⟨i, st, M, N⟩ := σ
  simp only [lAt] at h
  split at h
  · rename_i _ x r w j st'
    split at h
    · rename_i hb
      have hr := Nat.eq_of_beq_eq_true hb
      subst hr
      unfold ixx at h
      split at h
      · cases h
      · rename_i hin
        obtain ⟨scr, x1, -⟩ := C.2.2.2.2.2.2.2.1
        have hbl := (Array.getElem?_eq_some_iff.mp x1).1
        exact va_sld C.1 C.2.1 C.2.2.2.2.2.2.2.1 hbl (Nat.not_le.mpr hbl) hS hin hd (hw _ _ h H ls hP hN hS hM hO hL)
    · cases h
  · cases h
theorem kl_i2l (hd : decode code pc = .ok (.i2l, 1)) : OkL L xs l (pc, lI2L pc) := by
  intro E p e s m below meth c C k σ h hw H ls hP hN hS hM hO hL
  obtain ⟨i, st, M, N⟩ := σ
  simp only [lI2L] at h
  split at h
  · exact lv_i2l C.1 C.2.1 hd rfl (hw _ _ h H ls hP hN hS hM hO hL)
  · cases h
theorem kl_lshl (hd : decode code pc = .ok (.lshl, 1)) : OkL L xs l (pc, lShl pc) := by
  intro E p e s m below meth c C k σ h hw H ls hP hN hS hM hO hL
  obtain ⟨i, st, M, N⟩ := σ
  simp only [lShl] at h
  split at h
  · exact lv_lshl C.1 C.2.1 hd rfl (hw _ _ h H ls hP hN hS hM hO hL)
  · cases h
theorem kl_ldc2 {i : Nat} {v : Int64} (hc : Cond.constantLong R_law i v ∈ lw_tbl) (hd : decode code pc = .ok (.ldc2_w i, 3)) : OkL L xs l (pc, lCL pc v) := by
  intro E p e s m below meth c C k σ h hw H ls hP hN hS hM hO hL
  exact lv_ldc2 C.1 C.2.1 C.2.2.2.1 (C.2.2.2.2.1 _ hc) hd (hw _ _ h H ls hP hN hS hM hO hL)
theorem kl_land (hd : decode code pc = .ok (.land, 1)) : OkL L xs l (pc, lBinL pc (fun x y => x &&& y)) := by
  intro E p e s m below meth c C k σ h hw H ls hP hN hS hM hO hL
  obtain ⟨i, st, M, N⟩ := σ
  simp only [lBinL] at h
  split at h
  · exact lv_land C.1 C.2.1 hd (hw _ _ h H ls hP hN hS hM hO hL)
  · cases h
theorem kl_lor (hd : decode code pc = .ok (.lor, 1)) : OkL L xs l (pc, lBinL pc (fun x y => x ||| y)) := by
  intro E p e s m below meth c C k σ h hw H ls hP hN hS hM hO hL
  obtain ⟨i, st, M, N⟩ := σ
  simp only [lBinL] at h
  split at h
  · exact lv_lor C.1 C.2.1 hd (hw _ _ h H ls hP hN hS hM hO hL)
  · cases h
theorem kl_ifeq {off : Int} {t : Nat} (ht : (pc : Int) + off = (t : Int)) (hd : decode code pc = .ok (.ifCond .eq off, 3)) : OkL L xs l (pc, lIfEq pc t) := by
  intro E p e s m below meth c C k σ h hw H ls hP hN hS hM hO hL
  obtain ⟨i, st, M, N⟩ := σ
  simp only [lIfEq] at h
  split at h
  · exact lv_if_eq C.1 C.2.1 hd ht (fun q => by rw [if_pos q] at h; exact hw _ _ h H ls hP hN hS hM hO hL) (fun q => by rw [if_neg q] at h; exact hw _ _ h H ls hP hN hS hM hO hL)
  · cases h
theorem kl_goto {off : Int} {t : Nat} (ht : (pc : Int) + off = (t : Int)) (hd : decode code pc = .ok (.goto off, 3)) : OkL L xs l (pc, lGoto t) := by
  intro E p e s m below meth c C k σ h hw H ls hP hN hS hM hO hL
  exact lv_goto C.1 C.2.1 hd ht (hw _ _ h H ls hP hN hS hM hO hL)
theorem kl_same {off : Int} {t : Nat} (ht : (pc : Int) + off = (t : Int)) (hd : decode code pc = .ok (.if_icmp .eq off, 3)) : OkL L xs l (pc, lSame t) := by
  intro E p e s m below meth c C k σ h hw H ls hP hN hS hM hO hL
  obtain ⟨i, st, M, N⟩ := σ
  simp only [lSame] at h
  split at h
  · split at h
    · rename_i q
      exact lv_icmp_eq C.1 C.2.1 hd ht (fun _ => hw _ _ h H ls hP hN hS hM hO hL) (fun q' => absurd q q')
    · cases h
  · cases h
end OkLs
