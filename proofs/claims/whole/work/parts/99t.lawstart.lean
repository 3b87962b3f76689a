/-! ===== the law from its start ===== -/
theorem dl_0 : decode code 0 = .ok (.new 7, 3) := by decide +kernel
theorem dl_3 : decode code 3 = .ok (.dup, 1) := by decide +kernel
theorem dl_4 : decode code 4 = .ok (.invokespecial 9, 3) := by decide +kernel
theorem dl_7 : decode code 7 = .ok (.astore_n 1, 1) := by decide +kernel
theorem dl_8 : decode code 8 = .ok (.new 10, 3) := by decide +kernel
theorem dl_11 : decode code 11 = .ok (.dup, 1) := by decide +kernel
theorem dl_12 : decode code 12 = .ok (.invokespecial 12, 3) := by decide +kernel
theorem dl_15 : decode code 15 = .ok (.astore_n 2, 1) := by decide +kernel
theorem dl_16 : decode code 16 = .ok (.iconst 0, 1) := by decide +kernel
theorem dl_17 : decode code 17 = .ok (.istore_n 3, 1) := by decide +kernel
theorem arr_i {b : Nat} {s : State} (h : (Cond.arrayClass .int).before #[Value.ref b] s = true) : ∃ cA, ArrOfT s cA .int ∧ va_RA s cA .int := by
  obtain ⟨cA, kA, comp, h1, h2, h3⟩ := Cond.arrayClass_spec h
  exact ⟨cA, fun n z => ⟨fun k h => (by cases h), kA, h2, comp, h3⟩, h1⟩
theorem arr_b {b : Nat} {s : State} (h : (Cond.arrayClass .byte).before #[Value.ref b] s = true) : ∃ cA, ArrOfT s cA .byte ∧ va_RA s cA .byte := by
  obtain ⟨cA, kA, comp, h1, h2, h3⟩ := Cond.arrayClass_spec h
  exact ⟨cA, fun n z => ⟨fun k h => (by cases h), kA, h2, comp, h3⟩, h1⟩
theorem arr_o {b : Nat} {s : State} {C : String} (h : (Cond.arrayOver (.object C)).before #[Value.ref b] s = true) : ∃ cA, ArrOfT s cA (.object C) ∧ va_RA s cA (.object C) := by
  obtain ⟨comp, cA, kA, h1, h2, h3, h4, h5⟩ := Cond.arrayOver_spec h
  exact ⟨cA, fun n z => ⟨fun k h => (by cases h), kA, h3, comp, h4⟩, kA, comp, h3, h4, h1, h5⟩
theorem law_make {p : Program} {l : Launch} {e : Env} {s : State} {m : MethodId} {below : List Frame} {meth : Method} {c : Code} {b : Nat} {Q : State → Prop} (E : EA) (hx : p.tables.exec = Jvm.exec) (hb : c.code = code) (hml : c.maxLocals = 4) (hown : s.vm.findClass R_law = some m.cls) (hts : ∀ w ∈ lw_tbl, w.before #[Value.ref b] s = true) (hKK : va_K E.1 cls (tysA E) s) (hAO : AOs s) (hsE : s.heap.size ≤ E.2.2)
    {pc i1 i2 ci NN mc ms d' nL : Nat} {C : String} {T : u_T} {ty : Nat → FieldType} {fs : List CV} {y : MethodName} {cb : ByteArray} {X : List CC} (hK : CK ci C T NN ty) (hci : ci < 100) (hfl : fs.length = NN) (hfs : ∀ j, j < NN → ∀ B, defaultValue (ty j) = vp_V (fs.map (cvV B)) j)
    (hl : Cond.classLink R_law i1 C ∈ lw_tbl) (hin : Cond.instantiable C NN ∈ lw_tbl) (hini : Cond.initialized C ∈ lw_tbl) (hM : ConA E l d' mc ms y cb nL [.inr (.inl (some 0))] [(ci, fs)] X) (hI : MI y cb nL none 0) (hy : y.name = "<init>") (him : Cond.instanceMethod y ∈ lw_tbl) (hlm : Cond.methodLink R_law i2 y ∈ lw_tbl) (hd' : d' ≤ 2000)
    (hd1 : decode code pc = .ok (.new i1, 3)) (hd2 : decode code (pc + 3) = .ok (.dup, 1)) (hd3 : decode code (pc + 3 + 1) = .ok (.invokespecial i2, 3)) {H : Heap} {cells slots : Nat} (hc1 : cells + 1 + mc ≤ 600000) (hc2 : slots + NN + ms ≤ 7302250) (hH : H.size = E.2.2) {ls : Array Slot} (hls : ls.size = 4)
    (kk : ∀ H' : Heap, H'.size = E.2.2 + X.length → va_P E.1 cls (wsA E.2.2 E.2.1 X) H' → (∀ q, q < H.size → H'[q]? = H[q]?) → W p l e room_1 s m #[Value.ref b] below meth c H' [] (cells + 1 + mc) (slots + NN + ms) Q (F0 m (pc + 3 + 1 + 3) ls [.ref (E.2.2 + 0)])) : W p l e room_1 s m #[Value.ref b] below meth c H [] cells slots Q (F0 m pc ls []) := by
  subst hfl
  have hKn := hKK.1 ci _ hK.1
  have htT : ∀ w ∈ tbT, w.before #[Value.ref b] s = true := fun w hw => hts w (tb_sub hw)
  refine W.newcK hx hb hown (hts _ hl) (hts _ hin) (hts _ hini) rfl hd1 (show cells + 1 ≤ 600000 by omega) (show slots + fs.length ≤ 7302250 by omega) hKn.2.1 hH fun H1 kC hkC e1 z1 o1 => ?_
  have hP1 : va_P E.1 cls (wsA E.2.2 E.2.1 [(ci, fs)]) H1 := by
    intro k x hx'
    rw [wsA_at] at hx'
    match k, hx' with
    | 0, hx' =>
      have e0 : x = (E.2.2 + 0, cellA E.2.2 E.2.1 (ci, fs)) := by
        simpa using hx'.symm
      subst e0
      rw [cellA_obj hci]
      exact ⟨_, hK.1, (u_born ty htT hK.2.1 hKn hkC e1 hK.2.2.1).to (fun j hj => hfs j hj _)⟩
    | k + 1, hx' => simp at hx'
  refine lv_dup (pc := pc + 3) hx hb hd2 rfl ?_
  have hroom : (rmA d' mc ms).frames + 1 ≤ room_1.frames ∧ 8 + (nL + 11) + (rmA d' mc ms).locals ≤ room_1.locals := by
    have := hI.2.2.2.2.1
    refine ⟨?_, ?_⟩
    · show d' + 1 ≤ 2048
      omega
    · show 8 + (nL + 11) + 40 * d' ≤ 84000
      omega
  have hpre : ∀ U : State, U.heap = H1 → s.WarmedH U.vm → PA E [.inr (.inl (some 0))] [(ci, fs)] (([.inr (.inl (some 0))] : List VC).map (vcV E.2.2)).toArray U := by
    intro U hU hW
    exact ⟨rfl, by rw [hU, z1]; rfl, by rw [hU]; exact hP1, va_K.moved hW.alike hKK, hAO.moved hW.alike, fun w hw hn => nest_warm hn hW (va_tabs (nest_on hn) rfl (htT w hw))⟩
  have hrun : va_Run p l e room_1 s m #[Value.ref b] below meth c H1 [] (cells + 1) (slots + fs.length) mc ms (F0 m (pc + 3 + 1) ls (.ref (E.2.2 + 0) :: [.ref (E.2.2 + 0)])) [.ref (E.2.2 + 0)] (QA E X (([.inr (.inl (some 0))] : List VC).map (vcV E.2.2)).toArray) (fun q => E.2.2 ≤ q) :=
    va_runI (As := []) (b := E.2.2 + 0) ⟨hx, hb, hml, hown, htT⟩ hM ⟨callB_of 0 htT (gw_code hI.1) rfl rfl rfl (htT _ hI.2.1) (hts _ hlm) ⟨hI.2.2.1.1, hI.2.2.1.2, hI.2.2.2.1⟩ hroom, hy, hts _ him⟩ ⟨PA_blind E _ _, hpre⟩ rfl rfl hls rfl (lv_room (Nat.le_of_ble_eq_true rfl)) hd3 ⟨hc1, hc2⟩
  intro T hT XX
  obtain ⟨v', st₀, t, T', L, h0, XX', hL', g1, g2, ⟨ho, hz', hP', hF⟩, go⟩ := hrun T hT XX
  cases ho
  have hfr : ∀ q, q < H.size → t.heap[q]? = H[q]? := fun q hq => by
    rw [hF.2 q (by rw [h0, z1]; omega) (by omega), h0]
    exact o1 q (by omega)
  obtain ⟨t2, a1, b1⟩ := (W.forget (L := L) (fun q hq => Nat.le_trans hsE (hL' q hq)) (kk t.heap hz' hP' hfr)) T' g1 XX'
  exact ⟨t2, go t2 a1, b1⟩
def lw_P (b : Addr) (xs : List Int32) (args : Array Value) (s : State) : Prop := args = #[.ref b] ∧ s.IntsAt b xs ∧ xs.length ≤ 384 ∧ (Jvm.Cond.and given_1 narrow_1).before args s = true
/-- what holds at the law's entry: the machine, the code, the tables' words (any of lw_tbl by 'hts w (by decide +kernel)'), the script of L ints xs at the cell b, what the Statement gives of the start (any of its parts by flat_of_before) -/
def lw_At (p : Program) (s : State) (m : MethodId) (meth : Method) (c : Code) (b L : Nat) (xs : Nat → Int32) : Prop :=
  p.tables.exec = Jvm.exec ∧ c.code = code ∧ meth.sig.returnType = ret ∧ c.maxLocals = 4 ∧ s.vm.findClass R_law = some m.cls ∧ (∀ w ∈ lw_tbl, w.before #[Value.ref b] s = true) ∧ va_X b L xs s s.heap ∧ b < s.heap.size ∧ meth.locks = false ∧ (Jvm.Cond.and given_1 narrow_1).before #[Value.ref b] s = true
theorem whole_start {p : Program} {e : Env} {s : State} {m : MethodId} {below : List Frame} {meth : Method} {c : Code} (l : Launch) (hflags : l.flags = flags0) {b L : Nat} {xs : Nat → Int32} (hL : L ≤ 384) (C0 : lw_At p s m meth c b L xs) : W p l e room_1 s m #[Value.ref b] below meth c s.heap [] 0 0 (lw_Z below #[Value.ref b] s) (entryFrame m ([Value.ref b] : List Value).toArray 4) := by
  obtain ⟨hx, hb, hr, hml, hown, hts, hX, hbl, hlocks, hgv⟩ := id C0
  have htT : ∀ w ∈ tbT, w.before #[Value.ref b] s = true := fun w hw => hts w (tb_sub hw)
  obtain ⟨c0, i0, hn0⟩ := u_known (C := RX0) (T := TX0) (N := 12) (n := 12) htT iX0 (hts _ wn_0)
  obtain ⟨c1, i1, hn1⟩ := u_known (C := RX1) (T := TX1) (N := 14) (n := 14) htT iX1 (hts _ wn_1)
  obtain ⟨c2, i2, hn2⟩ := u_known (C := RX2) (T := TX2) (N := 5) (n := 5) htT iX2 (hts _ wn_2)
  obtain ⟨c3, i3, hn3⟩ := u_known (C := RX3) (T := TX3) (N := 2) (n := 2) htT iX3 (hts _ wn_3)
  obtain ⟨c4, i4, hn4⟩ := u_known (C := RX4) (T := TX4) (N := 8) (n := 8) htT iX4 (hts _ wn_4)
  obtain ⟨c5, i5, hn5⟩ := u_known (C := RX5) (T := TX5) (N := 3) (n := 3) htT iX5 (hts _ wn_5)
  obtain ⟨c6, i6, hn6⟩ := u_known (C := RX6) (T := TX6) (N := 4) (n := 4) htT iX6 (hts _ wn_6)
  obtain ⟨c7, i7, hn7⟩ := u_known (C := RX7) (T := TX7) (N := 4) (n := 4) htT iX7 (hts _ wn_7)
  obtain ⟨c8, i8, hn8⟩ := u_known (C := RX8) (T := TX8) (N := 5) (n := 5) htT iX8 (hts _ wn_8)
  obtain ⟨c9, i9, hn9⟩ := u_known (C := RX9) (T := TX9) (N := 18) (n := 18) htT iX9 (hts _ wn_9)
  obtain ⟨c10, i10, hn10⟩ := u_known (C := RX10) (T := TX10) (N := 8) (n := 8) htT iX10 (hts _ wn_10)
  obtain ⟨c11, i11, hn11⟩ := u_known (C := RX11) (T := TX11) (N := 27) (n := 27) htT iX11 (hts _ wn_11)
  obtain ⟨G, hG⟩ : ∃ G : va_G, ∀ (k : Nat) (q : vw_C), cls[k]? = some q → u_Kn s q.1 q.2.1 q.2.2 (G.1 k) (G.2 k) := by
    refine ⟨(fun k => if k = 0 then c0 else if k = 1 then c1 else if k = 2 then c2 else if k = 3 then c3 else if k = 4 then c4 else if k = 5 then c5 else if k = 6 then c6 else if k = 7 then c7 else if k = 8 then c8 else if k = 9 then c9 else if k = 10 then c10 else c11, fun k => if k = 0 then i0 else if k = 1 then i1 else if k = 2 then i2 else if k = 3 then i3 else if k = 4 then i4 else if k = 5 then i5 else if k = 6 then i6 else if k = 7 then i7 else if k = 8 then i8 else if k = 9 then i9 else if k = 10 then i10 else i11), ?_⟩
    intro k q hq
    match k, hq with
    | 0, hq => cases hq; exact hn0
    | 1, hq => cases hq; exact hn1
    | 2, hq => cases hq; exact hn2
    | 3, hq => cases hq; exact hn3
    | 4, hq => cases hq; exact hn4
    | 5, hq => cases hq; exact hn5
    | 6, hq => cases hq; exact hn6
    | 7, hq => cases hq; exact hn7
    | 8, hq => cases hq; exact hn8
    | 9, hq => cases hq; exact hn9
    | 10, hq => cases hq; exact hn10
    | 11, hq => cases hq; exact hn11
    | k + 12, hq => simp [cls] at hq
  obtain ⟨aI0, hI1, hI2⟩ := arr_i (hts _ wa_int)
  obtain ⟨aB0, hB1, hB2⟩ := arr_b (hts _ wa_byte)
  obtain ⟨ao3, ho3, hr3⟩ := arr_o (hts _ wo_7)
  obtain ⟨ao6, ho6, hr6⟩ := arr_o (hts _ wo_1)
  obtain ⟨ao10, ho10, hr10⟩ := arr_o (hts _ wo_2)
  obtain ⟨ao12, ho12, hr12⟩ := arr_o (hts _ wo_6)
  obtain ⟨ao15, ho15, hr15⟩ := arr_o (hts _ wo_0)
  obtain ⟨ao19, ho19, hr19⟩ := arr_o (hts _ wo_5)
  obtain ⟨cT, hT0⟩ : ∃ cT : Nat → ClassId, cT = fun k => if k = 100 then aI0 else if k = 101 then aB0 else if k = 3 then ao3 else if k = 6 then ao6 else if k = 10 then ao10 else if k = 12 then ao12 else if k = 15 then ao15 else ao19 := ⟨_, rfl⟩
  have hT100 : cT 100 = aI0 := by rw [hT0]; rfl
  have hT101 : cT 101 = aB0 := by rw [hT0]; rfl
  have hT3 : cT 3 = ao3 := by rw [hT0]; rfl
  have hT6 : cT 6 = ao6 := by rw [hT0]; rfl
  have hT10 : cT 10 = ao10 := by rw [hT0]; rfl
  have hT12 : cT 12 = ao12 := by rw [hT0]; rfl
  have hT15 : cT 15 = ao15 := by rw [hT0]; rfl
  have hT19 : cT 19 = ao19 := by rw [hT0]; rfl
  have hKt : ∀ (k : Nat) (q : ClassId × FieldType), ([(cT 100, .int), (cT 101, .byte), (cT 3, .object RX7), (cT 6, .object RX1), (cT 10, .object RX2), (cT 12, .object RX6), (cT 15, .object RX0), (cT 19, .object RX5)] : List (ClassId × FieldType))[k]? = some q → ArrOfT s q.1 q.2 ∧ va_RA s q.1 q.2 := by
    rw [hT100, hT101, hT3, hT6, hT10, hT12, hT15, hT19]
    intro k q hq
    match k, hq with
    | 0, hq => cases hq; exact ⟨hI1, hI2⟩
    | 1, hq => cases hq; exact ⟨hB1, hB2⟩
    | 2, hq => cases hq; exact ⟨ho3, hr3⟩
    | 3, hq => cases hq; exact ⟨ho6, hr6⟩
    | 4, hq => cases hq; exact ⟨ho10, hr10⟩
    | 5, hq => cases hq; exact ⟨ho12, hr12⟩
    | 6, hq => cases hq; exact ⟨ho15, hr15⟩
    | 7, hq => cases hq; exact ⟨ho19, hr19⟩
    | k + 8, hq => simp at hq
  have hAO : AOs s := ⟨va_AO.of (hts _ wo_7), va_AO.of (hts _ wo_1), va_AO.of (hts _ wo_2), va_AO.of (hts _ wo_6), va_AO.of (hts _ wo_0), va_AO.of (hts _ wo_5)⟩
  have hAn : ∀ a : Nat, a < s.heap.size → ¬ (fun q : Nat => s.heap.size ≤ q) a := fun a ha => Nat.not_le.mpr ha
  obtain ⟨tA, zA1, zA2⟩ := tb_ABOVE (A := fun q => s.heap.size ≤ q) hts hgv hAn
  obtain ⟨tB, zB1, zB2⟩ := tb_BODIES (A := fun q => s.heap.size ≤ q) hts hgv hAn
  have lF : XF.length = 382 := by decide +kernel
  have lK : XK.length = 20 := by decide +kernel
  obtain ⟨E, hE⟩ : ∃ E : EL, E = (G, cT, s.heap.size, s.heap.size + 382, tA, tB, b) := ⟨_, rfl⟩
  have a0 : ∀ a, Ast (e0 E) a → s.heap.size ≤ a ∧ a < s.heap.size + 382 := fun a h => by
    subst hE
    have := ast_in madeF h
    rw [lF] at this
    exact this
  have a1 : ∀ a, Ast (e1 E) a → s.heap.size + 382 ≤ a := fun a h => by
    subst hE
    exact (ast_in madeK h).1
  have hKE : va_K G cls [(cT 100, .int), (cT 101, .byte), (cT 3, .object RX7), (cT 6, .object RX1), (cT 10, .object RX2), (cT 12, .object RX6), (cT 15, .object RX0), (cT 19, .object RX5)] s := ⟨hG, hKt⟩
  have n27 : okR (27, 0, 0) = false := rfl
  have n28 : okR (28, 0, 0) = false := rfl
  have C : CxL E L xs p s m meth c := by
    refine ⟨hx, hb, hml, hown, ?_, hr, hlocks, ?_, ?_, ⟨?_, ?_, ?_, ?_⟩, ⟨?_, ?_, ?_, ?_⟩, ?_, ?_, fun a h => (a0 a h).1, fun a h => by have := a1 a h; omega, fun a h h' => by have := (a0 a h).2; have := a1 a h'; omega, hL⟩
    · subst hE; exact hts
    · subst hE; exact hX
    · subst hE; exact hKE
    · have : (e0 E).2.1 (27, 0, 0) = tA := by subst hE; rfl
      rw [this]; exact zA1.narrow fun q h => (a0 q h).1
    · have : (e0 E).2.1 (27, 0, 0) = tA := by subst hE; rfl
      rw [this]; exact zA2.narrow fun q h => (a0 q h).1
    · have : (e0 E).2.1 (28, 0, 0) = tB := by subst hE; rfl
      rw [this]; exact zB1.narrow fun q h => (a0 q h).1
    · have : (e0 E).2.1 (28, 0, 0) = tB := by subst hE; rfl
      rw [this]; exact zB2.narrow fun q h => (a0 q h).1
    · have : (e1 E).2.1 (27, 0, 0) = tA := by subst hE; rfl
      rw [this]; exact zA1.narrow fun q h => by have := a1 q h; omega
    · have : (e1 E).2.1 (27, 0, 0) = tA := by subst hE; rfl
      rw [this]; exact zA2.narrow fun q h => by have := a1 q h; omega
    · have : (e1 E).2.1 (28, 0, 0) = tB := by subst hE; rfl
      rw [this]; exact zB1.narrow fun q h => by have := a1 q h; omega
    · have : (e1 E).2.1 (28, 0, 0) = tB := by subst hE; rfl
      rw [this]; exact zB2.narrow fun q h => by have := a1 q h; omega
    · subst hE; exact eok_of Ls_nodup0 madeF
    · subst hE; exact eok_of Ls_nodup1 madeK
  have hl := lv_entry ([.ref b]) (n := 4) (Nat.le_of_ble_eq_true rfl)
  rw [lg_entry_eq]
  generalize (lg_sl [Value.ref b] ++ List.replicate (4 - (lg_sl [Value.ref b]).length) Slot.unset).toArray = ls at hl ⊢
  refine law_make (G, cT, s.heap.size) hx hb hml hown hts hKE hAO (Nat.le_refl _) ck10 (by decide) rfl blF_ok wl_7 wn_10 wz_F (kAF l 0 _ _ XF_made) iAF rfl wi_9 wm_9 (by decide) dl_0 dl_3 dl_4 (by omega) (by omega) rfl hl.1 fun H1 z1 P1 o1 => ?_
  refine lv_astore_n hx hb dl_7 (i := 1) rfl hl (by decide) rfl fun ls1 hl1 => ?_
  refine law_make (G, cT, s.heap.size + 382) hx hb hml hown hts hKE hAO (Nat.le_add_right _ _) ck11 (by decide) rfl blK_ok wl_10 wn_11 wz_K (kAK l 0 _ _ XK_made) iAK rfl wi_12 wm_12 (by decide) dl_8 dl_11 dl_12 (by omega) (by omega) (by rw [z1, lF]) hl1.1 fun H2 z2 P2 o2 => ?_
  refine lv_astore_n hx hb dl_15 (i := 2) rfl hl1 (by decide) rfl fun ls2 hl2 => ?_
  refine lv_iconst hx hb dl_16 (v := 0) (by decide) ?_
  refine lv_istore_n hx hb dl_17 (i := 3) rfl hl2 (by decide) rfl fun ls3 hl3 => ?_
  have hz1 : H1.size = s.heap.size + 382 := by rw [z1, lF]
  have P1' : va_P G cls (wsA s.heap.size cT XF) H2 := P1.kept fun k x hx' => o2 x.1 ((P1 k x hx').lt)
  have hS : va_S (fun a => s.heap.size ≤ a) s.heap H2 [] := ⟨by rw [z2]; show s.heap.size ≤ s.heap.size + 382 + _; omega, fun q h1 _ => by rw [o2 q (by omega)]; exact o1 q h1, fun q hq => by cases hq⟩
  have go := law_loop (below := below) (l := l) (e := e) C 64 0 M0 M0 (by omega) (by omega) rel0
  have hW := go H2 ls3 (by subst hE; exact born madeF P1') (by subst hE; exact born madeK P2) hS okM0 okM0 (by subst hE; exact lv_sub hl3 [3, 2, 1, 0] rfl)
  subst hE
  exact hW
set_option maxHeartbeats 4000000 in
theorem lw_walk (l : Launch) (hflags : l.flags = flags0) (b : Addr) (xs : List Int32) : MetFree l x (headSpec (Jvm.Cond.code x code maxLocals ret :: tables_1) room_1) (lw_P b xs) (fun _ _ _ _ _ => True) lw_Q := by
  refine MetFree.of_bodyS (code := code) (maxLocals := maxLocals) (ret := ret) (by decide) ?_ ?_
  · intro args s m h hn
    obtain ⟨meth, c, h1, h2, h3, h4, h5, h6, -, -⟩ := Cond.code_spec hn (atoms_spec (ws := Jvm.Cond.code x code maxLocals ret :: tables_1) h _ List.mem_cons_self)
    exact ⟨meth, c, h1, h2, h3, h4, h5, h6⟩
  · intro p e s m args below meth c s₁ B hml0 hP _
    obtain ⟨rfl, hx, hbd, hgv⟩ := hP
    obtain ⟨scr, harrAt, hlist, hof, hsmall⟩ := hx
    obtain ⟨hcb, hkn, -, -⟩ := State.arrayAt?_spec harrAt
    have hown : s.vm.findClass R_law = some m.cls := findClass_of_methodNamed B.named
    have hts0 : ∀ c ∈ (Jvm.Cond.code x code maxLocals ret :: tables_1), c.before #[Value.ref b] s = true := atoms_spec (ws := Jvm.Cond.code x code maxLocals ret :: tables_1) B.pre
    have hts : ∀ w ∈ lw_tbl, w.before #[Value.ref b] s = true := k2_hts_sels lw_privs (fun w hw => hts0 w (List.mem_cons_of_mem _ hw)) lw_privs_ok
    have hml : c.maxLocals = 4 := B.maxLocals_eq (hts0 _ List.mem_cons_self)
    have X₀ : Stand p l e room_1 s m #[Value.ref b] below meth c s₁ [] 0 0 := Stand.of_body B
    have hh0 : s₁.heap = s.heap := by rw [B.state]; rfl
    have hsz : scr.slots.size = xs.length := by rw [← Array.length_toList, hlist, List.length_map]
    have hval : ∀ j : Nat, j < xs.length → scr.slots[j]? = some (.int (xs.getD j 0)) := fun j hj => by
      rw [← Array.getElem?_toList, hlist]
      simp [hj]
    have hbl : b < s.heap.size := (Array.getElem?_eq_some_iff.mp hcb).1
    have hX : va_X b xs.length (fun j => xs.getD j 0) s s.heap := ⟨scr, hcb, hof, hkn, hsz, hval⟩
    have K : W p l e room_1 s m #[Value.ref b] below meth c s₁.heap [] 0 0 (lw_Z below #[Value.ref b] s) (entryFrame m ([Value.ref b] : List Value).toArray 4) := by
      rw [hh0]
      exact whole_start l hflags hbd ⟨B.exec, B.bytes, B.returns, hml, hown, hts, hX, hbl, B.notSynchronized, hgv⟩
    obtain ⟨t, a1, o, b1, b2, b3⟩ := K s₁ rfl X₀
    exact ⟨t, o, a1, b1, b2, b3⟩
theorem lw_pre_spec {args : Array Value} {s : State} (h : (Jvm.Cond.and given_1 narrow_1).before args s = true) (hr : rest_1_c.before args s = true) : ∃ (b : Addr) (xs : List Int32), lw_P b xs args s := by
  have hs := flat_of_before _ h
  have hq := flat_of_before _ hr
  have hc : (Cond.count 1).before args s = true := hs _ (by decide +kernel)
  have harr : (Cond.arrayOf (.arg 0) .int).before args s = true := hs _ (by decide +kernel)
  have hle : (Cond.le (.length (.arg 0)) (.int 384)).before args s = true := hs _ (by decide +kernel)
  have hlen : (Cond.isInt (.length (.arg 0))).before args s = true := hq _ (by decide +kernel)
  have hall : (Cond.all (.arg 0) (.isInt (.elem (.arg 0) (.index 0)))).before args s = true := hq _ (by decide +kernel)
  obtain ⟨b, xs, hb, hx⟩ := State.ints_of_pre rfl harr hlen hall
  have hsm : xs.length < 2 ^ 31 := hx.choose_spec.2.2.2
  have hev : (Term.length (.arg 0)).eval args s none [] s = some (.int xs.length.toInt32) := hx.length_eval hb
  have hv := Cond.le_ints hev (show (Term.int 384).eval args s none [] s = some (.int 384) from rfl)
  have hd : xs.length.toInt32 ≤ 384 := by
    simpa [Cond.before, Cond.holds, hv] using hle
  have hN : xs.length ≤ 384 := (Int32.ofNat_le_ofNat hsm (by decide)).mp (show Int32.ofNat xs.length ≤ Int32.ofNat 384 from hd)
  exact ⟨b, xs, Cond.one_arg hc (show args[0]? = some (.ref b) from hb), hx, hN, h⟩
theorem lw_comes (l : Launch) (hflags : l.flags = flags0) : Comes l x (Jvm.Cond.code x code maxLocals ret :: tables_1) room_1 (fun tb e args s => Calls_1 tb e args s ∧ rest_1 tb e args s ∧ Pre_1 tb e args s)
    (fun _ _ args s o t => lw_Q args s o t) := by
  intro p e ha hc hk s m args below hf hfit hheap happ hpre
  obtain ⟨b, xs, hP⟩ := lw_pre_spec hpre.2.2 hpre.2.1
  obtain ⟨k, o, h1, h2, h3, hQ⟩ := lw_walk l hflags b xs p e ha hc hk s m args below hf ((Spec.applies_iff_loose hf).mp happ).1 hP trivial
  exact ⟨k, o, h1, h2, h3, hQ⟩
theorem lw_frame {s t : State} {o : Outcome} {args : Array Value} (h : Framed s o t [] 600000 7302250) :
    Framed s o t (fieldLocs frame_1_writes args s ++ arrayLocs frame_1_arrays args s ++ staticLocs frame_1_statics s) 600000 7302250 := h
theorem lw_limb (L : Cond) (hL : ∀ (args : Array Value) (s t : State), L.after args s (.returned (some (.int 1))) t = true) :
    ArmFor flags0 classFile x code maxLocals ret World_1 tables_1 room_1 Calls_1 rest_1 Pre_1
      (fun tb e a s o t => postC L tb e a s o t ∧ Framed s o t (fieldLocs frame_1_writes a s ++ arrayLocs frame_1_arrays a s ++ staticLocs frame_1_statics s) 600000 7302250) := by
  intro l hflags _ _ p e ha hc hk s m args below hf hfit hheap happ hpre
  obtain ⟨k, o, h1, h2, h3, rfl, hF⟩ := lw_comes l hflags p e ha hc hk s m args below hf hfit hheap happ hpre
  exact ⟨k, _, h1, h2, h3, hL args s _, lw_frame hF⟩
theorem i_vc : Claimed_1_1 ∧ Claimed_1_2 := ⟨lw_limb limb_1_1 (fun args s t => by simp [limb_1_1, Cond.after, Cond.holds, Cond.value]), lw_limb limb_1_2 (fun args s t => Cond.after_iff.mpr (by
  first | (rw [show limb_1_2 = Cond.eq .result (.int 1) from rfl, Cond.eq_ints (x := 1) (y := 1) rfl rfl]; simp; done) | (simp [limb_1_2, Cond.value, Term.eval]; done)))⟩
