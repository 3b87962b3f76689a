/-! ===== the law: words of its start ===== -/
theorem lsub_1 {w : Cond} (h : w ∈ tables_1_1) : w ∈ lw_tbl := List.mem_append_right _ (show w ∈ tables_1 from List.mem_append_left _ h)
theorem lsub_2 {w : Cond} (h : w ∈ tables_1_2) : w ∈ lw_tbl := List.mem_append_right _ (show w ∈ tables_1 from List.mem_append_right _ (List.mem_append_left _ h))
theorem lsub_3 {w : Cond} (h : w ∈ tables_1_3) : w ∈ lw_tbl := List.mem_append_right _ (show w ∈ tables_1 from List.mem_append_right _ (List.mem_append_right _ (List.mem_append_left _ h)))
theorem lsub_4 {w : Cond} (h : w ∈ tables_1_4) : w ∈ lw_tbl := List.mem_append_right _ (show w ∈ tables_1 from List.mem_append_right _ (List.mem_append_right _ (List.mem_append_right _ (List.mem_append_left _ h))))
theorem lsub_5 {w : Cond} (h : w ∈ tables_1_5) : w ∈ lw_tbl := List.mem_append_right _ (show w ∈ tables_1 from List.mem_append_right _ (List.mem_append_right _ (List.mem_append_right _ (List.mem_append_right _ (List.mem_append_left _ h)))))
theorem lsub_6 {w : Cond} (h : w ∈ tables_1_6) : w ∈ lw_tbl := List.mem_append_right _ (show w ∈ tables_1 from List.mem_append_right _ (List.mem_append_right _ (List.mem_append_right _ (List.mem_append_right _ (List.mem_append_right _ (List.mem_append_left _ h))))))
theorem lsub_7 {w : Cond} (h : w ∈ tables_1_7) : w ∈ lw_tbl := List.mem_append_right _ (show w ∈ tables_1 from List.mem_append_right _ (List.mem_append_right _ (List.mem_append_right _ (List.mem_append_right _ (List.mem_append_right _ (List.mem_append_right _ (List.mem_append_left _ h)))))))
theorem lsub_8 {w : Cond} (h : w ∈ tables_1_8) : w ∈ lw_tbl := List.mem_append_right _ (show w ∈ tables_1 from List.mem_append_right _ (List.mem_append_right _ (List.mem_append_right _ (List.mem_append_right _ (List.mem_append_right _ (List.mem_append_right _ (List.mem_append_right _ (h))))))))
set_option maxRecDepth 100000 in
theorem wn_0 : Cond.instantiable RX0 12 ∈ lw_tbl := lsub_1 (List.mem_of_getElem? (i := 223) rfl)
set_option maxRecDepth 100000 in
theorem wn_1 : Cond.instantiable RX1 14 ∈ lw_tbl := lsub_1 (List.mem_of_getElem? (i := 97) rfl)
set_option maxRecDepth 100000 in
theorem wn_2 : Cond.instantiable RX2 5 ∈ lw_tbl := lsub_1 (List.mem_of_getElem? (i := 170) rfl)
set_option maxRecDepth 100000 in
theorem wn_3 : Cond.instantiable RX3 2 ∈ lw_tbl := lsub_2 (List.mem_of_getElem? (i := 174) rfl)
set_option maxRecDepth 100000 in
theorem wn_4 : Cond.instantiable RX4 8 ∈ lw_tbl := lsub_1 (List.mem_of_getElem? (i := 41) rfl)
set_option maxRecDepth 100000 in
theorem wn_5 : Cond.instantiable RX5 3 ∈ lw_tbl := lsub_2 (List.mem_of_getElem? (i := 127) rfl)
set_option maxRecDepth 100000 in
theorem wn_6 : Cond.instantiable RX6 4 ∈ lw_tbl := lsub_1 (List.mem_of_getElem? (i := 200) rfl)
set_option maxRecDepth 100000 in
theorem wn_7 : Cond.instantiable RX7 4 ∈ lw_tbl := lsub_1 (List.mem_of_getElem? (i := 73) rfl)
set_option maxRecDepth 100000 in
theorem wn_8 : Cond.instantiable RX8 5 ∈ lw_tbl := lsub_2 (List.mem_of_getElem? (i := 150) rfl)
set_option maxRecDepth 100000 in
theorem wn_9 : Cond.instantiable RX9 18 ∈ lw_tbl := lsub_1 (List.mem_of_getElem? (i := 25) rfl)
set_option maxRecDepth 100000 in
theorem wn_10 : Cond.instantiable RX10 8 ∈ lw_tbl := lsub_1 (List.mem_of_getElem? (i := 17) rfl)
set_option maxRecDepth 100000 in
theorem wn_11 : Cond.instantiable RX11 27 ∈ lw_tbl := lsub_5 (List.mem_of_getElem? (i := 181) rfl)
set_option maxRecDepth 100000 in
theorem wl_7 : Cond.classLink R_law 7 "FreeLances" ∈ lw_tbl := lsub_1 (List.mem_of_getElem? (i := 16) rfl)
set_option maxRecDepth 100000 in
theorem wl_10 : Cond.classLink R_law 10 "FreeLancesModel" ∈ lw_tbl := lsub_5 (List.mem_of_getElem? (i := 180) rfl)
set_option maxRecDepth 100000 in
theorem wm_9 : Cond.methodLink R_law 9 ⟨"FreeLances", "<init>", "()V"⟩ ∈ lw_tbl := lsub_1 (List.mem_of_getElem? (i := 18) rfl)
set_option maxRecDepth 100000 in
theorem wi_9 : Cond.instanceMethod ⟨"FreeLances", "<init>", "()V"⟩ ∈ lw_tbl := lsub_1 (List.mem_of_getElem? (i := 19) rfl)
set_option maxRecDepth 100000 in
theorem wm_12 : Cond.methodLink R_law 12 ⟨"FreeLancesModel", "<init>", "()V"⟩ ∈ lw_tbl := lsub_5 (List.mem_of_getElem? (i := 182) rfl)
set_option maxRecDepth 100000 in
theorem wi_12 : Cond.instanceMethod ⟨"FreeLancesModel", "<init>", "()V"⟩ ∈ lw_tbl := lsub_5 (List.mem_of_getElem? (i := 183) rfl)
set_option maxRecDepth 100000 in
theorem ws_ABOVE : Cond.laysStatic "FreeLances" "ABOVE" "[I" ∈ lw_tbl := lsub_4 (List.mem_of_getElem? (i := 42) rfl)
set_option maxRecDepth 100000 in
theorem ws_BODIES : Cond.laysStatic "FreeLances" "BODIES" "[I" ∈ lw_tbl := lsub_5 (List.mem_of_getElem? (i := 88) rfl)
set_option maxRecDepth 100000 in
theorem wz_F : Cond.initialized "FreeLances" ∈ lw_tbl := lsub_1 (List.mem_of_getElem? (i := 1) rfl)
set_option maxRecDepth 100000 in
theorem wz_K : Cond.initialized "FreeLancesModel" ∈ lw_tbl := lsub_1 (List.mem_of_getElem? (i := 12) rfl)
set_option maxRecDepth 100000 in
theorem wa_int : Cond.arrayClass .int ∈ lw_tbl := lsub_1 (List.mem_of_getElem? (i := 71) rfl)
set_option maxRecDepth 100000 in
theorem wa_byte : Cond.arrayClass .byte ∈ lw_tbl := lsub_1 (List.mem_of_getElem? (i := 72) rfl)
set_option maxRecDepth 100000 in
theorem wo_7 : Cond.arrayOver (.object RX7) ∈ lw_tbl := lsub_1 (List.mem_of_getElem? (i := 31) rfl)
set_option maxRecDepth 100000 in
theorem wo_1 : Cond.arrayOver (.object RX1) ∈ lw_tbl := lsub_1 (List.mem_of_getElem? (i := 33) rfl)
set_option maxRecDepth 100000 in
theorem wo_2 : Cond.arrayOver (.object RX2) ∈ lw_tbl := lsub_1 (List.mem_of_getElem? (i := 35) rfl)
set_option maxRecDepth 100000 in
theorem wo_6 : Cond.arrayOver (.object RX6) ∈ lw_tbl := lsub_1 (List.mem_of_getElem? (i := 37) rfl)
set_option maxRecDepth 100000 in
theorem wo_0 : Cond.arrayOver (.object RX0) ∈ lw_tbl := lsub_1 (List.mem_of_getElem? (i := 39) rfl)
set_option maxRecDepth 100000 in
theorem wo_5 : Cond.arrayOver (.object RX5) ∈ lw_tbl := lsub_2 (List.mem_of_getElem? (i := 126) rfl)
theorem tb_ABOVE {b : Nat} {s : State} (hts : ∀ w ∈ lw_tbl, w.before #[Value.ref b] s = true) (hgv : (Jvm.Cond.and given_1 narrow_1).before #[Value.ref b] s = true) {A : Nat → Prop} (hA : ∀ a : Nat, a < s.heap.size → ¬ A a) : ∃ t : Nat, va_Z RX10 "ABOVE" "[I" (.ref t) A s s.heap ∧ va_T .int t 7 (fun k => .int (tabA k)) A s s.heap := by
  have hs := flat_of_before _ hgv
  have ha : (Cond.arrayOf (.static "FreeLances" "ABOVE" "[I") .int).before #[Value.ref b] s = true := hs _ (List.mem_of_getElem? (i := 5) (by decide +kernel))
  have hn : (Cond.eq (.length (.static "FreeLances" "ABOVE" "[I")) (.int 7)).before #[Value.ref b] s = true := hs _ (List.mem_of_getElem? (i := 6) (by decide +kernel))
  have h0 : (Cond.eq (.elem (.static "FreeLances" "ABOVE" "[I") (.int 0)) (.int (-1))).before #[Value.ref b] s = true := hs _ (List.mem_of_getElem? (i := 7) (by decide +kernel))
  have h1 : (Cond.eq (.elem (.static "FreeLances" "ABOVE" "[I") (.int 1)) (.int 0)).before #[Value.ref b] s = true := hs _ (List.mem_of_getElem? (i := 8) (by decide +kernel))
  have h2 : (Cond.eq (.elem (.static "FreeLances" "ABOVE" "[I") (.int 2)) (.int 1)).before #[Value.ref b] s = true := hs _ (List.mem_of_getElem? (i := 9) (by decide +kernel))
  have h3 : (Cond.eq (.elem (.static "FreeLances" "ABOVE" "[I") (.int 3)) (.int 0)).before #[Value.ref b] s = true := hs _ (List.mem_of_getElem? (i := 10) (by decide +kernel))
  have h4 : (Cond.eq (.elem (.static "FreeLances" "ABOVE" "[I") (.int 4)) (.int 0)).before #[Value.ref b] s = true := hs _ (List.mem_of_getElem? (i := 11) (by decide +kernel))
  have h5 : (Cond.eq (.elem (.static "FreeLances" "ABOVE" "[I") (.int 5)) (.int 0)).before #[Value.ref b] s = true := hs _ (List.mem_of_getElem? (i := 12) (by decide +kernel))
  have h6 : (Cond.eq (.elem (.static "FreeLances" "ABOVE" "[I") (.int 6)) (.int 0)).before #[Value.ref b] s = true := hs _ (List.mem_of_getElem? (i := 13) (by decide +kernel))
  obtain ⟨t, h1t, h2t⟩ := va_Tof (N := 7) (f := fun k => .int (tabA k)) (A := A) (by decide) ha (va_eqt hn) (fun j hj => by
    match j, hj with
    | 0, _ => exact va_eqt h0
    | 1, _ => exact va_eqt h1
    | 2, _ => exact va_eqt h2
    | 3, _ => exact va_eqt h3
    | 4, _ => exact va_eqt h4
    | 5, _ => exact va_eqt h5
    | 6, _ => exact va_eqt h6
    | j + 7, hj => exact absurd hj (by omega)) hA
  exact ⟨t, va_Zof (hts _ ws_ABOVE) (hts _ wz_F) h1t hA, h2t⟩
theorem tb_BODIES {b : Nat} {s : State} (hts : ∀ w ∈ lw_tbl, w.before #[Value.ref b] s = true) (hgv : (Jvm.Cond.and given_1 narrow_1).before #[Value.ref b] s = true) {A : Nat → Prop} (hA : ∀ a : Nat, a < s.heap.size → ¬ A a) : ∃ t : Nat, va_Z RX10 "BODIES" "[I" (.ref t) A s s.heap ∧ va_T .int t 28 (fun k => .int (tabB k)) A s s.heap := by
  have hs := flat_of_before _ hgv
  have ha : (Cond.arrayOf (.static "FreeLances" "BODIES" "[I") .int).before #[Value.ref b] s = true := hs _ (List.mem_of_getElem? (i := 15) (by decide +kernel))
  have hn : (Cond.eq (.length (.static "FreeLances" "BODIES" "[I")) (.int 28)).before #[Value.ref b] s = true := hs _ (List.mem_of_getElem? (i := 16) (by decide +kernel))
  have h0 : (Cond.eq (.elem (.static "FreeLances" "BODIES" "[I") (.int 0)) (.int 10)).before #[Value.ref b] s = true := hs _ (List.mem_of_getElem? (i := 17) (by decide +kernel))
  have h1 : (Cond.eq (.elem (.static "FreeLances" "BODIES" "[I") (.int 1)) (.int 11)).before #[Value.ref b] s = true := hs _ (List.mem_of_getElem? (i := 18) (by decide +kernel))
  have h2 : (Cond.eq (.elem (.static "FreeLances" "BODIES" "[I") (.int 2)) (.int 12)).before #[Value.ref b] s = true := hs _ (List.mem_of_getElem? (i := 19) (by decide +kernel))
  have h3 : (Cond.eq (.elem (.static "FreeLances" "BODIES" "[I") (.int 3)) (.int 13)).before #[Value.ref b] s = true := hs _ (List.mem_of_getElem? (i := 20) (by decide +kernel))
  have h4 : (Cond.eq (.elem (.static "FreeLances" "BODIES" "[I") (.int 4)) (.int 0)).before #[Value.ref b] s = true := hs _ (List.mem_of_getElem? (i := 21) (by decide +kernel))
  have h5 : (Cond.eq (.elem (.static "FreeLances" "BODIES" "[I") (.int 5)) (.int 20)).before #[Value.ref b] s = true := hs _ (List.mem_of_getElem? (i := 22) (by decide +kernel))
  have h6 : (Cond.eq (.elem (.static "FreeLances" "BODIES" "[I") (.int 6)) (.int 21)).before #[Value.ref b] s = true := hs _ (List.mem_of_getElem? (i := 23) (by decide +kernel))
  have h7 : (Cond.eq (.elem (.static "FreeLances" "BODIES" "[I") (.int 7)) (.int 0)).before #[Value.ref b] s = true := hs _ (List.mem_of_getElem? (i := 24) (by decide +kernel))
  have h8 : (Cond.eq (.elem (.static "FreeLances" "BODIES" "[I") (.int 8)) (.int 31)).before #[Value.ref b] s = true := hs _ (List.mem_of_getElem? (i := 25) (by decide +kernel))
  have h9 : (Cond.eq (.elem (.static "FreeLances" "BODIES" "[I") (.int 9)) (.int 0)).before #[Value.ref b] s = true := hs _ (List.mem_of_getElem? (i := 26) (by decide +kernel))
  have h10 : (Cond.eq (.elem (.static "FreeLances" "BODIES" "[I") (.int 10)) (.int 30)).before #[Value.ref b] s = true := hs _ (List.mem_of_getElem? (i := 27) (by decide +kernel))
  have h11 : (Cond.eq (.elem (.static "FreeLances" "BODIES" "[I") (.int 11)) (.int 0)).before #[Value.ref b] s = true := hs _ (List.mem_of_getElem? (i := 28) (by decide +kernel))
  have h12 : (Cond.eq (.elem (.static "FreeLances" "BODIES" "[I") (.int 12)) (.int 0)).before #[Value.ref b] s = true := hs _ (List.mem_of_getElem? (i := 29) (by decide +kernel))
  have h13 : (Cond.eq (.elem (.static "FreeLances" "BODIES" "[I") (.int 13)) (.int 40)).before #[Value.ref b] s = true := hs _ (List.mem_of_getElem? (i := 30) (by decide +kernel))
  have h14 : (Cond.eq (.elem (.static "FreeLances" "BODIES" "[I") (.int 14)) (.int 0)).before #[Value.ref b] s = true := hs _ (List.mem_of_getElem? (i := 31) (by decide +kernel))
  have h15 : (Cond.eq (.elem (.static "FreeLances" "BODIES" "[I") (.int 15)) (.int 0)).before #[Value.ref b] s = true := hs _ (List.mem_of_getElem? (i := 32) (by decide +kernel))
  have h16 : (Cond.eq (.elem (.static "FreeLances" "BODIES" "[I") (.int 16)) (.int 51)).before #[Value.ref b] s = true := hs _ (List.mem_of_getElem? (i := 33) (by decide +kernel))
  have h17 : (Cond.eq (.elem (.static "FreeLances" "BODIES" "[I") (.int 17)) (.int 0)).before #[Value.ref b] s = true := hs _ (List.mem_of_getElem? (i := 34) (by decide +kernel))
  have h18 : (Cond.eq (.elem (.static "FreeLances" "BODIES" "[I") (.int 18)) (.int 0)).before #[Value.ref b] s = true := hs _ (List.mem_of_getElem? (i := 35) (by decide +kernel))
  have h19 : (Cond.eq (.elem (.static "FreeLances" "BODIES" "[I") (.int 19)) (.int 50)).before #[Value.ref b] s = true := hs _ (List.mem_of_getElem? (i := 36) (by decide +kernel))
  have h20 : (Cond.eq (.elem (.static "FreeLances" "BODIES" "[I") (.int 20)) (.int 0)).before #[Value.ref b] s = true := hs _ (List.mem_of_getElem? (i := 37) (by decide +kernel))
  have h21 : (Cond.eq (.elem (.static "FreeLances" "BODIES" "[I") (.int 21)) (.int 0)).before #[Value.ref b] s = true := hs _ (List.mem_of_getElem? (i := 38) (by decide +kernel))
  have h22 : (Cond.eq (.elem (.static "FreeLances" "BODIES" "[I") (.int 22)) (.int 60)).before #[Value.ref b] s = true := hs _ (List.mem_of_getElem? (i := 39) (by decide +kernel))
  have h23 : (Cond.eq (.elem (.static "FreeLances" "BODIES" "[I") (.int 23)) (.int 0)).before #[Value.ref b] s = true := hs _ (List.mem_of_getElem? (i := 40) (by decide +kernel))
  have h24 : (Cond.eq (.elem (.static "FreeLances" "BODIES" "[I") (.int 24)) (.int 0)).before #[Value.ref b] s = true := hs _ (List.mem_of_getElem? (i := 41) (by decide +kernel))
  have h25 : (Cond.eq (.elem (.static "FreeLances" "BODIES" "[I") (.int 25)) (.int 0)).before #[Value.ref b] s = true := hs _ (List.mem_of_getElem? (i := 42) (by decide +kernel))
  have h26 : (Cond.eq (.elem (.static "FreeLances" "BODIES" "[I") (.int 26)) (.int 0)).before #[Value.ref b] s = true := hs _ (List.mem_of_getElem? (i := 43) (by decide +kernel))
  have h27 : (Cond.eq (.elem (.static "FreeLances" "BODIES" "[I") (.int 27)) (.int 70)).before #[Value.ref b] s = true := hs _ (List.mem_of_getElem? (i := 44) (by decide +kernel))
  obtain ⟨t, h1t, h2t⟩ := va_Tof (N := 28) (f := fun k => .int (tabB k)) (A := A) (by decide) ha (va_eqt hn) (fun j hj => by
    match j, hj with
    | 0, _ => exact va_eqt h0
    | 1, _ => exact va_eqt h1
    | 2, _ => exact va_eqt h2
    | 3, _ => exact va_eqt h3
    | 4, _ => exact va_eqt h4
    | 5, _ => exact va_eqt h5
    | 6, _ => exact va_eqt h6
    | 7, _ => exact va_eqt h7
    | 8, _ => exact va_eqt h8
    | 9, _ => exact va_eqt h9
    | 10, _ => exact va_eqt h10
    | 11, _ => exact va_eqt h11
    | 12, _ => exact va_eqt h12
    | 13, _ => exact va_eqt h13
    | 14, _ => exact va_eqt h14
    | 15, _ => exact va_eqt h15
    | 16, _ => exact va_eqt h16
    | 17, _ => exact va_eqt h17
    | 18, _ => exact va_eqt h18
    | 19, _ => exact va_eqt h19
    | 20, _ => exact va_eqt h20
    | 21, _ => exact va_eqt h21
    | 22, _ => exact va_eqt h22
    | 23, _ => exact va_eqt h23
    | 24, _ => exact va_eqt h24
    | 25, _ => exact va_eqt h25
    | 26, _ => exact va_eqt h26
    | 27, _ => exact va_eqt h27
    | j + 28, hj => exact absurd hj (by omega)) hA
  exact ⟨t, va_Zof (hts _ ws_BODIES) (hts _ wz_F) h1t hA, h2t⟩
