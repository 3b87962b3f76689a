/-! ===== the constructors, printed by program (wip/whole/gen52.py) ===== -/
set_option maxRecDepth 100000 in
theorem tw116 : Cond.code ⟨"FreeLances", "<init>", "()V"⟩ prog_1_method_1_code 2 none ∈ tbT := sub_1 (List.mem_of_getElem? (i := 20) rfl) rfl
set_option maxRecDepth 100000 in
theorem tw117 : Cond.methodLink "FreeLances" 1 ⟨"java/lang/Object", "<init>", "()V"⟩ ∈ tbT := sub_1 (List.mem_of_getElem? (i := 21) rfl) rfl
set_option maxRecDepth 100000 in
theorem tw118 : Cond.instanceMethod ⟨"java/lang/Object", "<init>", "()V"⟩ ∈ tbT := sub_1 (List.mem_of_getElem? (i := 22) rfl) rfl
set_option maxRecDepth 100000 in
theorem tw119 : Cond.code ⟨"java/lang/Object", "<init>", "()V"⟩ ⟨#[0xb1]⟩ 1 none ∈ tbT := sub_1 (List.mem_of_getElem? (i := 23) rfl) rfl
set_option maxRecDepth 100000 in
theorem tw120 : Cond.classLink "FreeLances" 7 "FreeLances$World" ∈ tbT := sub_1 (List.mem_of_getElem? (i := 24) rfl) rfl
set_option maxRecDepth 100000 in
theorem tw121 : Cond.instantiable "FreeLances$World" 18 ∈ tbT := sub_1 (List.mem_of_getElem? (i := 25) rfl) rfl
set_option maxRecDepth 100000 in
theorem tw122 : Cond.methodLink "FreeLances" 9 ⟨"FreeLances$World", "<init>", "()V"⟩ ∈ tbT := sub_1 (List.mem_of_getElem? (i := 26) rfl) rfl
set_option maxRecDepth 100000 in
theorem tw123 : Cond.instanceMethod ⟨"FreeLances$World", "<init>", "()V"⟩ ∈ tbT := sub_1 (List.mem_of_getElem? (i := 27) rfl) rfl
set_option maxRecDepth 100000 in
theorem tw124 : Cond.code ⟨"FreeLances$World", "<init>", "()V"⟩ prog_11_method_1_code 2 none ∈ tbT := sub_1 (List.mem_of_getElem? (i := 28) rfl) rfl
set_option maxRecDepth 100000 in
theorem tw125 : Cond.methodLink "FreeLances$World" 3 ⟨"java/lang/Object", "<init>", "()V"⟩ ∈ tbT := sub_1 (List.mem_of_getElem? (i := 29) rfl) rfl
set_option maxRecDepth 100000 in
theorem tw126 : Cond.classLink "FreeLances$World" 9 "FreeLances$Town" ∈ tbT := sub_1 (List.mem_of_getElem? (i := 30) rfl) rfl
set_option maxRecDepth 100000 in
theorem tw128 : Cond.classLink "FreeLances$World" 21 "FreeLances$Company" ∈ tbT := sub_1 (List.mem_of_getElem? (i := 32) rfl) rfl
set_option maxRecDepth 100000 in
theorem tw130 : Cond.classLink "FreeLances$World" 27 "FreeLances$Lance" ∈ tbT := sub_1 (List.mem_of_getElem? (i := 34) rfl) rfl
set_option maxRecDepth 100000 in
theorem tw132 : Cond.classLink "FreeLances$World" 33 "FreeLances$Statute" ∈ tbT := sub_1 (List.mem_of_getElem? (i := 36) rfl) rfl
set_option maxRecDepth 100000 in
theorem tw134 : Cond.classLink "FreeLances$World" 39 "FreeLances$Bond" ∈ tbT := sub_1 (List.mem_of_getElem? (i := 38) rfl) rfl
set_option maxRecDepth 100000 in
theorem tw136 : Cond.classLink "FreeLances$World" 52 "FreeLances$Reader" ∈ tbT := sub_1 (List.mem_of_getElem? (i := 40) rfl) rfl
set_option maxRecDepth 100000 in
theorem tw137 : Cond.instantiable "FreeLances$Reader" 8 ∈ tbT := sub_1 (List.mem_of_getElem? (i := 41) rfl) rfl
set_option maxRecDepth 100000 in
theorem tw138 : Cond.methodLink "FreeLances$World" 54 ⟨"FreeLances$Reader", "<init>", "()V"⟩ ∈ tbT := sub_1 (List.mem_of_getElem? (i := 42) rfl) rfl
set_option maxRecDepth 100000 in
theorem tw139 : Cond.instanceMethod ⟨"FreeLances$Reader", "<init>", "()V"⟩ ∈ tbT := sub_1 (List.mem_of_getElem? (i := 43) rfl) rfl
set_option maxRecDepth 100000 in
theorem tw140 : Cond.code ⟨"FreeLances$Reader", "<init>", "()V"⟩ prog_6_method_1_code 1 none ∈ tbT := sub_1 (List.mem_of_getElem? (i := 44) rfl) rfl
set_option maxRecDepth 100000 in
theorem tw141 : Cond.methodLink "FreeLances$Reader" 3 ⟨"java/lang/Object", "<init>", "()V"⟩ ∈ tbT := sub_1 (List.mem_of_getElem? (i := 45) rfl) rfl
set_option maxRecDepth 100000 in
theorem tw167 : Cond.arrayClass .int ∈ tbT := sub_1 (List.mem_of_getElem? (i := 71) rfl) rfl
set_option maxRecDepth 100000 in
theorem tw168 : Cond.arrayClass .byte ∈ tbT := sub_1 (List.mem_of_getElem? (i := 72) rfl) rfl
set_option maxRecDepth 100000 in
theorem tw169 : Cond.instantiable "FreeLances$Town" 4 ∈ tbT := sub_1 (List.mem_of_getElem? (i := 73) rfl) rfl
set_option maxRecDepth 100000 in
theorem tw170 : Cond.methodLinkNest "FreeLances$World" 59 ⟨"FreeLances$Town", "<init>", "()V"⟩ "FreeLances" ∈ tbT := sub_1 (List.mem_of_getElem? (i := 74) rfl) rfl
set_option maxRecDepth 100000 in
theorem tw171 : Cond.instanceMethod ⟨"FreeLances$Town", "<init>", "()V"⟩ ∈ tbT := sub_1 (List.mem_of_getElem? (i := 75) rfl) rfl
set_option maxRecDepth 100000 in
theorem tw172 : Cond.code ⟨"FreeLances$Town", "<init>", "()V"⟩ prog_9_method_1_code 1 none ∈ tbT := sub_1 (List.mem_of_getElem? (i := 76) rfl) rfl
set_option maxRecDepth 100000 in
theorem tw173 : Cond.methodLink "FreeLances$Town" 1 ⟨"java/lang/Object", "<init>", "()V"⟩ ∈ tbT := sub_1 (List.mem_of_getElem? (i := 77) rfl) rfl
set_option maxRecDepth 100000 in
theorem tw193 : Cond.instantiable "FreeLances$Company" 14 ∈ tbT := sub_1 (List.mem_of_getElem? (i := 97) rfl) rfl
set_option maxRecDepth 100000 in
theorem tw194 : Cond.methodLinkNest "FreeLances$World" 60 ⟨"FreeLances$Company", "<init>", "()V"⟩ "FreeLances" ∈ tbT := sub_1 (List.mem_of_getElem? (i := 98) rfl) rfl
set_option maxRecDepth 100000 in
theorem tw195 : Cond.instanceMethod ⟨"FreeLances$Company", "<init>", "()V"⟩ ∈ tbT := sub_1 (List.mem_of_getElem? (i := 99) rfl) rfl
set_option maxRecDepth 100000 in
theorem tw196 : Cond.code ⟨"FreeLances$Company", "<init>", "()V"⟩ prog_3_method_1_code 1 none ∈ tbT := sub_1 (List.mem_of_getElem? (i := 100) rfl) rfl
set_option maxRecDepth 100000 in
theorem tw197 : Cond.methodLink "FreeLances$Company" 3 ⟨"java/lang/Object", "<init>", "()V"⟩ ∈ tbT := sub_1 (List.mem_of_getElem? (i := 101) rfl) rfl
set_option maxRecDepth 100000 in
theorem tw266 : Cond.instantiable "FreeLances$Lance" 5 ∈ tbT := sub_1 (List.mem_of_getElem? (i := 170) rfl) rfl
set_option maxRecDepth 100000 in
theorem tw267 : Cond.methodLinkNest "FreeLances$World" 61 ⟨"FreeLances$Lance", "<init>", "()V"⟩ "FreeLances" ∈ tbT := sub_1 (List.mem_of_getElem? (i := 171) rfl) rfl
set_option maxRecDepth 100000 in
theorem tw268 : Cond.instanceMethod ⟨"FreeLances$Lance", "<init>", "()V"⟩ ∈ tbT := sub_1 (List.mem_of_getElem? (i := 172) rfl) rfl
set_option maxRecDepth 100000 in
theorem tw269 : Cond.code ⟨"FreeLances$Lance", "<init>", "()V"⟩ prog_4_method_1_code 1 none ∈ tbT := sub_1 (List.mem_of_getElem? (i := 173) rfl) rfl
set_option maxRecDepth 100000 in
theorem tw270 : Cond.methodLink "FreeLances$Lance" 3 ⟨"java/lang/Object", "<init>", "()V"⟩ ∈ tbT := sub_1 (List.mem_of_getElem? (i := 174) rfl) rfl
set_option maxRecDepth 100000 in
theorem tw296 : Cond.instantiable "FreeLances$Statute" 4 ∈ tbT := sub_1 (List.mem_of_getElem? (i := 200) rfl) rfl
set_option maxRecDepth 100000 in
theorem tw297 : Cond.methodLinkNest "FreeLances$World" 62 ⟨"FreeLances$Statute", "<init>", "()V"⟩ "FreeLances" ∈ tbT := sub_1 (List.mem_of_getElem? (i := 201) rfl) rfl
set_option maxRecDepth 100000 in
theorem tw298 : Cond.instanceMethod ⟨"FreeLances$Statute", "<init>", "()V"⟩ ∈ tbT := sub_1 (List.mem_of_getElem? (i := 202) rfl) rfl
set_option maxRecDepth 100000 in
theorem tw299 : Cond.code ⟨"FreeLances$Statute", "<init>", "()V"⟩ prog_8_method_1_code 1 none ∈ tbT := sub_1 (List.mem_of_getElem? (i := 203) rfl) rfl
set_option maxRecDepth 100000 in
theorem tw300 : Cond.methodLink "FreeLances$Statute" 3 ⟨"java/lang/Object", "<init>", "()V"⟩ ∈ tbT := sub_1 (List.mem_of_getElem? (i := 204) rfl) rfl
set_option maxRecDepth 100000 in
theorem tw319 : Cond.instantiable "FreeLances$Bond" 12 ∈ tbT := sub_1 (List.mem_of_getElem? (i := 223) rfl) rfl
set_option maxRecDepth 100000 in
theorem tw320 : Cond.methodLinkNest "FreeLances$World" 63 ⟨"FreeLances$Bond", "<init>", "()V"⟩ "FreeLances" ∈ tbT := sub_1 (List.mem_of_getElem? (i := 224) rfl) rfl
set_option maxRecDepth 100000 in
theorem tw321 : Cond.instanceMethod ⟨"FreeLances$Bond", "<init>", "()V"⟩ ∈ tbT := sub_1 (List.mem_of_getElem? (i := 225) rfl) rfl
set_option maxRecDepth 100000 in
theorem tw322 : Cond.code ⟨"FreeLances$Bond", "<init>", "()V"⟩ prog_2_method_1_code 1 none ∈ tbT := sub_1 (List.mem_of_getElem? (i := 226) rfl) rfl
set_option maxRecDepth 100000 in
theorem tw323 : Cond.methodLink "FreeLances$Bond" 3 ⟨"java/lang/Object", "<init>", "()V"⟩ ∈ tbT := sub_1 (List.mem_of_getElem? (i := 227) rfl) rfl
set_option maxRecDepth 100000 in
theorem tw385 : Cond.constant "FreeLances$World" 64 1000000 ∈ tbT := sub_2 (List.mem_of_getElem? (i := 49) rfl) rfl
set_option maxRecDepth 100000 in
theorem tw461 : Cond.classLink "FreeLances" 22 "FreeLances$Sheet" ∈ tbT := sub_2 (List.mem_of_getElem? (i := 125) rfl) rfl
set_option maxRecDepth 100000 in
theorem tw463 : Cond.instantiable "FreeLances$Sheet" 3 ∈ tbT := sub_2 (List.mem_of_getElem? (i := 127) rfl) rfl
set_option maxRecDepth 100000 in
theorem tw464 : Cond.methodLinkNest "FreeLances" 28 ⟨"FreeLances$Sheet", "<init>", "()V"⟩ "FreeLances" ∈ tbT := sub_2 (List.mem_of_getElem? (i := 128) rfl) rfl
set_option maxRecDepth 100000 in
theorem tw465 : Cond.instanceMethod ⟨"FreeLances$Sheet", "<init>", "()V"⟩ ∈ tbT := sub_2 (List.mem_of_getElem? (i := 129) rfl) rfl
set_option maxRecDepth 100000 in
theorem tw466 : Cond.code ⟨"FreeLances$Sheet", "<init>", "()V"⟩ prog_7_method_1_code 1 none ∈ tbT := sub_2 (List.mem_of_getElem? (i := 130) rfl) rfl
set_option maxRecDepth 100000 in
theorem tw467 : Cond.methodLink "FreeLances$Sheet" 3 ⟨"java/lang/Object", "<init>", "()V"⟩ ∈ tbT := sub_2 (List.mem_of_getElem? (i := 131) rfl) rfl
set_option maxRecDepth 100000 in
theorem tw485 : Cond.classLink "FreeLances" 29 "FreeLances$Voices" ∈ tbT := sub_2 (List.mem_of_getElem? (i := 149) rfl) rfl
set_option maxRecDepth 100000 in
theorem tw486 : Cond.instantiable "FreeLances$Voices" 5 ∈ tbT := sub_2 (List.mem_of_getElem? (i := 150) rfl) rfl
set_option maxRecDepth 100000 in
theorem tw487 : Cond.methodLinkNest "FreeLances" 31 ⟨"FreeLances$Voices", "<init>", "()V"⟩ "FreeLances" ∈ tbT := sub_2 (List.mem_of_getElem? (i := 151) rfl) rfl
set_option maxRecDepth 100000 in
theorem tw488 : Cond.instanceMethod ⟨"FreeLances$Voices", "<init>", "()V"⟩ ∈ tbT := sub_2 (List.mem_of_getElem? (i := 152) rfl) rfl
set_option maxRecDepth 100000 in
theorem tw489 : Cond.code ⟨"FreeLances$Voices", "<init>", "()V"⟩ prog_10_method_1_code 1 none ∈ tbT := sub_2 (List.mem_of_getElem? (i := 153) rfl) rfl
set_option maxRecDepth 100000 in
theorem tw490 : Cond.methodLink "FreeLances$Voices" 3 ⟨"java/lang/Object", "<init>", "()V"⟩ ∈ tbT := sub_2 (List.mem_of_getElem? (i := 154) rfl) rfl
set_option maxRecDepth 100000 in
theorem tw509 : Cond.classLink "FreeLances" 36 "FreeLances$Plans" ∈ tbT := sub_2 (List.mem_of_getElem? (i := 173) rfl) rfl
set_option maxRecDepth 100000 in
theorem tw510 : Cond.instantiable "FreeLances$Plans" 2 ∈ tbT := sub_2 (List.mem_of_getElem? (i := 174) rfl) rfl
set_option maxRecDepth 100000 in
theorem tw511 : Cond.methodLinkNest "FreeLances" 38 ⟨"FreeLances$Plans", "<init>", "()V"⟩ "FreeLances" ∈ tbT := sub_2 (List.mem_of_getElem? (i := 175) rfl) rfl
set_option maxRecDepth 100000 in
theorem tw512 : Cond.instanceMethod ⟨"FreeLances$Plans", "<init>", "()V"⟩ ∈ tbT := sub_2 (List.mem_of_getElem? (i := 176) rfl) rfl
set_option maxRecDepth 100000 in
theorem tw513 : Cond.code ⟨"FreeLances$Plans", "<init>", "()V"⟩ prog_5_method_1_code 1 none ∈ tbT := sub_2 (List.mem_of_getElem? (i := 177) rfl) rfl
set_option maxRecDepth 100000 in
theorem tw514 : Cond.methodLink "FreeLances$Plans" 3 ⟨"java/lang/Object", "<init>", "()V"⟩ ∈ tbT := sub_2 (List.mem_of_getElem? (i := 178) rfl) rfl
set_option maxRecDepth 100000 in
theorem tw1240 : Cond.code ⟨"FreeLancesModel", "<init>", "()V"⟩ prog_13_method_1_code 1 none ∈ tbT := sub_5 (List.mem_of_getElem? (i := 184) rfl) rfl
set_option maxRecDepth 100000 in
theorem tw1241 : Cond.methodLink "FreeLancesModel" 1 ⟨"java/lang/Object", "<init>", "()V"⟩ ∈ tbT := sub_5 (List.mem_of_getElem? (i := 185) rfl) rfl
/-! FreeLances$Town -/
def blT : List CV := [.inl 0, .inl 0, .inl 0, .inl 0]
theorem blT_ok : ∀ j, j < 4 → ∀ B, defaultValue (tyX7 j) = vp_V (blT.map (cvV B)) j := by
  intro j hj B
  match j, hj with
  | 0, _ => exact rfl
  | 1, _ => exact rfl
  | 2, _ => exact rfl
  | 3, _ => exact rfl
  | n + 4, h => exact absurd h (by omega)
def cAT : List EnC := [(0, .inl (cLdA 0 0)),
  (1, .inl (cObj 1)),
  (4, .inr ())]
abbrev yAT : MethodName := ⟨"FreeLances$Town", "<init>", "()V"⟩
theorem iAT : MI yAT prog_9_method_1_code 1 none 0 := ⟨tw172, tw100, ⟨by decide, by decide⟩, by decide +kernel, by decide, by decide⟩
theorem oAT {E : EA} (l : Launch) : AllC E l 1 0 0 "FreeLances$Town" prog_9_method_1_code 1 cAT := by
  refine akC (kc_aload (k := 0) rfl (by decide +kernel)) ?_
  refine akC (kc_obj (by decide) tw173 tw118 tw119 (by decide +kernel)) ?_
  refine akC (kc_ret (by decide +kernel)) ?_
  exact trivial
def nAT (j : Nat) (X : List CC) : Option (List CC) := runC cAT 0 0 4000 0 (.inr (.inl (some j)) :: List.replicate 0 (.inr (.inr ())), [], X, 0, 0)
theorem kAT {E : EA} (l : Launch) : DenA E l 1 0 0 yAT prog_9_method_1_code 1 nAT := fun _ _ _ h => conA_of (n := 0) iAT rfl rfl (oAT l) h
/-! FreeLances$Lance -/
def blL : List CV := [.inl 0, .inl 0, .inl 0, .inl 0, .inl 0]
theorem blL_ok : ∀ j, j < 5 → ∀ B, defaultValue (tyX2 j) = vp_V (blL.map (cvV B)) j := by
  intro j hj B
  match j, hj with
  | 0, _ => exact rfl
  | 1, _ => exact rfl
  | 2, _ => exact rfl
  | 3, _ => exact rfl
  | 4, _ => exact rfl
  | n + 5, h => exact absurd h (by omega)
def cAL : List EnC := [(0, .inl (cLdA 0 0)),
  (1, .inl (cObj 1)),
  (4, .inr ())]
abbrev yAL : MethodName := ⟨"FreeLances$Lance", "<init>", "()V"⟩
theorem iAL : MI yAL prog_4_method_1_code 1 none 0 := ⟨tw269, tw102, ⟨by decide, by decide⟩, by decide +kernel, by decide, by decide⟩
theorem oAL {E : EA} (l : Launch) : AllC E l 1 0 0 "FreeLances$Lance" prog_4_method_1_code 1 cAL := by
  refine akC (kc_aload (k := 0) rfl (by decide +kernel)) ?_
  refine akC (kc_obj (by decide) tw270 tw118 tw119 (by decide +kernel)) ?_
  refine akC (kc_ret (by decide +kernel)) ?_
  exact trivial
def nAL (j : Nat) (X : List CC) : Option (List CC) := runC cAL 0 0 4000 0 (.inr (.inl (some j)) :: List.replicate 0 (.inr (.inr ())), [], X, 0, 0)
theorem kAL {E : EA} (l : Launch) : DenA E l 1 0 0 yAL prog_4_method_1_code 1 nAL := fun _ _ _ h => conA_of (n := 0) iAL rfl rfl (oAL l) h
/-! FreeLances$Bond -/
def blB : List CV := [.inl 0, .inl 0, .inl 0, .inl 0, .inl 0, .inl 0, .inl 0, .inl 0, .inl 0, .inl 0, .inl 0, .inl 0]
theorem blB_ok : ∀ j, j < 12 → ∀ B, defaultValue (tyX0 j) = vp_V (blB.map (cvV B)) j := by
  intro j hj B
  match j, hj with
  | 0, _ => exact rfl
  | 1, _ => exact rfl
  | 2, _ => exact rfl
  | 3, _ => exact rfl
  | 4, _ => exact rfl
  | 5, _ => exact rfl
  | 6, _ => exact rfl
  | 7, _ => exact rfl
  | 8, _ => exact rfl
  | 9, _ => exact rfl
  | 10, _ => exact rfl
  | 11, _ => exact rfl
  | n + 12, h => exact absurd h (by omega)
def cAB : List EnC := [(0, .inl (cLdA 0 0)),
  (1, .inl (cObj 1)),
  (4, .inr ())]
abbrev yAB : MethodName := ⟨"FreeLances$Bond", "<init>", "()V"⟩
theorem iAB : MI yAB prog_2_method_1_code 1 none 0 := ⟨tw322, tw104, ⟨by decide, by decide⟩, by decide +kernel, by decide, by decide⟩
theorem oAB {E : EA} (l : Launch) : AllC E l 1 0 0 "FreeLances$Bond" prog_2_method_1_code 1 cAB := by
  refine akC (kc_aload (k := 0) rfl (by decide +kernel)) ?_
  refine akC (kc_obj (by decide) tw323 tw118 tw119 (by decide +kernel)) ?_
  refine akC (kc_ret (by decide +kernel)) ?_
  exact trivial
def nAB (j : Nat) (X : List CC) : Option (List CC) := runC cAB 0 0 4000 0 (.inr (.inl (some j)) :: List.replicate 0 (.inr (.inr ())), [], X, 0, 0)
theorem kAB {E : EA} (l : Launch) : DenA E l 1 0 0 yAB prog_2_method_1_code 1 nAB := fun _ _ _ h => conA_of (n := 0) iAB rfl rfl (oAB l) h
/-! FreeLances$Company -/
def blC : List CV := [.inl 0, .inl 0, .inl 0, .inl 0, .inl 0, .inl 0, .inl 0, .inl 0, .inl 0, .inl 0, .inl 0, .inl 0, .inr none, .inr none]
theorem blC_ok : ∀ j, j < 14 → ∀ B, defaultValue (tyX1 j) = vp_V (blC.map (cvV B)) j := by
  intro j hj B
  match j, hj with
  | 0, _ => exact rfl
  | 1, _ => exact rfl
  | 2, _ => exact rfl
  | 3, _ => exact rfl
  | 4, _ => exact rfl
  | 5, _ => exact rfl
  | 6, _ => exact rfl
  | 7, _ => exact rfl
  | 8, _ => exact rfl
  | 9, _ => exact rfl
  | 10, _ => exact rfl
  | 11, _ => exact rfl
  | 12, _ => exact rfl
  | 13, _ => exact rfl
  | n + 14, h => exact absurd h (by omega)
def cAC : List EnC := [(0, .inl (cLdA 0 0)),
  (1, .inl (cObj 1)),
  (4, .inl (cLdA 4 0)),
  (5, .inl (cC 5 2 12)),
  (7, .inl (cNewa 7 2 100 (.inl 0) 2 20)),
  (9, .inl (cPut 9 1 12)),
  (12, .inl (cLdA 12 0)),
  (13, .inl (cC 13 2 8)),
  (15, .inl (cNewa 15 2 100 (.inl 0) 2 20)),
  (17, .inl (cPut 17 1 13)),
  (20, .inr ())]
abbrev yAC : MethodName := ⟨"FreeLances$Company", "<init>", "()V"⟩
theorem iAC : MI yAC prog_3_method_1_code 1 none 0 := ⟨tw196, tw101, ⟨by decide, by decide⟩, by decide +kernel, by decide, by decide⟩
theorem oAC {E : EA} (l : Launch) : AllC E l 1 2 20 "FreeLances$Company" prog_3_method_1_code 1 cAC := by
  refine akC (kc_aload (k := 0) rfl (by decide +kernel)) ?_
  refine akC (kc_obj (by decide) tw197 tw118 tw119 (by decide +kernel)) ?_
  refine akC (kc_aload (k := 0) rfl (by decide +kernel)) ?_
  refine akC (kc_const (ins := .bipush 12) (by decide +kernel) (Or.inr (Or.inl ⟨_, rfl, rfl, by decide⟩))) ?_
  refine akC (kc_newI (atype := .int) rfl (Or.inl ⟨rfl, rfl, rfl, rfl⟩) tw167 (by decide +kernel)) ?_
  refine akC (kc_put ck1 (by decide) (by decide) (Or.inr ⟨_, rfl⟩) (Or.inr ⟨rfl, rfl⟩) tw231 (by decide +kernel)) ?_
  refine akC (kc_aload (k := 0) rfl (by decide +kernel)) ?_
  refine akC (kc_const (ins := .bipush 8) (by decide +kernel) (Or.inr (Or.inl ⟨_, rfl, rfl, by decide⟩))) ?_
  refine akC (kc_newI (atype := .int) rfl (Or.inl ⟨rfl, rfl, rfl, rfl⟩) tw167 (by decide +kernel)) ?_
  refine akC (kc_put ck1 (by decide) (by decide) (Or.inr ⟨_, rfl⟩) (Or.inr ⟨rfl, rfl⟩) tw233 (by decide +kernel)) ?_
  refine akC (kc_ret (by decide +kernel)) ?_
  exact trivial
def nAC (j : Nat) (X : List CC) : Option (List CC) := runC cAC 2 20 4000 0 (.inr (.inl (some j)) :: List.replicate 0 (.inr (.inr ())), [], X, 0, 0)
theorem kAC {E : EA} (l : Launch) : DenA E l 1 2 20 yAC prog_3_method_1_code 1 nAC := fun _ _ _ h => conA_of (n := 0) iAC rfl rfl (oAC l) h
/-! FreeLances$Statute -/
def blU : List CV := [.inl 0, .inl 0, .inl 0, .inr none]
theorem blU_ok : ∀ j, j < 4 → ∀ B, defaultValue (tyX6 j) = vp_V (blU.map (cvV B)) j := by
  intro j hj B
  match j, hj with
  | 0, _ => exact rfl
  | 1, _ => exact rfl
  | 2, _ => exact rfl
  | 3, _ => exact rfl
  | n + 4, h => exact absurd h (by omega)
def cAU : List EnC := [(0, .inl (cLdA 0 0)),
  (1, .inl (cObj 1)),
  (4, .inl (cLdA 4 0)),
  (5, .inl (cC 5 2 50)),
  (7, .inl (cNewa 7 2 101 (.inl 0) 1 50)),
  (9, .inl (cPut 9 6 3)),
  (12, .inr ())]
abbrev yAU : MethodName := ⟨"FreeLances$Statute", "<init>", "()V"⟩
theorem iAU : MI yAU prog_8_method_1_code 1 none 0 := ⟨tw299, tw103, ⟨by decide, by decide⟩, by decide +kernel, by decide, by decide⟩
theorem oAU {E : EA} (l : Launch) : AllC E l 1 1 50 "FreeLances$Statute" prog_8_method_1_code 1 cAU := by
  refine akC (kc_aload (k := 0) rfl (by decide +kernel)) ?_
  refine akC (kc_obj (by decide) tw300 tw118 tw119 (by decide +kernel)) ?_
  refine akC (kc_aload (k := 0) rfl (by decide +kernel)) ?_
  refine akC (kc_const (ins := .bipush 50) (by decide +kernel) (Or.inr (Or.inl ⟨_, rfl, rfl, by decide⟩))) ?_
  refine akC (kc_newI (atype := .byte) rfl (Or.inr ⟨rfl, rfl, rfl, rfl⟩) tw168 (by decide +kernel)) ?_
  refine akC (kc_put ck6 (by decide) (by decide) (Or.inr ⟨_, rfl⟩) (Or.inr ⟨rfl, rfl⟩) tw308 (by decide +kernel)) ?_
  refine akC (kc_ret (by decide +kernel)) ?_
  exact trivial
def nAU (j : Nat) (X : List CC) : Option (List CC) := runC cAU 1 50 4000 0 (.inr (.inl (some j)) :: List.replicate 0 (.inr (.inr ())), [], X, 0, 0)
theorem kAU {E : EA} (l : Launch) : DenA E l 1 1 50 yAU prog_8_method_1_code 1 nAU := fun _ _ _ h => conA_of (n := 0) iAU rfl rfl (oAU l) h
/-! FreeLances$Reader -/
def blR : List CV := [.inr none, .inl 0, .inl 0, .inl 0, .inl 0, .inl 0, .inl 0, .inl 0]
theorem blR_ok : ∀ j, j < 8 → ∀ B, defaultValue (tyX4 j) = vp_V (blR.map (cvV B)) j := by
  intro j hj B
  match j, hj with
  | 0, _ => exact rfl
  | 1, _ => exact rfl
  | 2, _ => exact rfl
  | 3, _ => exact rfl
  | 4, _ => exact rfl
  | 5, _ => exact rfl
  | 6, _ => exact rfl
  | 7, _ => exact rfl
  | n + 8, h => exact absurd h (by omega)
def cAR : List EnC := [(0, .inl (cLdA 0 0)),
  (1, .inl (cObj 1)),
  (4, .inl (cLdA 4 0)),
  (5, .inl (cC 5 1 0)),
  (6, .inl (cNewa 6 2 101 (.inl 0) 1 0)),
  (8, .inl (cPut 8 4 0)),
  (11, .inr ())]
abbrev yAR : MethodName := ⟨"FreeLances$Reader", "<init>", "()V"⟩
theorem iAR : MI yAR prog_6_method_1_code 1 none 0 := ⟨tw140, tw99, ⟨by decide, by decide⟩, by decide +kernel, by decide, by decide⟩
theorem oAR {E : EA} (l : Launch) : AllC E l 1 1 0 "FreeLances$Reader" prog_6_method_1_code 1 cAR := by
  refine akC (kc_aload (k := 0) rfl (by decide +kernel)) ?_
  refine akC (kc_obj (by decide) tw141 tw118 tw119 (by decide +kernel)) ?_
  refine akC (kc_aload (k := 0) rfl (by decide +kernel)) ?_
  refine akC (kc_const (ins := .iconst 0) (by decide +kernel) (Or.inl ⟨_, rfl, rfl, by decide⟩)) ?_
  refine akC (kc_newI (atype := .byte) rfl (Or.inr ⟨rfl, rfl, rfl, rfl⟩) tw168 (by decide +kernel)) ?_
  refine akC (kc_put ck4 (by decide) (by decide) (Or.inr ⟨_, rfl⟩) (Or.inl rfl) tw142 (by decide +kernel)) ?_
  refine akC (kc_ret (by decide +kernel)) ?_
  exact trivial
def nAR (j : Nat) (X : List CC) : Option (List CC) := runC cAR 1 0 4000 0 (.inr (.inl (some j)) :: List.replicate 0 (.inr (.inr ())), [], X, 0, 0)
theorem kAR {E : EA} (l : Launch) : DenA E l 1 1 0 yAR prog_6_method_1_code 1 nAR := fun _ _ _ h => conA_of (n := 0) iAR rfl rfl (oAR l) h
/-! FreeLances$Sheet -/
def blS : List CV := [.inl 0, .inl 0, .inr none]
theorem blS_ok : ∀ j, j < 3 → ∀ B, defaultValue (tyX5 j) = vp_V (blS.map (cvV B)) j := by
  intro j hj B
  match j, hj with
  | 0, _ => exact rfl
  | 1, _ => exact rfl
  | 2, _ => exact rfl
  | n + 3, h => exact absurd h (by omega)
def cAS : List EnC := [(0, .inl (cLdA 0 0)),
  (1, .inl (cObj 1)),
  (4, .inl (cLdA 4 0)),
  (5, .inl (cC 5 2 24)),
  (7, .inl (cNewa 7 2 100 (.inl 0) 1 24)),
  (9, .inl (cPut 9 5 2)),
  (12, .inr ())]
abbrev yAS : MethodName := ⟨"FreeLances$Sheet", "<init>", "()V"⟩
theorem iAS : MI yAS prog_7_method_1_code 1 none 0 := ⟨tw466, tw105, ⟨by decide, by decide⟩, by decide +kernel, by decide, by decide⟩
theorem oAS {E : EA} (l : Launch) : AllC E l 1 1 24 "FreeLances$Sheet" prog_7_method_1_code 1 cAS := by
  refine akC (kc_aload (k := 0) rfl (by decide +kernel)) ?_
  refine akC (kc_obj (by decide) tw467 tw118 tw119 (by decide +kernel)) ?_
  refine akC (kc_aload (k := 0) rfl (by decide +kernel)) ?_
  refine akC (kc_const (ins := .bipush 24) (by decide +kernel) (Or.inr (Or.inl ⟨_, rfl, rfl, by decide⟩))) ?_
  refine akC (kc_newI (atype := .int) rfl (Or.inl ⟨rfl, rfl, rfl, rfl⟩) tw167 (by decide +kernel)) ?_
  refine akC (kc_put ck5 (by decide) (by decide) (Or.inr ⟨_, rfl⟩) (Or.inr ⟨rfl, rfl⟩) tw474 (by decide +kernel)) ?_
  refine akC (kc_ret (by decide +kernel)) ?_
  exact trivial
def nAS (j : Nat) (X : List CC) : Option (List CC) := runC cAS 1 24 4000 0 (.inr (.inl (some j)) :: List.replicate 0 (.inr (.inr ())), [], X, 0, 0)
theorem kAS {E : EA} (l : Launch) : DenA E l 1 1 24 yAS prog_7_method_1_code 1 nAS := fun _ _ _ h => conA_of (n := 0) iAS rfl rfl (oAS l) h
/-! FreeLances$Voices -/
def blV : List CV := [.inr none, .inl 0, .inl 0, .inl 0, .inl 0]
theorem blV_ok : ∀ j, j < 5 → ∀ B, defaultValue (tyX8 j) = vp_V (blV.map (cvV B)) j := by
  intro j hj B
  match j, hj with
  | 0, _ => exact rfl
  | 1, _ => exact rfl
  | 2, _ => exact rfl
  | 3, _ => exact rfl
  | 4, _ => exact rfl
  | n + 5, h => exact absurd h (by omega)
def cAV : List EnC := [(0, .inl (cLdA 0 0)),
  (1, .inl (cObj 1)),
  (4, .inl (cLdA 4 0)),
  (5, .inl (cC 5 2 40)),
  (7, .inl (cNewa 7 2 100 (.inl 0) 1 40)),
  (9, .inl (cPut 9 8 0)),
  (12, .inr ())]
abbrev yAV : MethodName := ⟨"FreeLances$Voices", "<init>", "()V"⟩
theorem iAV : MI yAV prog_10_method_1_code 1 none 0 := ⟨tw489, tw106, ⟨by decide, by decide⟩, by decide +kernel, by decide, by decide⟩
theorem oAV {E : EA} (l : Launch) : AllC E l 1 1 40 "FreeLances$Voices" prog_10_method_1_code 1 cAV := by
  refine akC (kc_aload (k := 0) rfl (by decide +kernel)) ?_
  refine akC (kc_obj (by decide) tw490 tw118 tw119 (by decide +kernel)) ?_
  refine akC (kc_aload (k := 0) rfl (by decide +kernel)) ?_
  refine akC (kc_const (ins := .bipush 40) (by decide +kernel) (Or.inr (Or.inl ⟨_, rfl, rfl, by decide⟩))) ?_
  refine akC (kc_newI (atype := .int) rfl (Or.inl ⟨rfl, rfl, rfl, rfl⟩) tw167 (by decide +kernel)) ?_
  refine akC (kc_put ck8 (by decide) (by decide) (Or.inr ⟨_, rfl⟩) (Or.inr ⟨rfl, rfl⟩) tw491 (by decide +kernel)) ?_
  refine akC (kc_ret (by decide +kernel)) ?_
  exact trivial
def nAV (j : Nat) (X : List CC) : Option (List CC) := runC cAV 1 40 4000 0 (.inr (.inl (some j)) :: List.replicate 0 (.inr (.inr ())), [], X, 0, 0)
theorem kAV {E : EA} (l : Launch) : DenA E l 1 1 40 yAV prog_10_method_1_code 1 nAV := fun _ _ _ h => conA_of (n := 0) iAV rfl rfl (oAV l) h
/-! FreeLances$Plans -/
def blP : List CV := [.inr none, .inr none]
theorem blP_ok : ∀ j, j < 2 → ∀ B, defaultValue (tyX3 j) = vp_V (blP.map (cvV B)) j := by
  intro j hj B
  match j, hj with
  | 0, _ => exact rfl
  | 1, _ => exact rfl
  | n + 2, h => exact absurd h (by omega)
def cAP : List EnC := [(0, .inl (cLdA 0 0)),
  (1, .inl (cObj 1)),
  (4, .inl (cLdA 4 0)),
  (5, .inl (cC 5 3 256)),
  (8, .inl (cNewa 8 2 100 (.inl 0) 2 292)),
  (10, .inl (cPut 10 3 0)),
  (13, .inl (cLdA 13 0)),
  (14, .inl (cC 14 2 36)),
  (16, .inl (cNewa 16 2 100 (.inl 0) 2 292)),
  (18, .inl (cPut 18 3 1)),
  (21, .inr ())]
abbrev yAP : MethodName := ⟨"FreeLances$Plans", "<init>", "()V"⟩
theorem iAP : MI yAP prog_5_method_1_code 1 none 0 := ⟨tw513, tw107, ⟨by decide, by decide⟩, by decide +kernel, by decide, by decide⟩
theorem oAP {E : EA} (l : Launch) : AllC E l 1 2 292 "FreeLances$Plans" prog_5_method_1_code 1 cAP := by
  refine akC (kc_aload (k := 0) rfl (by decide +kernel)) ?_
  refine akC (kc_obj (by decide) tw514 tw118 tw119 (by decide +kernel)) ?_
  refine akC (kc_aload (k := 0) rfl (by decide +kernel)) ?_
  refine akC (kc_const (ins := .sipush 256) (by decide +kernel) (Or.inr (Or.inr ⟨_, rfl, rfl, by decide⟩))) ?_
  refine akC (kc_newI (atype := .int) rfl (Or.inl ⟨rfl, rfl, rfl, rfl⟩) tw167 (by decide +kernel)) ?_
  refine akC (kc_put ck3 (by decide) (by decide) (Or.inr ⟨_, rfl⟩) (Or.inr ⟨rfl, rfl⟩) tw515 (by decide +kernel)) ?_
  refine akC (kc_aload (k := 0) rfl (by decide +kernel)) ?_
  refine akC (kc_const (ins := .bipush 36) (by decide +kernel) (Or.inr (Or.inl ⟨_, rfl, rfl, by decide⟩))) ?_
  refine akC (kc_newI (atype := .int) rfl (Or.inl ⟨rfl, rfl, rfl, rfl⟩) tw167 (by decide +kernel)) ?_
  refine akC (kc_put ck3 (by decide) (by decide) (Or.inr ⟨_, rfl⟩) (Or.inr ⟨rfl, rfl⟩) tw516 (by decide +kernel)) ?_
  refine akC (kc_ret (by decide +kernel)) ?_
  exact trivial
def nAP (j : Nat) (X : List CC) : Option (List CC) := runC cAP 2 292 4000 0 (.inr (.inl (some j)) :: List.replicate 0 (.inr (.inr ())), [], X, 0, 0)
theorem kAP {E : EA} (l : Launch) : DenA E l 1 2 292 yAP prog_5_method_1_code 1 nAP := fun _ _ _ h => conA_of (n := 0) iAP rfl rfl (oAP l) h
/-! FreeLances$World -/
def blW : List CV := [.inl 0, .inr none, .inl 0, .inl 0, .inr none, .inr none, .inl 0, .inr none, .inl 0, .inr none, .inl 0, .inr none, .inl 0, .inr none, .inl 0, .inr none, .inl 0, .inr none]
theorem blW_ok : ∀ j, j < 18 → ∀ B, defaultValue (tyX9 j) = vp_V (blW.map (cvV B)) j := by
  intro j hj B
  match j, hj with
  | 0, _ => exact rfl
  | 1, _ => exact rfl
  | 2, _ => exact rfl
  | 3, _ => exact rfl
  | 4, _ => exact rfl
  | 5, _ => exact rfl
  | 6, _ => exact rfl
  | 7, _ => exact rfl
  | 8, _ => exact rfl
  | 9, _ => exact rfl
  | 10, _ => exact rfl
  | 11, _ => exact rfl
  | 12, _ => exact rfl
  | 13, _ => exact rfl
  | 14, _ => exact rfl
  | 15, _ => exact rfl
  | 16, _ => exact rfl
  | 17, _ => exact rfl
  | n + 18, h => exact absurd h (by omega)
def cAW : List EnC := [(0, .inl (cLdA 0 0)),
  (1, .inl (cObj 1)),
  (4, .inl (cLdA 4 0)),
  (5, .inl (cC 5 2 8)),
  (7, .inl (cNewa 7 3 (200 + 3) (.inr none) 121 1569)),
  (10, .inl (cPut 10 9 1)),
  (13, .inl (cLdA 13 0)),
  (14, .inl (cC 14 2 64)),
  (16, .inl (cNewa 16 2 100 (.inl 0) 121 1569)),
  (18, .inl (cPut 18 9 4)),
  (21, .inl (cLdA 21 0)),
  (22, .inl (cC 22 1 5)),
  (23, .inl (cNewa 23 3 (200 + 6) (.inr none) 121 1569)),
  (26, .inl (cPut 26 9 5)),
  (29, .inl (cLdA 29 0)),
  (30, .inl (cC 30 2 40)),
  (32, .inl (cNewa 32 3 (200 + 10) (.inr none) 121 1569)),
  (35, .inl (cPut 35 9 7)),
  (38, .inl (cLdA 38 0)),
  (39, .inl (cC 39 2 12)),
  (41, .inl (cNewa 41 3 (200 + 12) (.inr none) 121 1569)),
  (44, .inl (cPut 44 9 9)),
  (47, .inl (cLdA 47 0)),
  (48, .inl (cC 48 2 24)),
  (50, .inl (cNewa 50 3 (200 + 15) (.inr none) 121 1569)),
  (53, .inl (cPut 53 9 11)),
  (56, .inl (cLdA 56 0)),
  (57, .inl (cC 57 2 50)),
  (59, .inl (cNewa 59 2 101 (.inl 0) 121 1569)),
  (61, .inl (cPut 61 9 13)),
  (64, .inl (cLdA 64 0)),
  (65, .inl (cC 65 2 20)),
  (67, .inl (cNewa 67 2 100 (.inl 0) 121 1569)),
  (69, .inl (cPut 69 9 15)),
  (72, .inl (cLdA 72 0)),
  (73, .inl (cNew 73 4 blR 121 1569)),
  (76, .inl (cDup 76)),
  (77, .inl (cInit 77 nAR 1 0 121 1569)),
  (80, .inl (cPut 80 9 17)),
  (83, .inl (cC 83 1 0)),
  (84, .inl (cSt 84 1)),
  (85, .inl (cLd 85 1)),
  (86, .inl (cC 86 2 8)),
  (88, .inl (cGe 88 110)),
  (91, .inl (cLdA 91 0)),
  (92, .inl (cGet 92 9 1)),
  (95, .inl (cLd 95 1)),
  (96, .inl (cNew 96 7 blT 121 1569)),
  (99, .inl (cDup 99)),
  (100, .inl (cInit 100 nAT 0 0 121 1569)),
  (103, .inl (cAast 103 3 7)),
  (104, .inl (cInc 104 1)),
  (107, .inl (cGoto 85)),
  (110, .inl (cC 110 1 0)),
  (111, .inl (cSt 111 1)),
  (112, .inl (cLd 112 1)),
  (113, .inl (cC 113 1 5)),
  (114, .inl (cGe 114 136)),
  (117, .inl (cLdA 117 0)),
  (118, .inl (cGet 118 9 5)),
  (121, .inl (cLd 121 1)),
  (122, .inl (cNew 122 1 blC 121 1569)),
  (125, .inl (cDup 125)),
  (126, .inl (cInit 126 nAC 2 20 121 1569)),
  (129, .inl (cAast 129 6 1)),
  (130, .inl (cInc 130 1)),
  (133, .inl (cGoto 112)),
  (136, .inl (cC 136 1 0)),
  (137, .inl (cSt 137 1)),
  (138, .inl (cLd 138 1)),
  (139, .inl (cC 139 2 40)),
  (141, .inl (cGe 141 163)),
  (144, .inl (cLdA 144 0)),
  (145, .inl (cGet 145 9 7)),
  (148, .inl (cLd 148 1)),
  (149, .inl (cNew 149 2 blL 121 1569)),
  (152, .inl (cDup 152)),
  (153, .inl (cInit 153 nAL 0 0 121 1569)),
  (156, .inl (cAast 156 10 2)),
  (157, .inl (cInc 157 1)),
  (160, .inl (cGoto 138)),
  (163, .inl (cC 163 1 0)),
  (164, .inl (cSt 164 1)),
  (165, .inl (cLd 165 1)),
  (166, .inl (cC 166 2 12)),
  (168, .inl (cGe 168 190)),
  (171, .inl (cLdA 171 0)),
  (172, .inl (cGet 172 9 9)),
  (175, .inl (cLd 175 1)),
  (176, .inl (cNew 176 6 blU 121 1569)),
  (179, .inl (cDup 179)),
  (180, .inl (cInit 180 nAU 1 50 121 1569)),
  (183, .inl (cAast 183 12 6)),
  (184, .inl (cInc 184 1)),
  (187, .inl (cGoto 165)),
  (190, .inl (cC 190 1 0)),
  (191, .inl (cSt 191 1)),
  (192, .inl (cLd 192 1)),
  (193, .inl (cC 193 2 24)),
  (195, .inl (cGe 195 217)),
  (198, .inl (cLdA 198 0)),
  (199, .inl (cGet 199 9 11)),
  (202, .inl (cLd 202 1)),
  (203, .inl (cNew 203 0 blB 121 1569)),
  (206, .inl (cDup 206)),
  (207, .inl (cInit 207 nAB 0 0 121 1569)),
  (210, .inl (cAast 210 15 0)),
  (211, .inl (cInc 211 1)),
  (214, .inl (cGoto 192)),
  (217, .inl (cC 217 1 0)),
  (218, .inl (cSt 218 1)),
  (219, .inl (cLd 219 1)),
  (220, .inl (cC 220 2 64)),
  (222, .inl (cGe 222 254)),
  (225, .inl (cLdA 225 0)),
  (226, .inl (cGet 226 9 4)),
  (229, .inl (cLd 229 1)),
  (230, .inl (cLd 230 1)),
  (231, .inl (cC 231 2 8)),
  (233, .inl (cBin0 233 (fun x y => x / y))),
  (234, .inl (cLd 234 1)),
  (235, .inl (cC 235 2 8)),
  (237, .inl (cBin0 237 (fun x y => x - x / y * y))),
  (238, .inl (cNe 238 245)),
  (241, .inl (cC 241 1 0)),
  (242, .inl (cGoto 247)),
  (245, .inl (cC 245 2 1000000)),
  (247, .inl (cIast 247)),
  (248, .inl (cInc 248 1)),
  (251, .inl (cGoto 219)),
  (254, .inr ())]
abbrev yAW : MethodName := ⟨"FreeLances$World", "<init>", "()V"⟩
theorem iAW : MI yAW prog_11_method_1_code 2 none 0 := ⟨tw124, tw98, ⟨by decide, by decide⟩, by decide +kernel, by decide, by decide⟩
theorem oAW {E : EA} (l : Launch) : AllC E l 2 121 1569 "FreeLances$World" prog_11_method_1_code 2 cAW := by
  refine akC (kc_aload (k := 0) rfl (by decide +kernel)) ?_
  refine akC (kc_obj (by decide) tw125 tw118 tw119 (by decide +kernel)) ?_
  refine akC (kc_aload (k := 0) rfl (by decide +kernel)) ?_
  refine akC (kc_const (ins := .bipush 8) (by decide +kernel) (Or.inr (Or.inl ⟨_, rfl, rfl, by decide⟩))) ?_
  refine akC (kc_newR (t0 := 2) rfl (fun U h => h.1) tw126 (by decide +kernel)) ?_
  refine akC (kc_put ck9 (by decide) (by decide) (Or.inr ⟨_, rfl⟩) (Or.inr ⟨rfl, rfl⟩) tw388 (by decide +kernel)) ?_
  refine akC (kc_aload (k := 0) rfl (by decide +kernel)) ?_
  refine akC (kc_const (ins := .bipush 64) (by decide +kernel) (Or.inr (Or.inl ⟨_, rfl, rfl, by decide⟩))) ?_
  refine akC (kc_newI (atype := .int) rfl (Or.inl ⟨rfl, rfl, rfl, rfl⟩) tw167 (by decide +kernel)) ?_
  refine akC (kc_put ck9 (by decide) (by decide) (Or.inr ⟨_, rfl⟩) (Or.inr ⟨rfl, rfl⟩) tw395 (by decide +kernel)) ?_
  refine akC (kc_aload (k := 0) rfl (by decide +kernel)) ?_
  refine akC (kc_const (ins := .iconst 5) (by decide +kernel) (Or.inl ⟨_, rfl, rfl, by decide⟩)) ?_
  refine akC (kc_newR (t0 := 3) rfl (fun U h => h.2.1) tw128 (by decide +kernel)) ?_
  refine akC (kc_put ck9 (by decide) (by decide) (Or.inr ⟨_, rfl⟩) (Or.inr ⟨rfl, rfl⟩) tw396 (by decide +kernel)) ?_
  refine akC (kc_aload (k := 0) rfl (by decide +kernel)) ?_
  refine akC (kc_const (ins := .bipush 40) (by decide +kernel) (Or.inr (Or.inl ⟨_, rfl, rfl, by decide⟩))) ?_
  refine akC (kc_newR (t0 := 4) rfl (fun U h => h.2.2.1) tw130 (by decide +kernel)) ?_
  refine akC (kc_put ck9 (by decide) (by decide) (Or.inr ⟨_, rfl⟩) (Or.inr ⟨rfl, rfl⟩) tw402 (by decide +kernel)) ?_
  refine akC (kc_aload (k := 0) rfl (by decide +kernel)) ?_
  refine akC (kc_const (ins := .bipush 12) (by decide +kernel) (Or.inr (Or.inl ⟨_, rfl, rfl, by decide⟩))) ?_
  refine akC (kc_newR (t0 := 5) rfl (fun U h => h.2.2.2.1) tw132 (by decide +kernel)) ?_
  refine akC (kc_put ck9 (by decide) (by decide) (Or.inr ⟨_, rfl⟩) (Or.inr ⟨rfl, rfl⟩) tw406 (by decide +kernel)) ?_
  refine akC (kc_aload (k := 0) rfl (by decide +kernel)) ?_
  refine akC (kc_const (ins := .bipush 24) (by decide +kernel) (Or.inr (Or.inl ⟨_, rfl, rfl, by decide⟩))) ?_
  refine akC (kc_newR (t0 := 6) rfl (fun U h => h.2.2.2.2.1) tw134 (by decide +kernel)) ?_
  refine akC (kc_put ck9 (by decide) (by decide) (Or.inr ⟨_, rfl⟩) (Or.inr ⟨rfl, rfl⟩) tw410 (by decide +kernel)) ?_
  refine akC (kc_aload (k := 0) rfl (by decide +kernel)) ?_
  refine akC (kc_const (ins := .bipush 50) (by decide +kernel) (Or.inr (Or.inl ⟨_, rfl, rfl, by decide⟩))) ?_
  refine akC (kc_newI (atype := .byte) rfl (Or.inr ⟨rfl, rfl, rfl, rfl⟩) tw168 (by decide +kernel)) ?_
  refine akC (kc_put ck9 (by decide) (by decide) (Or.inr ⟨_, rfl⟩) (Or.inr ⟨rfl, rfl⟩) tw414 (by decide +kernel)) ?_
  refine akC (kc_aload (k := 0) rfl (by decide +kernel)) ?_
  refine akC (kc_const (ins := .bipush 20) (by decide +kernel) (Or.inr (Or.inl ⟨_, rfl, rfl, by decide⟩))) ?_
  refine akC (kc_newI (atype := .int) rfl (Or.inl ⟨rfl, rfl, rfl, rfl⟩) tw167 (by decide +kernel)) ?_
  refine akC (kc_put ck9 (by decide) (by decide) (Or.inr ⟨_, rfl⟩) (Or.inr ⟨rfl, rfl⟩) tw418 (by decide +kernel)) ?_
  refine akC (kc_aload (k := 0) rfl (by decide +kernel)) ?_
  refine akC (kc_new ck4 (by decide) rfl blR_ok tw136 tw137 tw99 (by decide +kernel)) ?_
  refine akC (kc_dup (by decide +kernel)) ?_
  refine akC (kc_init (d' := 1) (kAR l) iAR rfl tw139 (by decide) (Or.inl tw138) (by decide +kernel)) ?_
  refine akC (kc_put ck9 (by decide) (by decide) (Or.inl ⟨_, rfl⟩) (Or.inr ⟨rfl, rfl⟩) tw422 (by decide +kernel)) ?_
  refine akC (kc_const (ins := .iconst 0) (by decide +kernel) (Or.inl ⟨_, rfl, rfl, by decide⟩)) ?_
  refine akC (kc_istore (k := 1) rfl (by decide) (by decide +kernel)) ?_
  refine akC (kc_iload (k := 1) rfl (by decide +kernel)) ?_
  refine akC (kc_const (ins := .bipush 8) (by decide +kernel) (Or.inr (Or.inl ⟨_, rfl, rfl, by decide⟩))) ?_
  refine akC (kc_ge (off := 22) (by decide) (by decide +kernel)) ?_
  refine akC (kc_aload (k := 0) rfl (by decide +kernel)) ?_
  refine akC (kc_get ck9 (by decide) (by decide) tw388 (by decide +kernel)) ?_
  refine akC (kc_iload (k := 1) rfl (by decide +kernel)) ?_
  refine akC (kc_new ck7 (by decide) rfl blT_ok tw126 tw169 tw100 (by decide +kernel)) ?_
  refine akC (kc_dup (by decide +kernel)) ?_
  refine akC (kc_init (d' := 1) (kAT l) iAT rfl tw171 (by decide) (Or.inr ⟨_, tw170⟩) (by decide +kernel)) ?_
  refine akC (kc_aast (t0 := 2) (r := (RX7, TX7, 4)) (by decide) rfl rfl (by decide +kernel)) ?_
  refine akC (kc_iinc (by decide) (by decide +kernel)) ?_
  refine akC (kc_goto (off := (-22)) (by decide) (by decide +kernel)) ?_
  refine akC (kc_const (ins := .iconst 0) (by decide +kernel) (Or.inl ⟨_, rfl, rfl, by decide⟩)) ?_
  refine akC (kc_istore (k := 1) rfl (by decide) (by decide +kernel)) ?_
  refine akC (kc_iload (k := 1) rfl (by decide +kernel)) ?_
  refine akC (kc_const (ins := .iconst 5) (by decide +kernel) (Or.inl ⟨_, rfl, rfl, by decide⟩)) ?_
  refine akC (kc_ge (off := 22) (by decide) (by decide +kernel)) ?_
  refine akC (kc_aload (k := 0) rfl (by decide +kernel)) ?_
  refine akC (kc_get ck9 (by decide) (by decide) tw396 (by decide +kernel)) ?_
  refine akC (kc_iload (k := 1) rfl (by decide +kernel)) ?_
  refine akC (kc_new ck1 (by decide) rfl blC_ok tw128 tw193 tw101 (by decide +kernel)) ?_
  refine akC (kc_dup (by decide +kernel)) ?_
  refine akC (kc_init (d' := 1) (kAC l) iAC rfl tw195 (by decide) (Or.inr ⟨_, tw194⟩) (by decide +kernel)) ?_
  refine akC (kc_aast (t0 := 3) (r := (RX1, TX1, 14)) (by decide) rfl rfl (by decide +kernel)) ?_
  refine akC (kc_iinc (by decide) (by decide +kernel)) ?_
  refine akC (kc_goto (off := (-21)) (by decide) (by decide +kernel)) ?_
  refine akC (kc_const (ins := .iconst 0) (by decide +kernel) (Or.inl ⟨_, rfl, rfl, by decide⟩)) ?_
  refine akC (kc_istore (k := 1) rfl (by decide) (by decide +kernel)) ?_
  refine akC (kc_iload (k := 1) rfl (by decide +kernel)) ?_
  refine akC (kc_const (ins := .bipush 40) (by decide +kernel) (Or.inr (Or.inl ⟨_, rfl, rfl, by decide⟩))) ?_
  refine akC (kc_ge (off := 22) (by decide) (by decide +kernel)) ?_
  refine akC (kc_aload (k := 0) rfl (by decide +kernel)) ?_
  refine akC (kc_get ck9 (by decide) (by decide) tw402 (by decide +kernel)) ?_
  refine akC (kc_iload (k := 1) rfl (by decide +kernel)) ?_
  refine akC (kc_new ck2 (by decide) rfl blL_ok tw130 tw266 tw102 (by decide +kernel)) ?_
  refine akC (kc_dup (by decide +kernel)) ?_
  refine akC (kc_init (d' := 1) (kAL l) iAL rfl tw268 (by decide) (Or.inr ⟨_, tw267⟩) (by decide +kernel)) ?_
  refine akC (kc_aast (t0 := 4) (r := (RX2, TX2, 5)) (by decide) rfl rfl (by decide +kernel)) ?_
  refine akC (kc_iinc (by decide) (by decide +kernel)) ?_
  refine akC (kc_goto (off := (-22)) (by decide) (by decide +kernel)) ?_
  refine akC (kc_const (ins := .iconst 0) (by decide +kernel) (Or.inl ⟨_, rfl, rfl, by decide⟩)) ?_
  refine akC (kc_istore (k := 1) rfl (by decide) (by decide +kernel)) ?_
  refine akC (kc_iload (k := 1) rfl (by decide +kernel)) ?_
  refine akC (kc_const (ins := .bipush 12) (by decide +kernel) (Or.inr (Or.inl ⟨_, rfl, rfl, by decide⟩))) ?_
  refine akC (kc_ge (off := 22) (by decide) (by decide +kernel)) ?_
  refine akC (kc_aload (k := 0) rfl (by decide +kernel)) ?_
  refine akC (kc_get ck9 (by decide) (by decide) tw406 (by decide +kernel)) ?_
  refine akC (kc_iload (k := 1) rfl (by decide +kernel)) ?_
  refine akC (kc_new ck6 (by decide) rfl blU_ok tw132 tw296 tw103 (by decide +kernel)) ?_
  refine akC (kc_dup (by decide +kernel)) ?_
  refine akC (kc_init (d' := 1) (kAU l) iAU rfl tw298 (by decide) (Or.inr ⟨_, tw297⟩) (by decide +kernel)) ?_
  refine akC (kc_aast (t0 := 5) (r := (RX6, TX6, 4)) (by decide) rfl rfl (by decide +kernel)) ?_
  refine akC (kc_iinc (by decide) (by decide +kernel)) ?_
  refine akC (kc_goto (off := (-22)) (by decide) (by decide +kernel)) ?_
  refine akC (kc_const (ins := .iconst 0) (by decide +kernel) (Or.inl ⟨_, rfl, rfl, by decide⟩)) ?_
  refine akC (kc_istore (k := 1) rfl (by decide) (by decide +kernel)) ?_
  refine akC (kc_iload (k := 1) rfl (by decide +kernel)) ?_
  refine akC (kc_const (ins := .bipush 24) (by decide +kernel) (Or.inr (Or.inl ⟨_, rfl, rfl, by decide⟩))) ?_
  refine akC (kc_ge (off := 22) (by decide) (by decide +kernel)) ?_
  refine akC (kc_aload (k := 0) rfl (by decide +kernel)) ?_
  refine akC (kc_get ck9 (by decide) (by decide) tw410 (by decide +kernel)) ?_
  refine akC (kc_iload (k := 1) rfl (by decide +kernel)) ?_
  refine akC (kc_new ck0 (by decide) rfl blB_ok tw134 tw319 tw104 (by decide +kernel)) ?_
  refine akC (kc_dup (by decide +kernel)) ?_
  refine akC (kc_init (d' := 1) (kAB l) iAB rfl tw321 (by decide) (Or.inr ⟨_, tw320⟩) (by decide +kernel)) ?_
  refine akC (kc_aast (t0 := 6) (r := (RX0, TX0, 12)) (by decide) rfl rfl (by decide +kernel)) ?_
  refine akC (kc_iinc (by decide) (by decide +kernel)) ?_
  refine akC (kc_goto (off := (-22)) (by decide) (by decide +kernel)) ?_
  refine akC (kc_const (ins := .iconst 0) (by decide +kernel) (Or.inl ⟨_, rfl, rfl, by decide⟩)) ?_
  refine akC (kc_istore (k := 1) rfl (by decide) (by decide +kernel)) ?_
  refine akC (kc_iload (k := 1) rfl (by decide +kernel)) ?_
  refine akC (kc_const (ins := .bipush 64) (by decide +kernel) (Or.inr (Or.inl ⟨_, rfl, rfl, by decide⟩))) ?_
  refine akC (kc_ge (off := 32) (by decide) (by decide +kernel)) ?_
  refine akC (kc_aload (k := 0) rfl (by decide +kernel)) ?_
  refine akC (kc_get ck9 (by decide) (by decide) tw395 (by decide +kernel)) ?_
  refine akC (kc_iload (k := 1) rfl (by decide +kernel)) ?_
  refine akC (kc_iload (k := 1) rfl (by decide +kernel)) ?_
  refine akC (kc_const (ins := .bipush 8) (by decide +kernel) (Or.inr (Or.inl ⟨_, rfl, rfl, by decide⟩))) ?_
  refine akC (kc_div (by decide +kernel)) ?_
  refine akC (kc_iload (k := 1) rfl (by decide +kernel)) ?_
  refine akC (kc_const (ins := .bipush 8) (by decide +kernel) (Or.inr (Or.inl ⟨_, rfl, rfl, by decide⟩))) ?_
  refine akC (kc_rem (by decide +kernel)) ?_
  refine akC (kc_ne (off := 7) (by decide) (by decide +kernel)) ?_
  refine akC (kc_const (ins := .iconst 0) (by decide +kernel) (Or.inl ⟨_, rfl, rfl, by decide⟩)) ?_
  refine akC (kc_goto (off := 5) (by decide) (by decide +kernel)) ?_
  refine akC (kc_ldc tw385 (by decide +kernel)) ?_
  refine akC (kc_iast (by decide +kernel)) ?_
  refine akC (kc_iinc (by decide) (by decide +kernel)) ?_
  refine akC (kc_goto (off := (-32)) (by decide) (by decide +kernel)) ?_
  refine akC (kc_ret (by decide +kernel)) ?_
  exact trivial
def nAW (j : Nat) (X : List CC) : Option (List CC) := runC cAW 121 1569 4000 0 (.inr (.inl (some j)) :: List.replicate 1 (.inr (.inr ())), [], X, 0, 0)
theorem kAW {E : EA} (l : Launch) : DenA E l 2 121 1569 yAW prog_11_method_1_code 2 nAW := fun _ _ _ h => conA_of (n := 1) iAW rfl rfl (oAW l) h
/-! FreeLances -/
def blF : List CV := [.inr none, .inr none, .inr none, .inr none, .inr none, .inr none, .inr none, .inl 0]
theorem blF_ok : ∀ j, j < 8 → ∀ B, defaultValue (tyX10 j) = vp_V (blF.map (cvV B)) j := by
  intro j hj B
  match j, hj with
  | 0, _ => exact rfl
  | 1, _ => exact rfl
  | 2, _ => exact rfl
  | 3, _ => exact rfl
  | 4, _ => exact rfl
  | 5, _ => exact rfl
  | 6, _ => exact rfl
  | 7, _ => exact rfl
  | n + 8, h => exact absurd h (by omega)
def cAF : List EnC := [(0, .inl (cLdA 0 0)),
  (1, .inl (cObj 1)),
  (4, .inl (cLdA 4 0)),
  (5, .inl (cNew 5 9 blW 381 5218)),
  (8, .inl (cDup 8)),
  (9, .inl (cInit 9 nAW 121 1569 381 5218)),
  (12, .inl (cPut 12 10 0)),
  (15, .inl (cLdA 15 0)),
  (16, .inl (cNew 16 9 blW 381 5218)),
  (19, .inl (cDup 19)),
  (20, .inl (cInit 20 nAW 121 1569 381 5218)),
  (23, .inl (cPut 23 10 1)),
  (26, .inl (cLdA 26 0)),
  (27, .inl (cNew 27 9 blW 381 5218)),
  (30, .inl (cDup 30)),
  (31, .inl (cInit 31 nAW 121 1569 381 5218)),
  (34, .inl (cPut 34 10 2)),
  (37, .inl (cLdA 37 0)),
  (38, .inl (cC 38 1 4)),
  (39, .inl (cNewa 39 3 (200 + 19) (.inr none) 381 5218)),
  (42, .inl (cPut 42 10 3)),
  (45, .inl (cC 45 1 0)),
  (46, .inl (cSt 46 1)),
  (47, .inl (cLd 47 1)),
  (48, .inl (cC 48 1 4)),
  (49, .inl (cGe 49 71)),
  (52, .inl (cLdA 52 0)),
  (53, .inl (cGet 53 10 3)),
  (56, .inl (cLd 56 1)),
  (57, .inl (cNew 57 5 blS 381 5218)),
  (60, .inl (cDup 60)),
  (61, .inl (cInit 61 nAS 1 24 381 5218)),
  (64, .inl (cAast 64 19 5)),
  (65, .inl (cInc 65 1)),
  (68, .inl (cGoto 47)),
  (71, .inl (cLdA 71 0)),
  (72, .inl (cNew 72 8 blV 381 5218)),
  (75, .inl (cDup 75)),
  (76, .inl (cInit 76 nAV 1 40 381 5218)),
  (79, .inl (cPut 79 10 4)),
  (82, .inl (cLdA 82 0)),
  (83, .inl (cNew 83 3 blP 381 5218)),
  (86, .inl (cDup 86)),
  (87, .inl (cInit 87 nAP 2 292 381 5218)),
  (90, .inl (cPut 90 10 5)),
  (93, .inl (cLdA 93 0)),
  (94, .inl (cC 94 2 6)),
  (96, .inl (cNewa 96 2 100 (.inl 0) 381 5218)),
  (98, .inl (cPut 98 10 6)),
  (101, .inl (cLdA 101 0)),
  (102, .inl (cC 102 1 0)),
  (103, .inl (cPutI 103 10 7)),
  (106, .inr ())]
abbrev yAF : MethodName := ⟨"FreeLances", "<init>", "()V"⟩
theorem iAF : MI yAF prog_1_method_1_code 2 none 0 := ⟨tw116, tw97, ⟨by decide, by decide⟩, by decide +kernel, by decide, by decide⟩
theorem oAF {E : EA} (l : Launch) : AllC E l 3 381 5218 "FreeLances" prog_1_method_1_code 2 cAF := by
  refine akC (kc_aload (k := 0) rfl (by decide +kernel)) ?_
  refine akC (kc_obj (by decide) tw117 tw118 tw119 (by decide +kernel)) ?_
  refine akC (kc_aload (k := 0) rfl (by decide +kernel)) ?_
  refine akC (kc_new ck9 (by decide) rfl blW_ok tw120 tw121 tw98 (by decide +kernel)) ?_
  refine akC (kc_dup (by decide +kernel)) ?_
  refine akC (kc_init (d' := 2) (kAW l) iAW rfl tw123 (by decide) (Or.inl tw122) (by decide +kernel)) ?_
  refine akC (kc_put ck10 (by decide) (by decide) (Or.inl ⟨_, rfl⟩) (Or.inr ⟨rfl, rfl⟩) tw522 (by decide +kernel)) ?_
  refine akC (kc_aload (k := 0) rfl (by decide +kernel)) ?_
  refine akC (kc_new ck9 (by decide) rfl blW_ok tw120 tw121 tw98 (by decide +kernel)) ?_
  refine akC (kc_dup (by decide +kernel)) ?_
  refine akC (kc_init (d' := 2) (kAW l) iAW rfl tw123 (by decide) (Or.inl tw122) (by decide +kernel)) ?_
  refine akC (kc_put ck10 (by decide) (by decide) (Or.inl ⟨_, rfl⟩) (Or.inr ⟨rfl, rfl⟩) tw523 (by decide +kernel)) ?_
  refine akC (kc_aload (k := 0) rfl (by decide +kernel)) ?_
  refine akC (kc_new ck9 (by decide) rfl blW_ok tw120 tw121 tw98 (by decide +kernel)) ?_
  refine akC (kc_dup (by decide +kernel)) ?_
  refine akC (kc_init (d' := 2) (kAW l) iAW rfl tw123 (by decide) (Or.inl tw122) (by decide +kernel)) ?_
  refine akC (kc_put ck10 (by decide) (by decide) (Or.inl ⟨_, rfl⟩) (Or.inr ⟨rfl, rfl⟩) tw524 (by decide +kernel)) ?_
  refine akC (kc_aload (k := 0) rfl (by decide +kernel)) ?_
  refine akC (kc_const (ins := .iconst 4) (by decide +kernel) (Or.inl ⟨_, rfl, rfl, by decide⟩)) ?_
  refine akC (kc_newR (t0 := 7) rfl (fun U h => h.2.2.2.2.2) tw461 (by decide +kernel)) ?_
  refine akC (kc_put ck10 (by decide) (by decide) (Or.inr ⟨_, rfl⟩) (Or.inr ⟨rfl, rfl⟩) tw525 (by decide +kernel)) ?_
  refine akC (kc_const (ins := .iconst 0) (by decide +kernel) (Or.inl ⟨_, rfl, rfl, by decide⟩)) ?_
  refine akC (kc_istore (k := 1) rfl (by decide) (by decide +kernel)) ?_
  refine akC (kc_iload (k := 1) rfl (by decide +kernel)) ?_
  refine akC (kc_const (ins := .iconst 4) (by decide +kernel) (Or.inl ⟨_, rfl, rfl, by decide⟩)) ?_
  refine akC (kc_ge (off := 22) (by decide) (by decide +kernel)) ?_
  refine akC (kc_aload (k := 0) rfl (by decide +kernel)) ?_
  refine akC (kc_get ck10 (by decide) (by decide) tw525 (by decide +kernel)) ?_
  refine akC (kc_iload (k := 1) rfl (by decide +kernel)) ?_
  refine akC (kc_new ck5 (by decide) rfl blS_ok tw461 tw463 tw105 (by decide +kernel)) ?_
  refine akC (kc_dup (by decide +kernel)) ?_
  refine akC (kc_init (d' := 1) (kAS l) iAS rfl tw465 (by decide) (Or.inr ⟨_, tw464⟩) (by decide +kernel)) ?_
  refine akC (kc_aast (t0 := 7) (r := (RX5, TX5, 3)) (by decide) rfl rfl (by decide +kernel)) ?_
  refine akC (kc_iinc (by decide) (by decide +kernel)) ?_
  refine akC (kc_goto (off := (-21)) (by decide) (by decide +kernel)) ?_
  refine akC (kc_aload (k := 0) rfl (by decide +kernel)) ?_
  refine akC (kc_new ck8 (by decide) rfl blV_ok tw485 tw486 tw106 (by decide +kernel)) ?_
  refine akC (kc_dup (by decide +kernel)) ?_
  refine akC (kc_init (d' := 1) (kAV l) iAV rfl tw488 (by decide) (Or.inr ⟨_, tw487⟩) (by decide +kernel)) ?_
  refine akC (kc_put ck10 (by decide) (by decide) (Or.inl ⟨_, rfl⟩) (Or.inr ⟨rfl, rfl⟩) tw526 (by decide +kernel)) ?_
  refine akC (kc_aload (k := 0) rfl (by decide +kernel)) ?_
  refine akC (kc_new ck3 (by decide) rfl blP_ok tw509 tw510 tw107 (by decide +kernel)) ?_
  refine akC (kc_dup (by decide +kernel)) ?_
  refine akC (kc_init (d' := 1) (kAP l) iAP rfl tw512 (by decide) (Or.inr ⟨_, tw511⟩) (by decide +kernel)) ?_
  refine akC (kc_put ck10 (by decide) (by decide) (Or.inl ⟨_, rfl⟩) (Or.inr ⟨rfl, rfl⟩) tw527 (by decide +kernel)) ?_
  refine akC (kc_aload (k := 0) rfl (by decide +kernel)) ?_
  refine akC (kc_const (ins := .bipush 6) (by decide +kernel) (Or.inr (Or.inl ⟨_, rfl, rfl, by decide⟩))) ?_
  refine akC (kc_newI (atype := .int) rfl (Or.inl ⟨rfl, rfl, rfl, rfl⟩) tw167 (by decide +kernel)) ?_
  refine akC (kc_put ck10 (by decide) (by decide) (Or.inr ⟨_, rfl⟩) (Or.inr ⟨rfl, rfl⟩) tw528 (by decide +kernel)) ?_
  refine akC (kc_aload (k := 0) rfl (by decide +kernel)) ?_
  refine akC (kc_const (ins := .iconst 0) (by decide +kernel) (Or.inl ⟨_, rfl, rfl, by decide⟩)) ?_
  refine akC (kc_putI ck10 (by decide) (by decide) rfl rfl tw529 (by decide +kernel)) ?_
  refine akC (kc_ret (by decide +kernel)) ?_
  exact trivial
def nAF (j : Nat) (X : List CC) : Option (List CC) := runC cAF 381 5218 4000 0 (.inr (.inl (some j)) :: List.replicate 1 (.inr (.inr ())), [], X, 0, 0)
theorem kAF {E : EA} (l : Launch) : DenA E l 3 381 5218 yAF prog_1_method_1_code 2 nAF := fun _ _ _ h => conA_of (n := 1) iAF rfl rfl (oAF l) h
/-! FreeLancesModel -/
def blK : List CV := [.inr none, .inr none, .inr none, .inr none, .inl 0, .inr none, .inr none, .inr none, .inr none, .inr none, .inl 0, .inl 0, .inl 0, .inr none, .inr none, .inl 0, .inr none, .inr none, .inr none, .inl 0, .inl 0, .inr none, .inl 0, .inr none, .inr none, .inr none, .inr none]
theorem blK_ok : ∀ j, j < 27 → ∀ B, defaultValue (tyX11 j) = vp_V (blK.map (cvV B)) j := by
  intro j hj B
  match j, hj with
  | 0, _ => exact rfl
  | 1, _ => exact rfl
  | 2, _ => exact rfl
  | 3, _ => exact rfl
  | 4, _ => exact rfl
  | 5, _ => exact rfl
  | 6, _ => exact rfl
  | 7, _ => exact rfl
  | 8, _ => exact rfl
  | 9, _ => exact rfl
  | 10, _ => exact rfl
  | 11, _ => exact rfl
  | 12, _ => exact rfl
  | 13, _ => exact rfl
  | 14, _ => exact rfl
  | 15, _ => exact rfl
  | 16, _ => exact rfl
  | 17, _ => exact rfl
  | 18, _ => exact rfl
  | 19, _ => exact rfl
  | 20, _ => exact rfl
  | 21, _ => exact rfl
  | 22, _ => exact rfl
  | 23, _ => exact rfl
  | 24, _ => exact rfl
  | 25, _ => exact rfl
  | 26, _ => exact rfl
  | n + 27, h => exact absurd h (by omega)
def cAK : List EnC := [(0, .inl (cLdA 0 0)),
  (1, .inl (cObj 1)),
  (4, .inl (cLdA 4 0)),
  (5, .inl (cC 5 3 1502)),
  (8, .inl (cNewa 8 2 100 (.inl 0) 19 4866)),
  (10, .inl (cPut 10 11 0)),
  (13, .inl (cLdA 13 0)),
  (14, .inl (cC 14 3 1502)),
  (17, .inl (cNewa 17 2 100 (.inl 0) 19 4866)),
  (19, .inl (cPut 19 11 1)),
  (22, .inl (cLdA 22 0)),
  (23, .inl (cC 23 3 1502)),
  (26, .inl (cNewa 26 2 100 (.inl 0) 19 4866)),
  (28, .inl (cPut 28 11 2)),
  (31, .inl (cLdA 31 0)),
  (32, .inl (cC 32 2 6)),
  (34, .inl (cNewa 34 2 100 (.inl 0) 19 4866)),
  (36, .inl (cPut 36 11 3)),
  (39, .inl (cLdA 39 0)),
  (40, .inl (cC 40 2 8)),
  (42, .inl (cNewa 42 2 100 (.inl 0) 19 4866)),
  (44, .inl (cPut 44 11 5)),
  (47, .inl (cLdA 47 0)),
  (48, .inl (cC 48 2 50)),
  (50, .inl (cNewa 50 2 100 (.inl 0) 19 4866)),
  (52, .inl (cPut 52 11 6)),
  (55, .inl (cLdA 55 0)),
  (56, .inl (cC 56 2 50)),
  (58, .inl (cNewa 58 2 100 (.inl 0) 19 4866)),
  (60, .inl (cPut 60 11 7)),
  (63, .inl (cLdA 63 0)),
  (64, .inl (cC 64 2 50)),
  (66, .inl (cNewa 66 2 100 (.inl 0) 19 4866)),
  (68, .inl (cPut 68 11 8)),
  (71, .inl (cLdA 71 0)),
  (72, .inl (cC 72 1 3)),
  (73, .inl (cNewa 73 2 100 (.inl 0) 19 4866)),
  (75, .inl (cPut 75 11 9)),
  (78, .inl (cLdA 78 0)),
  (79, .inl (cC 79 1 5)),
  (80, .inl (cNewa 80 2 100 (.inl 0) 19 4866)),
  (82, .inl (cPut 82 11 13)),
  (85, .inl (cLdA 85 0)),
  (86, .inl (cC 86 1 5)),
  (87, .inl (cNewa 87 2 100 (.inl 0) 19 4866)),
  (89, .inl (cPut 89 11 14)),
  (92, .inl (cLdA 92 0)),
  (93, .inl (cC 93 1 5)),
  (94, .inl (cNewa 94 2 100 (.inl 0) 19 4866)),
  (96, .inl (cPut 96 11 16)),
  (99, .inl (cLdA 99 0)),
  (100, .inl (cC 100 1 5)),
  (101, .inl (cNewa 101 2 100 (.inl 0) 19 4866)),
  (103, .inl (cPut 103 11 17)),
  (106, .inl (cLdA 106 0)),
  (107, .inl (cC 107 1 5)),
  (108, .inl (cNewa 108 2 100 (.inl 0) 19 4866)),
  (110, .inl (cPut 110 11 18)),
  (113, .inl (cLdA 113 0)),
  (114, .inl (cC 114 2 40)),
  (116, .inl (cNewa 116 2 100 (.inl 0) 19 4866)),
  (118, .inl (cPut 118 11 21)),
  (121, .inl (cLdA 121 0)),
  (122, .inl (cC 122 1 4)),
  (123, .inl (cNewa 123 2 100 (.inl 0) 19 4866)),
  (125, .inl (cPut 125 11 23)),
  (128, .inl (cLdA 128 0)),
  (129, .inl (cC 129 1 4)),
  (130, .inl (cNewa 130 2 100 (.inl 0) 19 4866)),
  (132, .inl (cPut 132 11 24)),
  (135, .inl (cLdA 135 0)),
  (136, .inl (cC 136 2 96)),
  (138, .inl (cNewa 138 2 100 (.inl 0) 19 4866)),
  (140, .inl (cPut 140 11 25)),
  (143, .inl (cLdA 143 0)),
  (144, .inl (cC 144 2 24)),
  (146, .inl (cNewa 146 2 100 (.inl 0) 19 4866)),
  (148, .inl (cPut 148 11 26)),
  (151, .inr ())]
abbrev yAK : MethodName := ⟨"FreeLancesModel", "<init>", "()V"⟩
theorem iAK : MI yAK prog_13_method_1_code 1 none 0 := ⟨tw1240, tw108, ⟨by decide, by decide⟩, by decide +kernel, by decide, by decide⟩
theorem oAK {E : EA} (l : Launch) : AllC E l 1 19 4866 "FreeLancesModel" prog_13_method_1_code 1 cAK := by
  refine akC (kc_aload (k := 0) rfl (by decide +kernel)) ?_
  refine akC (kc_obj (by decide) tw1241 tw118 tw119 (by decide +kernel)) ?_
  refine akC (kc_aload (k := 0) rfl (by decide +kernel)) ?_
  refine akC (kc_const (ins := .sipush 1502) (by decide +kernel) (Or.inr (Or.inr ⟨_, rfl, rfl, by decide⟩))) ?_
  refine akC (kc_newI (atype := .int) rfl (Or.inl ⟨rfl, rfl, rfl, rfl⟩) tw167 (by decide +kernel)) ?_
  refine akC (kc_put ck11 (by decide) (by decide) (Or.inr ⟨_, rfl⟩) (Or.inr ⟨rfl, rfl⟩) tw1242 (by decide +kernel)) ?_
  refine akC (kc_aload (k := 0) rfl (by decide +kernel)) ?_
  refine akC (kc_const (ins := .sipush 1502) (by decide +kernel) (Or.inr (Or.inr ⟨_, rfl, rfl, by decide⟩))) ?_
  refine akC (kc_newI (atype := .int) rfl (Or.inl ⟨rfl, rfl, rfl, rfl⟩) tw167 (by decide +kernel)) ?_
  refine akC (kc_put ck11 (by decide) (by decide) (Or.inr ⟨_, rfl⟩) (Or.inr ⟨rfl, rfl⟩) tw1243 (by decide +kernel)) ?_
  refine akC (kc_aload (k := 0) rfl (by decide +kernel)) ?_
  refine akC (kc_const (ins := .sipush 1502) (by decide +kernel) (Or.inr (Or.inr ⟨_, rfl, rfl, by decide⟩))) ?_
  refine akC (kc_newI (atype := .int) rfl (Or.inl ⟨rfl, rfl, rfl, rfl⟩) tw167 (by decide +kernel)) ?_
  refine akC (kc_put ck11 (by decide) (by decide) (Or.inr ⟨_, rfl⟩) (Or.inr ⟨rfl, rfl⟩) tw1244 (by decide +kernel)) ?_
  refine akC (kc_aload (k := 0) rfl (by decide +kernel)) ?_
  refine akC (kc_const (ins := .bipush 6) (by decide +kernel) (Or.inr (Or.inl ⟨_, rfl, rfl, by decide⟩))) ?_
  refine akC (kc_newI (atype := .int) rfl (Or.inl ⟨rfl, rfl, rfl, rfl⟩) tw167 (by decide +kernel)) ?_
  refine akC (kc_put ck11 (by decide) (by decide) (Or.inr ⟨_, rfl⟩) (Or.inr ⟨rfl, rfl⟩) tw1245 (by decide +kernel)) ?_
  refine akC (kc_aload (k := 0) rfl (by decide +kernel)) ?_
  refine akC (kc_const (ins := .bipush 8) (by decide +kernel) (Or.inr (Or.inl ⟨_, rfl, rfl, by decide⟩))) ?_
  refine akC (kc_newI (atype := .int) rfl (Or.inl ⟨rfl, rfl, rfl, rfl⟩) tw167 (by decide +kernel)) ?_
  refine akC (kc_put ck11 (by decide) (by decide) (Or.inr ⟨_, rfl⟩) (Or.inr ⟨rfl, rfl⟩) tw1247 (by decide +kernel)) ?_
  refine akC (kc_aload (k := 0) rfl (by decide +kernel)) ?_
  refine akC (kc_const (ins := .bipush 50) (by decide +kernel) (Or.inr (Or.inl ⟨_, rfl, rfl, by decide⟩))) ?_
  refine akC (kc_newI (atype := .int) rfl (Or.inl ⟨rfl, rfl, rfl, rfl⟩) tw167 (by decide +kernel)) ?_
  refine akC (kc_put ck11 (by decide) (by decide) (Or.inr ⟨_, rfl⟩) (Or.inr ⟨rfl, rfl⟩) tw1248 (by decide +kernel)) ?_
  refine akC (kc_aload (k := 0) rfl (by decide +kernel)) ?_
  refine akC (kc_const (ins := .bipush 50) (by decide +kernel) (Or.inr (Or.inl ⟨_, rfl, rfl, by decide⟩))) ?_
  refine akC (kc_newI (atype := .int) rfl (Or.inl ⟨rfl, rfl, rfl, rfl⟩) tw167 (by decide +kernel)) ?_
  refine akC (kc_put ck11 (by decide) (by decide) (Or.inr ⟨_, rfl⟩) (Or.inr ⟨rfl, rfl⟩) tw1249 (by decide +kernel)) ?_
  refine akC (kc_aload (k := 0) rfl (by decide +kernel)) ?_
  refine akC (kc_const (ins := .bipush 50) (by decide +kernel) (Or.inr (Or.inl ⟨_, rfl, rfl, by decide⟩))) ?_
  refine akC (kc_newI (atype := .int) rfl (Or.inl ⟨rfl, rfl, rfl, rfl⟩) tw167 (by decide +kernel)) ?_
  refine akC (kc_put ck11 (by decide) (by decide) (Or.inr ⟨_, rfl⟩) (Or.inr ⟨rfl, rfl⟩) tw1250 (by decide +kernel)) ?_
  refine akC (kc_aload (k := 0) rfl (by decide +kernel)) ?_
  refine akC (kc_const (ins := .iconst 3) (by decide +kernel) (Or.inl ⟨_, rfl, rfl, by decide⟩)) ?_
  refine akC (kc_newI (atype := .int) rfl (Or.inl ⟨rfl, rfl, rfl, rfl⟩) tw167 (by decide +kernel)) ?_
  refine akC (kc_put ck11 (by decide) (by decide) (Or.inr ⟨_, rfl⟩) (Or.inr ⟨rfl, rfl⟩) tw1251 (by decide +kernel)) ?_
  refine akC (kc_aload (k := 0) rfl (by decide +kernel)) ?_
  refine akC (kc_const (ins := .iconst 5) (by decide +kernel) (Or.inl ⟨_, rfl, rfl, by decide⟩)) ?_
  refine akC (kc_newI (atype := .int) rfl (Or.inl ⟨rfl, rfl, rfl, rfl⟩) tw167 (by decide +kernel)) ?_
  refine akC (kc_put ck11 (by decide) (by decide) (Or.inr ⟨_, rfl⟩) (Or.inr ⟨rfl, rfl⟩) tw1255 (by decide +kernel)) ?_
  refine akC (kc_aload (k := 0) rfl (by decide +kernel)) ?_
  refine akC (kc_const (ins := .iconst 5) (by decide +kernel) (Or.inl ⟨_, rfl, rfl, by decide⟩)) ?_
  refine akC (kc_newI (atype := .int) rfl (Or.inl ⟨rfl, rfl, rfl, rfl⟩) tw167 (by decide +kernel)) ?_
  refine akC (kc_put ck11 (by decide) (by decide) (Or.inr ⟨_, rfl⟩) (Or.inr ⟨rfl, rfl⟩) tw1256 (by decide +kernel)) ?_
  refine akC (kc_aload (k := 0) rfl (by decide +kernel)) ?_
  refine akC (kc_const (ins := .iconst 5) (by decide +kernel) (Or.inl ⟨_, rfl, rfl, by decide⟩)) ?_
  refine akC (kc_newI (atype := .int) rfl (Or.inl ⟨rfl, rfl, rfl, rfl⟩) tw167 (by decide +kernel)) ?_
  refine akC (kc_put ck11 (by decide) (by decide) (Or.inr ⟨_, rfl⟩) (Or.inr ⟨rfl, rfl⟩) tw1258 (by decide +kernel)) ?_
  refine akC (kc_aload (k := 0) rfl (by decide +kernel)) ?_
  refine akC (kc_const (ins := .iconst 5) (by decide +kernel) (Or.inl ⟨_, rfl, rfl, by decide⟩)) ?_
  refine akC (kc_newI (atype := .int) rfl (Or.inl ⟨rfl, rfl, rfl, rfl⟩) tw167 (by decide +kernel)) ?_
  refine akC (kc_put ck11 (by decide) (by decide) (Or.inr ⟨_, rfl⟩) (Or.inr ⟨rfl, rfl⟩) tw1259 (by decide +kernel)) ?_
  refine akC (kc_aload (k := 0) rfl (by decide +kernel)) ?_
  refine akC (kc_const (ins := .iconst 5) (by decide +kernel) (Or.inl ⟨_, rfl, rfl, by decide⟩)) ?_
  refine akC (kc_newI (atype := .int) rfl (Or.inl ⟨rfl, rfl, rfl, rfl⟩) tw167 (by decide +kernel)) ?_
  refine akC (kc_put ck11 (by decide) (by decide) (Or.inr ⟨_, rfl⟩) (Or.inr ⟨rfl, rfl⟩) tw1260 (by decide +kernel)) ?_
  refine akC (kc_aload (k := 0) rfl (by decide +kernel)) ?_
  refine akC (kc_const (ins := .bipush 40) (by decide +kernel) (Or.inr (Or.inl ⟨_, rfl, rfl, by decide⟩))) ?_
  refine akC (kc_newI (atype := .int) rfl (Or.inl ⟨rfl, rfl, rfl, rfl⟩) tw167 (by decide +kernel)) ?_
  refine akC (kc_put ck11 (by decide) (by decide) (Or.inr ⟨_, rfl⟩) (Or.inr ⟨rfl, rfl⟩) tw1263 (by decide +kernel)) ?_
  refine akC (kc_aload (k := 0) rfl (by decide +kernel)) ?_
  refine akC (kc_const (ins := .iconst 4) (by decide +kernel) (Or.inl ⟨_, rfl, rfl, by decide⟩)) ?_
  refine akC (kc_newI (atype := .int) rfl (Or.inl ⟨rfl, rfl, rfl, rfl⟩) tw167 (by decide +kernel)) ?_
  refine akC (kc_put ck11 (by decide) (by decide) (Or.inr ⟨_, rfl⟩) (Or.inr ⟨rfl, rfl⟩) tw1265 (by decide +kernel)) ?_
  refine akC (kc_aload (k := 0) rfl (by decide +kernel)) ?_
  refine akC (kc_const (ins := .iconst 4) (by decide +kernel) (Or.inl ⟨_, rfl, rfl, by decide⟩)) ?_
  refine akC (kc_newI (atype := .int) rfl (Or.inl ⟨rfl, rfl, rfl, rfl⟩) tw167 (by decide +kernel)) ?_
  refine akC (kc_put ck11 (by decide) (by decide) (Or.inr ⟨_, rfl⟩) (Or.inr ⟨rfl, rfl⟩) tw1266 (by decide +kernel)) ?_
  refine akC (kc_aload (k := 0) rfl (by decide +kernel)) ?_
  refine akC (kc_const (ins := .bipush 96) (by decide +kernel) (Or.inr (Or.inl ⟨_, rfl, rfl, by decide⟩))) ?_
  refine akC (kc_newI (atype := .int) rfl (Or.inl ⟨rfl, rfl, rfl, rfl⟩) tw167 (by decide +kernel)) ?_
  refine akC (kc_put ck11 (by decide) (by decide) (Or.inr ⟨_, rfl⟩) (Or.inr ⟨rfl, rfl⟩) tw1267 (by decide +kernel)) ?_
  refine akC (kc_aload (k := 0) rfl (by decide +kernel)) ?_
  refine akC (kc_const (ins := .bipush 24) (by decide +kernel) (Or.inr (Or.inl ⟨_, rfl, rfl, by decide⟩))) ?_
  refine akC (kc_newI (atype := .int) rfl (Or.inl ⟨rfl, rfl, rfl, rfl⟩) tw167 (by decide +kernel)) ?_
  refine akC (kc_put ck11 (by decide) (by decide) (Or.inr ⟨_, rfl⟩) (Or.inr ⟨rfl, rfl⟩) tw1268 (by decide +kernel)) ?_
  refine akC (kc_ret (by decide +kernel)) ?_
  exact trivial
def nAK (j : Nat) (X : List CC) : Option (List CC) := runC cAK 19 4866 4000 0 (.inr (.inl (some j)) :: List.replicate 0 (.inr (.inr ())), [], X, 0, 0)
theorem kAK {E : EA} (l : Launch) : DenA E l 1 19 4866 yAK prog_13_method_1_code 1 nAK := fun _ _ _ h => conA_of (n := 0) iAK rfl rfl (oAK l) h
