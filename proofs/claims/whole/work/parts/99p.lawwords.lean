/-! ===== the words of the law ===== -/
set_option maxRecDepth 100000 in
theorem qlF_town : Cond.methodLink R_law 13 ⟨"FreeLances", "town", "(II)I"⟩ ∈ tbT := sub_2 (List.mem_of_getElem? (i := 211) rfl) rfl
set_option maxRecDepth 100000 in
theorem qiF_town : Cond.instanceMethod ⟨"FreeLances", "town", "(II)I"⟩ ∈ tbT := sub_2 (List.mem_of_getElem? (i := 212) rfl) rfl
set_option maxRecDepth 100000 in
theorem qsF_town : Cond.selects "FreeLances" ⟨"FreeLances", "town", "(II)I"⟩ ⟨"FreeLances", "town", "(II)I"⟩ ∈ tbT := sub_2 (List.mem_of_getElem? (i := 213) rfl) rfl
set_option maxRecDepth 100000 in
theorem qlK_town : Cond.methodLink R_law 17 ⟨"FreeLancesModel", "town", "(II)I"⟩ ∈ tbT := sub_6 (List.mem_of_getElem? (i := 28) rfl) rfl
set_option maxRecDepth 100000 in
theorem qiK_town : Cond.instanceMethod ⟨"FreeLancesModel", "town", "(II)I"⟩ ∈ tbT := sub_6 (List.mem_of_getElem? (i := 29) rfl) rfl
set_option maxRecDepth 100000 in
theorem qsK_town : Cond.selects "FreeLancesModel" ⟨"FreeLancesModel", "town", "(II)I"⟩ ⟨"FreeLancesModel", "town", "(II)I"⟩ ∈ tbT := sub_6 (List.mem_of_getElem? (i := 30) rfl) rfl
set_option maxRecDepth 100000 in
theorem qlF_road : Cond.methodLink R_law 18 ⟨"FreeLances", "road", "(III)I"⟩ ∈ tbT := sub_2 (List.mem_of_getElem? (i := 228) rfl) rfl
set_option maxRecDepth 100000 in
theorem qiF_road : Cond.instanceMethod ⟨"FreeLances", "road", "(III)I"⟩ ∈ tbT := sub_2 (List.mem_of_getElem? (i := 229) rfl) rfl
set_option maxRecDepth 100000 in
theorem qsF_road : Cond.selects "FreeLances" ⟨"FreeLances", "road", "(III)I"⟩ ⟨"FreeLances", "road", "(III)I"⟩ ∈ tbT := sub_2 (List.mem_of_getElem? (i := 230) rfl) rfl
set_option maxRecDepth 100000 in
theorem qlK_road : Cond.methodLink R_law 22 ⟨"FreeLancesModel", "road", "(III)I"⟩ ∈ tbT := sub_6 (List.mem_of_getElem? (i := 41) rfl) rfl
set_option maxRecDepth 100000 in
theorem qiK_road : Cond.instanceMethod ⟨"FreeLancesModel", "road", "(III)I"⟩ ∈ tbT := sub_6 (List.mem_of_getElem? (i := 42) rfl) rfl
set_option maxRecDepth 100000 in
theorem qsK_road : Cond.selects "FreeLancesModel" ⟨"FreeLancesModel", "road", "(III)I"⟩ ⟨"FreeLancesModel", "road", "(III)I"⟩ ∈ tbT := sub_6 (List.mem_of_getElem? (i := 43) rfl) rfl
set_option maxRecDepth 100000 in
theorem qlF_far : Cond.methodLink R_law 23 ⟨"FreeLances", "far", "(II)I"⟩ ∈ tbT := sub_3 (List.mem_of_getElem? (i := 7) rfl) rfl
set_option maxRecDepth 100000 in
theorem qiF_far : Cond.instanceMethod ⟨"FreeLances", "far", "(II)I"⟩ ∈ tbT := sub_3 (List.mem_of_getElem? (i := 8) rfl) rfl
set_option maxRecDepth 100000 in
theorem qsF_far : Cond.selects "FreeLances" ⟨"FreeLances", "far", "(II)I"⟩ ⟨"FreeLances", "far", "(II)I"⟩ ∈ tbT := sub_3 (List.mem_of_getElem? (i := 9) rfl) rfl
set_option maxRecDepth 100000 in
theorem qlK_far : Cond.methodLink R_law 26 ⟨"FreeLancesModel", "far", "(II)I"⟩ ∈ tbT := sub_6 (List.mem_of_getElem? (i := 49) rfl) rfl
set_option maxRecDepth 100000 in
theorem qiK_far : Cond.instanceMethod ⟨"FreeLancesModel", "far", "(II)I"⟩ ∈ tbT := sub_6 (List.mem_of_getElem? (i := 50) rfl) rfl
set_option maxRecDepth 100000 in
theorem qsK_far : Cond.selects "FreeLancesModel" ⟨"FreeLancesModel", "far", "(II)I"⟩ ⟨"FreeLancesModel", "far", "(II)I"⟩ ∈ tbT := sub_6 (List.mem_of_getElem? (i := 51) rfl) rfl
set_option maxRecDepth 100000 in
theorem qlF_townIs : Cond.methodLink R_law 27 ⟨"FreeLances", "townIs", "(II)I"⟩ ∈ tbT := sub_3 (List.mem_of_getElem? (i := 13) rfl) rfl
set_option maxRecDepth 100000 in
theorem qiF_townIs : Cond.instanceMethod ⟨"FreeLances", "townIs", "(II)I"⟩ ∈ tbT := sub_3 (List.mem_of_getElem? (i := 14) rfl) rfl
set_option maxRecDepth 100000 in
theorem qsF_townIs : Cond.selects "FreeLances" ⟨"FreeLances", "townIs", "(II)I"⟩ ⟨"FreeLances", "townIs", "(II)I"⟩ ∈ tbT := sub_3 (List.mem_of_getElem? (i := 15) rfl) rfl
set_option maxRecDepth 100000 in
theorem qlK_townIs : Cond.methodLink R_law 30 ⟨"FreeLancesModel", "townIs", "(II)I"⟩ ∈ tbT := sub_6 (List.mem_of_getElem? (i := 57) rfl) rfl
set_option maxRecDepth 100000 in
theorem qiK_townIs : Cond.instanceMethod ⟨"FreeLancesModel", "townIs", "(II)I"⟩ ∈ tbT := sub_6 (List.mem_of_getElem? (i := 58) rfl) rfl
set_option maxRecDepth 100000 in
theorem qsK_townIs : Cond.selects "FreeLancesModel" ⟨"FreeLancesModel", "townIs", "(II)I"⟩ ⟨"FreeLancesModel", "townIs", "(II)I"⟩ ∈ tbT := sub_6 (List.mem_of_getElem? (i := 59) rfl) rfl
set_option maxRecDepth 100000 in
theorem qlF_wall : Cond.methodLink R_law 31 ⟨"FreeLances", "wall", "(III)I"⟩ ∈ tbT := sub_3 (List.mem_of_getElem? (i := 21) rfl) rfl
set_option maxRecDepth 100000 in
theorem qiF_wall : Cond.instanceMethod ⟨"FreeLances", "wall", "(III)I"⟩ ∈ tbT := sub_3 (List.mem_of_getElem? (i := 22) rfl) rfl
set_option maxRecDepth 100000 in
theorem qsF_wall : Cond.selects "FreeLances" ⟨"FreeLances", "wall", "(III)I"⟩ ⟨"FreeLances", "wall", "(III)I"⟩ ∈ tbT := sub_3 (List.mem_of_getElem? (i := 23) rfl) rfl
set_option maxRecDepth 100000 in
theorem qlK_wall : Cond.methodLink R_law 34 ⟨"FreeLancesModel", "wall", "(III)I"⟩ ∈ tbT := sub_6 (List.mem_of_getElem? (i := 69) rfl) rfl
set_option maxRecDepth 100000 in
theorem qiK_wall : Cond.instanceMethod ⟨"FreeLancesModel", "wall", "(III)I"⟩ ∈ tbT := sub_6 (List.mem_of_getElem? (i := 70) rfl) rfl
set_option maxRecDepth 100000 in
theorem qsK_wall : Cond.selects "FreeLancesModel" ⟨"FreeLancesModel", "wall", "(III)I"⟩ ⟨"FreeLancesModel", "wall", "(III)I"⟩ ∈ tbT := sub_6 (List.mem_of_getElem? (i := 71) rfl) rfl
set_option maxRecDepth 100000 in
theorem qlF_harvest : Cond.methodLink R_law 35 ⟨"FreeLances", "harvest", "(II)I"⟩ ∈ tbT := sub_3 (List.mem_of_getElem? (i := 25) rfl) rfl
set_option maxRecDepth 100000 in
theorem qiF_harvest : Cond.instanceMethod ⟨"FreeLances", "harvest", "(II)I"⟩ ∈ tbT := sub_3 (List.mem_of_getElem? (i := 26) rfl) rfl
set_option maxRecDepth 100000 in
theorem qsF_harvest : Cond.selects "FreeLances" ⟨"FreeLances", "harvest", "(II)I"⟩ ⟨"FreeLances", "harvest", "(II)I"⟩ ∈ tbT := sub_3 (List.mem_of_getElem? (i := 27) rfl) rfl
set_option maxRecDepth 100000 in
theorem qlK_harvest : Cond.methodLink R_law 38 ⟨"FreeLancesModel", "harvest", "(II)I"⟩ ∈ tbT := sub_6 (List.mem_of_getElem? (i := 73) rfl) rfl
set_option maxRecDepth 100000 in
theorem qiK_harvest : Cond.instanceMethod ⟨"FreeLancesModel", "harvest", "(II)I"⟩ ∈ tbT := sub_6 (List.mem_of_getElem? (i := 74) rfl) rfl
set_option maxRecDepth 100000 in
theorem qsK_harvest : Cond.selects "FreeLancesModel" ⟨"FreeLancesModel", "harvest", "(II)I"⟩ ⟨"FreeLancesModel", "harvest", "(II)I"⟩ ∈ tbT := sub_6 (List.mem_of_getElem? (i := 75) rfl) rfl
set_option maxRecDepth 100000 in
theorem qlF_company : Cond.methodLink R_law 39 ⟨"FreeLances", "company", "(III)I"⟩ ∈ tbT := sub_3 (List.mem_of_getElem? (i := 30) rfl) rfl
set_option maxRecDepth 100000 in
theorem qiF_company : Cond.instanceMethod ⟨"FreeLances", "company", "(III)I"⟩ ∈ tbT := sub_3 (List.mem_of_getElem? (i := 31) rfl) rfl
set_option maxRecDepth 100000 in
theorem qsF_company : Cond.selects "FreeLances" ⟨"FreeLances", "company", "(III)I"⟩ ⟨"FreeLances", "company", "(III)I"⟩ ∈ tbT := sub_3 (List.mem_of_getElem? (i := 32) rfl) rfl
set_option maxRecDepth 100000 in
theorem qlK_company : Cond.methodLink R_law 42 ⟨"FreeLancesModel", "company", "(III)I"⟩ ∈ tbT := sub_6 (List.mem_of_getElem? (i := 82) rfl) rfl
set_option maxRecDepth 100000 in
theorem qiK_company : Cond.instanceMethod ⟨"FreeLancesModel", "company", "(III)I"⟩ ∈ tbT := sub_6 (List.mem_of_getElem? (i := 83) rfl) rfl
set_option maxRecDepth 100000 in
theorem qsK_company : Cond.selects "FreeLancesModel" ⟨"FreeLancesModel", "company", "(III)I"⟩ ⟨"FreeLancesModel", "company", "(III)I"⟩ ∈ tbT := sub_6 (List.mem_of_getElem? (i := 84) rfl) rfl
set_option maxRecDepth 100000 in
theorem qlF_march : Cond.methodLink R_law 43 ⟨"FreeLances", "march", "(II)I"⟩ ∈ tbT := sub_3 (List.mem_of_getElem? (i := 38) rfl) rfl
set_option maxRecDepth 100000 in
theorem qiF_march : Cond.instanceMethod ⟨"FreeLances", "march", "(II)I"⟩ ∈ tbT := sub_3 (List.mem_of_getElem? (i := 39) rfl) rfl
set_option maxRecDepth 100000 in
theorem qsF_march : Cond.selects "FreeLances" ⟨"FreeLances", "march", "(II)I"⟩ ⟨"FreeLances", "march", "(II)I"⟩ ∈ tbT := sub_3 (List.mem_of_getElem? (i := 40) rfl) rfl
set_option maxRecDepth 100000 in
theorem qlK_march : Cond.methodLink R_law 46 ⟨"FreeLancesModel", "march", "(II)I"⟩ ∈ tbT := sub_6 (List.mem_of_getElem? (i := 90) rfl) rfl
set_option maxRecDepth 100000 in
theorem qiK_march : Cond.instanceMethod ⟨"FreeLancesModel", "march", "(II)I"⟩ ∈ tbT := sub_6 (List.mem_of_getElem? (i := 91) rfl) rfl
set_option maxRecDepth 100000 in
theorem qsK_march : Cond.selects "FreeLancesModel" ⟨"FreeLancesModel", "march", "(II)I"⟩ ⟨"FreeLancesModel", "march", "(II)I"⟩ ∈ tbT := sub_6 (List.mem_of_getElem? (i := 92) rfl) rfl
set_option maxRecDepth 100000 in
theorem qlF_buy : Cond.methodLink R_law 47 ⟨"FreeLances", "buy", "(II)I"⟩ ∈ tbT := sub_3 (List.mem_of_getElem? (i := 50) rfl) rfl
set_option maxRecDepth 100000 in
theorem qiF_buy : Cond.instanceMethod ⟨"FreeLances", "buy", "(II)I"⟩ ∈ tbT := sub_3 (List.mem_of_getElem? (i := 51) rfl) rfl
set_option maxRecDepth 100000 in
theorem qsF_buy : Cond.selects "FreeLances" ⟨"FreeLances", "buy", "(II)I"⟩ ⟨"FreeLances", "buy", "(II)I"⟩ ∈ tbT := sub_3 (List.mem_of_getElem? (i := 52) rfl) rfl
set_option maxRecDepth 100000 in
theorem qlK_buy : Cond.methodLink R_law 50 ⟨"FreeLancesModel", "buy", "(II)I"⟩ ∈ tbT := sub_6 (List.mem_of_getElem? (i := 98) rfl) rfl
set_option maxRecDepth 100000 in
theorem qiK_buy : Cond.instanceMethod ⟨"FreeLancesModel", "buy", "(II)I"⟩ ∈ tbT := sub_6 (List.mem_of_getElem? (i := 99) rfl) rfl
set_option maxRecDepth 100000 in
theorem qsK_buy : Cond.selects "FreeLancesModel" ⟨"FreeLancesModel", "buy", "(II)I"⟩ ⟨"FreeLancesModel", "buy", "(II)I"⟩ ∈ tbT := sub_6 (List.mem_of_getElem? (i := 100) rfl) rfl
set_option maxRecDepth 100000 in
theorem qlF_about : Cond.methodLink R_law 51 ⟨"FreeLances", "about", "(II)I"⟩ ∈ tbT := sub_3 (List.mem_of_getElem? (i := 54) rfl) rfl
set_option maxRecDepth 100000 in
theorem qiF_about : Cond.instanceMethod ⟨"FreeLances", "about", "(II)I"⟩ ∈ tbT := sub_3 (List.mem_of_getElem? (i := 55) rfl) rfl
set_option maxRecDepth 100000 in
theorem qsF_about : Cond.selects "FreeLances" ⟨"FreeLances", "about", "(II)I"⟩ ⟨"FreeLances", "about", "(II)I"⟩ ∈ tbT := sub_3 (List.mem_of_getElem? (i := 56) rfl) rfl
set_option maxRecDepth 100000 in
theorem qlK_about : Cond.methodLink R_law 54 ⟨"FreeLancesModel", "about", "(II)I"⟩ ∈ tbT := sub_6 (List.mem_of_getElem? (i := 102) rfl) rfl
set_option maxRecDepth 100000 in
theorem qiK_about : Cond.instanceMethod ⟨"FreeLancesModel", "about", "(II)I"⟩ ∈ tbT := sub_6 (List.mem_of_getElem? (i := 103) rfl) rfl
set_option maxRecDepth 100000 in
theorem qsK_about : Cond.selects "FreeLancesModel" ⟨"FreeLancesModel", "about", "(II)I"⟩ ⟨"FreeLancesModel", "about", "(II)I"⟩ ∈ tbT := sub_6 (List.mem_of_getElem? (i := 104) rfl) rfl
set_option maxRecDepth 100000 in
theorem qlF_lance : Cond.methodLink R_law 55 ⟨"FreeLances", "lance", "(III)I"⟩ ∈ tbT := sub_3 (List.mem_of_getElem? (i := 74) rfl) rfl
set_option maxRecDepth 100000 in
theorem qiF_lance : Cond.instanceMethod ⟨"FreeLances", "lance", "(III)I"⟩ ∈ tbT := sub_3 (List.mem_of_getElem? (i := 75) rfl) rfl
set_option maxRecDepth 100000 in
theorem qsF_lance : Cond.selects "FreeLances" ⟨"FreeLances", "lance", "(III)I"⟩ ⟨"FreeLances", "lance", "(III)I"⟩ ∈ tbT := sub_3 (List.mem_of_getElem? (i := 76) rfl) rfl
set_option maxRecDepth 100000 in
theorem qlK_lance : Cond.methodLink R_law 58 ⟨"FreeLancesModel", "lance", "(III)I"⟩ ∈ tbT := sub_6 (List.mem_of_getElem? (i := 130) rfl) rfl
set_option maxRecDepth 100000 in
theorem qiK_lance : Cond.instanceMethod ⟨"FreeLancesModel", "lance", "(III)I"⟩ ∈ tbT := sub_6 (List.mem_of_getElem? (i := 131) rfl) rfl
set_option maxRecDepth 100000 in
theorem qsK_lance : Cond.selects "FreeLancesModel" ⟨"FreeLancesModel", "lance", "(III)I"⟩ ⟨"FreeLancesModel", "lance", "(III)I"⟩ ∈ tbT := sub_6 (List.mem_of_getElem? (i := 132) rfl) rfl
set_option maxRecDepth 100000 in
theorem qlF_lanceIs : Cond.methodLink R_law 59 ⟨"FreeLances", "lanceIs", "(II)I"⟩ ∈ tbT := sub_3 (List.mem_of_getElem? (i := 85) rfl) rfl
set_option maxRecDepth 100000 in
theorem qiF_lanceIs : Cond.instanceMethod ⟨"FreeLances", "lanceIs", "(II)I"⟩ ∈ tbT := sub_3 (List.mem_of_getElem? (i := 86) rfl) rfl
set_option maxRecDepth 100000 in
theorem qsF_lanceIs : Cond.selects "FreeLances" ⟨"FreeLances", "lanceIs", "(II)I"⟩ ⟨"FreeLances", "lanceIs", "(II)I"⟩ ∈ tbT := sub_3 (List.mem_of_getElem? (i := 87) rfl) rfl
set_option maxRecDepth 100000 in
theorem qlK_lanceIs : Cond.methodLink R_law 62 ⟨"FreeLancesModel", "lanceIs", "(II)I"⟩ ∈ tbT := sub_6 (List.mem_of_getElem? (i := 134) rfl) rfl
set_option maxRecDepth 100000 in
theorem qiK_lanceIs : Cond.instanceMethod ⟨"FreeLancesModel", "lanceIs", "(II)I"⟩ ∈ tbT := sub_6 (List.mem_of_getElem? (i := 135) rfl) rfl
set_option maxRecDepth 100000 in
theorem qsK_lanceIs : Cond.selects "FreeLancesModel" ⟨"FreeLancesModel", "lanceIs", "(II)I"⟩ ⟨"FreeLancesModel", "lanceIs", "(II)I"⟩ ∈ tbT := sub_6 (List.mem_of_getElem? (i := 136) rfl) rfl
set_option maxRecDepth 100000 in
theorem qlF_over : Cond.methodLink R_law 63 ⟨"FreeLances", "over", "(II)I"⟩ ∈ tbT := sub_3 (List.mem_of_getElem? (i := 93) rfl) rfl
set_option maxRecDepth 100000 in
theorem qiF_over : Cond.instanceMethod ⟨"FreeLances", "over", "(II)I"⟩ ∈ tbT := sub_3 (List.mem_of_getElem? (i := 94) rfl) rfl
set_option maxRecDepth 100000 in
theorem qsF_over : Cond.selects "FreeLances" ⟨"FreeLances", "over", "(II)I"⟩ ⟨"FreeLances", "over", "(II)I"⟩ ∈ tbT := sub_3 (List.mem_of_getElem? (i := 95) rfl) rfl
set_option maxRecDepth 100000 in
theorem qlK_over : Cond.methodLink R_law 66 ⟨"FreeLancesModel", "over", "(II)I"⟩ ∈ tbT := sub_6 (List.mem_of_getElem? (i := 142) rfl) rfl
set_option maxRecDepth 100000 in
theorem qiK_over : Cond.instanceMethod ⟨"FreeLancesModel", "over", "(II)I"⟩ ∈ tbT := sub_6 (List.mem_of_getElem? (i := 143) rfl) rfl
set_option maxRecDepth 100000 in
theorem qsK_over : Cond.selects "FreeLancesModel" ⟨"FreeLancesModel", "over", "(II)I"⟩ ⟨"FreeLancesModel", "over", "(II)I"⟩ ∈ tbT := sub_6 (List.mem_of_getElem? (i := 144) rfl) rfl
set_option maxRecDepth 100000 in
theorem qlF_take : Cond.methodLink R_law 67 ⟨"FreeLances", "take", "(II)I"⟩ ∈ tbT := sub_3 (List.mem_of_getElem? (i := 180) rfl) rfl
set_option maxRecDepth 100000 in
theorem qiF_take : Cond.instanceMethod ⟨"FreeLances", "take", "(II)I"⟩ ∈ tbT := sub_3 (List.mem_of_getElem? (i := 181) rfl) rfl
set_option maxRecDepth 100000 in
theorem qsF_take : Cond.selects "FreeLances" ⟨"FreeLances", "take", "(II)I"⟩ ⟨"FreeLances", "take", "(II)I"⟩ ∈ tbT := sub_3 (List.mem_of_getElem? (i := 182) rfl) rfl
set_option maxRecDepth 100000 in
theorem qlK_take : Cond.methodLink R_law 70 ⟨"FreeLancesModel", "take", "(II)I"⟩ ∈ tbT := sub_6 (List.mem_of_getElem? (i := 161) rfl) rfl
set_option maxRecDepth 100000 in
theorem qiK_take : Cond.instanceMethod ⟨"FreeLancesModel", "take", "(II)I"⟩ ∈ tbT := sub_6 (List.mem_of_getElem? (i := 162) rfl) rfl
set_option maxRecDepth 100000 in
theorem qsK_take : Cond.selects "FreeLancesModel" ⟨"FreeLancesModel", "take", "(II)I"⟩ ⟨"FreeLancesModel", "take", "(II)I"⟩ ∈ tbT := sub_6 (List.mem_of_getElem? (i := 163) rfl) rfl
set_option maxRecDepth 100000 in
theorem qlF_feed : Cond.methodLink R_law 73 ⟨"FreeLances", "feed", "(JI)I"⟩ ∈ tbT := sub_3 (List.mem_of_getElem? (i := 190) rfl) rfl
set_option maxRecDepth 100000 in
theorem qiF_feed : Cond.instanceMethod ⟨"FreeLances", "feed", "(JI)I"⟩ ∈ tbT := sub_3 (List.mem_of_getElem? (i := 191) rfl) rfl
set_option maxRecDepth 100000 in
theorem qsF_feed : Cond.selects "FreeLances" ⟨"FreeLances", "feed", "(JI)I"⟩ ⟨"FreeLances", "feed", "(JI)I"⟩ ∈ tbT := sub_3 (List.mem_of_getElem? (i := 192) rfl) rfl
set_option maxRecDepth 100000 in
theorem qlK_feed : Cond.methodLink R_law 77 ⟨"FreeLancesModel", "feed", "(JI)I"⟩ ∈ tbT := sub_6 (List.mem_of_getElem? (i := 169) rfl) rfl
set_option maxRecDepth 100000 in
theorem qiK_feed : Cond.instanceMethod ⟨"FreeLancesModel", "feed", "(JI)I"⟩ ∈ tbT := sub_6 (List.mem_of_getElem? (i := 170) rfl) rfl
set_option maxRecDepth 100000 in
theorem qsK_feed : Cond.selects "FreeLancesModel" ⟨"FreeLancesModel", "feed", "(JI)I"⟩ ⟨"FreeLancesModel", "feed", "(JI)I"⟩ ∈ tbT := sub_6 (List.mem_of_getElem? (i := 171) rfl) rfl
set_option maxRecDepth 100000 in
theorem qlF_statute : Cond.methodLink R_law 78 ⟨"FreeLances", "statute", "(II)I"⟩ ∈ tbT := sub_3 (List.mem_of_getElem? (i := 194) rfl) rfl
set_option maxRecDepth 100000 in
theorem qiF_statute : Cond.instanceMethod ⟨"FreeLances", "statute", "(II)I"⟩ ∈ tbT := sub_3 (List.mem_of_getElem? (i := 195) rfl) rfl
set_option maxRecDepth 100000 in
theorem qsF_statute : Cond.selects "FreeLances" ⟨"FreeLances", "statute", "(II)I"⟩ ⟨"FreeLances", "statute", "(II)I"⟩ ∈ tbT := sub_3 (List.mem_of_getElem? (i := 196) rfl) rfl
set_option maxRecDepth 100000 in
theorem qlK_statute : Cond.methodLink R_law 81 ⟨"FreeLancesModel", "statute", "(II)I"⟩ ∈ tbT := sub_6 (List.mem_of_getElem? (i := 174) rfl) rfl
set_option maxRecDepth 100000 in
theorem qiK_statute : Cond.instanceMethod ⟨"FreeLancesModel", "statute", "(II)I"⟩ ∈ tbT := sub_6 (List.mem_of_getElem? (i := 175) rfl) rfl
set_option maxRecDepth 100000 in
theorem qsK_statute : Cond.selects "FreeLancesModel" ⟨"FreeLancesModel", "statute", "(II)I"⟩ ⟨"FreeLancesModel", "statute", "(II)I"⟩ ∈ tbT := sub_6 (List.mem_of_getElem? (i := 176) rfl) rfl
set_option maxRecDepth 100000 in
theorem qlF_force : Cond.methodLink R_law 82 ⟨"FreeLances", "force", "(II)I"⟩ ∈ tbT := sub_3 (List.mem_of_getElem? (i := 215) rfl) rfl
set_option maxRecDepth 100000 in
theorem qiF_force : Cond.instanceMethod ⟨"FreeLances", "force", "(II)I"⟩ ∈ tbT := sub_3 (List.mem_of_getElem? (i := 216) rfl) rfl
set_option maxRecDepth 100000 in
theorem qsF_force : Cond.selects "FreeLances" ⟨"FreeLances", "force", "(II)I"⟩ ⟨"FreeLances", "force", "(II)I"⟩ ∈ tbT := sub_3 (List.mem_of_getElem? (i := 217) rfl) rfl
set_option maxRecDepth 100000 in
theorem qlK_force : Cond.methodLink R_law 85 ⟨"FreeLancesModel", "force", "(II)I"⟩ ∈ tbT := sub_6 (List.mem_of_getElem? (i := 222) rfl) rfl
set_option maxRecDepth 100000 in
theorem qiK_force : Cond.instanceMethod ⟨"FreeLancesModel", "force", "(II)I"⟩ ∈ tbT := sub_6 (List.mem_of_getElem? (i := 223) rfl) rfl
set_option maxRecDepth 100000 in
theorem qsK_force : Cond.selects "FreeLancesModel" ⟨"FreeLancesModel", "force", "(II)I"⟩ ⟨"FreeLancesModel", "force", "(II)I"⟩ ∈ tbT := sub_6 (List.mem_of_getElem? (i := 224) rfl) rfl
set_option maxRecDepth 100000 in
theorem qlF_says : Cond.methodLink R_law 86 ⟨"FreeLances", "says", "(IIII)I"⟩ ∈ tbT := sub_3 (List.mem_of_getElem? (i := 220) rfl) rfl
set_option maxRecDepth 100000 in
theorem qiF_says : Cond.instanceMethod ⟨"FreeLances", "says", "(IIII)I"⟩ ∈ tbT := sub_3 (List.mem_of_getElem? (i := 221) rfl) rfl
set_option maxRecDepth 100000 in
theorem qsF_says : Cond.selects "FreeLances" ⟨"FreeLances", "says", "(IIII)I"⟩ ⟨"FreeLances", "says", "(IIII)I"⟩ ∈ tbT := sub_3 (List.mem_of_getElem? (i := 222) rfl) rfl
set_option maxRecDepth 100000 in
theorem qlK_says : Cond.methodLink R_law 90 ⟨"FreeLancesModel", "says", "(IIII)I"⟩ ∈ tbT := sub_6 (List.mem_of_getElem? (i := 226) rfl) rfl
set_option maxRecDepth 100000 in
theorem qiK_says : Cond.instanceMethod ⟨"FreeLancesModel", "says", "(IIII)I"⟩ ∈ tbT := sub_6 (List.mem_of_getElem? (i := 227) rfl) rfl
set_option maxRecDepth 100000 in
theorem qsK_says : Cond.selects "FreeLancesModel" ⟨"FreeLancesModel", "says", "(IIII)I"⟩ ⟨"FreeLancesModel", "says", "(IIII)I"⟩ ∈ tbT := sub_6 (List.mem_of_getElem? (i := 228) rfl) rfl
set_option maxRecDepth 100000 in
theorem qlF_contract : Cond.methodLink R_law 91 ⟨"FreeLances", "contract", "(IIII)I"⟩ ∈ tbT := sub_3 (List.mem_of_getElem? (i := 225) rfl) rfl
set_option maxRecDepth 100000 in
theorem qiF_contract : Cond.instanceMethod ⟨"FreeLances", "contract", "(IIII)I"⟩ ∈ tbT := sub_3 (List.mem_of_getElem? (i := 226) rfl) rfl
set_option maxRecDepth 100000 in
theorem qsF_contract : Cond.selects "FreeLances" ⟨"FreeLances", "contract", "(IIII)I"⟩ ⟨"FreeLances", "contract", "(IIII)I"⟩ ∈ tbT := sub_3 (List.mem_of_getElem? (i := 227) rfl) rfl
set_option maxRecDepth 100000 in
theorem qlK_contract : Cond.methodLink R_law 94 ⟨"FreeLancesModel", "contract", "(IIII)I"⟩ ∈ tbT := sub_6 (List.mem_of_getElem? (i := 230) rfl) rfl
set_option maxRecDepth 100000 in
theorem qiK_contract : Cond.instanceMethod ⟨"FreeLancesModel", "contract", "(IIII)I"⟩ ∈ tbT := sub_6 (List.mem_of_getElem? (i := 231) rfl) rfl
set_option maxRecDepth 100000 in
theorem qsK_contract : Cond.selects "FreeLancesModel" ⟨"FreeLancesModel", "contract", "(IIII)I"⟩ ⟨"FreeLancesModel", "contract", "(IIII)I"⟩ ∈ tbT := sub_6 (List.mem_of_getElem? (i := 232) rfl) rfl
set_option maxRecDepth 100000 in
theorem qlF_renew : Cond.methodLink R_law 95 ⟨"FreeLances", "renew", "(III)I"⟩ ∈ tbT := sub_4 (List.mem_of_getElem? (i := 4) rfl) rfl
set_option maxRecDepth 100000 in
theorem qiF_renew : Cond.instanceMethod ⟨"FreeLances", "renew", "(III)I"⟩ ∈ tbT := sub_4 (List.mem_of_getElem? (i := 5) rfl) rfl
set_option maxRecDepth 100000 in
theorem qsF_renew : Cond.selects "FreeLances" ⟨"FreeLances", "renew", "(III)I"⟩ ⟨"FreeLances", "renew", "(III)I"⟩ ∈ tbT := sub_4 (List.mem_of_getElem? (i := 6) rfl) rfl
set_option maxRecDepth 100000 in
theorem qlK_renew : Cond.methodLink R_law 98 ⟨"FreeLancesModel", "renew", "(III)I"⟩ ∈ tbT := sub_7 (List.mem_of_getElem? (i := 9) rfl) rfl
set_option maxRecDepth 100000 in
theorem qiK_renew : Cond.instanceMethod ⟨"FreeLancesModel", "renew", "(III)I"⟩ ∈ tbT := sub_7 (List.mem_of_getElem? (i := 10) rfl) rfl
set_option maxRecDepth 100000 in
theorem qsK_renew : Cond.selects "FreeLancesModel" ⟨"FreeLancesModel", "renew", "(III)I"⟩ ⟨"FreeLancesModel", "renew", "(III)I"⟩ ∈ tbT := sub_7 (List.mem_of_getElem? (i := 11) rfl) rfl
set_option maxRecDepth 100000 in
theorem qlF_advance : Cond.methodLink R_law 99 ⟨"FreeLances", "advance", "(II)I"⟩ ∈ tbT := sub_4 (List.mem_of_getElem? (i := 13) rfl) rfl
set_option maxRecDepth 100000 in
theorem qiF_advance : Cond.instanceMethod ⟨"FreeLances", "advance", "(II)I"⟩ ∈ tbT := sub_4 (List.mem_of_getElem? (i := 14) rfl) rfl
set_option maxRecDepth 100000 in
theorem qsF_advance : Cond.selects "FreeLances" ⟨"FreeLances", "advance", "(II)I"⟩ ⟨"FreeLances", "advance", "(II)I"⟩ ∈ tbT := sub_4 (List.mem_of_getElem? (i := 15) rfl) rfl
set_option maxRecDepth 100000 in
theorem qlK_advance : Cond.methodLink R_law 102 ⟨"FreeLancesModel", "advance", "(II)I"⟩ ∈ tbT := sub_7 (List.mem_of_getElem? (i := 17) rfl) rfl
set_option maxRecDepth 100000 in
theorem qiK_advance : Cond.instanceMethod ⟨"FreeLancesModel", "advance", "(II)I"⟩ ∈ tbT := sub_7 (List.mem_of_getElem? (i := 18) rfl) rfl
set_option maxRecDepth 100000 in
theorem qsK_advance : Cond.selects "FreeLancesModel" ⟨"FreeLancesModel", "advance", "(II)I"⟩ ⟨"FreeLancesModel", "advance", "(II)I"⟩ ∈ tbT := sub_7 (List.mem_of_getElem? (i := 19) rfl) rfl
set_option maxRecDepth 100000 in
theorem qlF_truce : Cond.methodLink R_law 103 ⟨"FreeLances", "truce", "(IIII)I"⟩ ∈ tbT := sub_4 (List.mem_of_getElem? (i := 21) rfl) rfl
set_option maxRecDepth 100000 in
theorem qiF_truce : Cond.instanceMethod ⟨"FreeLances", "truce", "(IIII)I"⟩ ∈ tbT := sub_4 (List.mem_of_getElem? (i := 22) rfl) rfl
set_option maxRecDepth 100000 in
theorem qsF_truce : Cond.selects "FreeLances" ⟨"FreeLances", "truce", "(IIII)I"⟩ ⟨"FreeLances", "truce", "(IIII)I"⟩ ∈ tbT := sub_4 (List.mem_of_getElem? (i := 23) rfl) rfl
set_option maxRecDepth 100000 in
theorem qlK_truce : Cond.methodLink R_law 106 ⟨"FreeLancesModel", "truce", "(IIII)I"⟩ ∈ tbT := sub_7 (List.mem_of_getElem? (i := 25) rfl) rfl
set_option maxRecDepth 100000 in
theorem qiK_truce : Cond.instanceMethod ⟨"FreeLancesModel", "truce", "(IIII)I"⟩ ∈ tbT := sub_7 (List.mem_of_getElem? (i := 26) rfl) rfl
set_option maxRecDepth 100000 in
theorem qsK_truce : Cond.selects "FreeLancesModel" ⟨"FreeLancesModel", "truce", "(IIII)I"⟩ ⟨"FreeLancesModel", "truce", "(IIII)I"⟩ ∈ tbT := sub_7 (List.mem_of_getElem? (i := 27) rfl) rfl
set_option maxRecDepth 100000 in
theorem qlF_safe : Cond.methodLink R_law 107 ⟨"FreeLances", "safe", "(IIIII)I"⟩ ∈ tbT := sub_4 (List.mem_of_getElem? (i := 25) rfl) rfl
set_option maxRecDepth 100000 in
theorem qiF_safe : Cond.instanceMethod ⟨"FreeLances", "safe", "(IIIII)I"⟩ ∈ tbT := sub_4 (List.mem_of_getElem? (i := 26) rfl) rfl
set_option maxRecDepth 100000 in
theorem qsF_safe : Cond.selects "FreeLances" ⟨"FreeLances", "safe", "(IIIII)I"⟩ ⟨"FreeLances", "safe", "(IIIII)I"⟩ ∈ tbT := sub_4 (List.mem_of_getElem? (i := 27) rfl) rfl
set_option maxRecDepth 100000 in
theorem qlK_safe : Cond.methodLink R_law 111 ⟨"FreeLancesModel", "safe", "(IIIII)I"⟩ ∈ tbT := sub_7 (List.mem_of_getElem? (i := 29) rfl) rfl
set_option maxRecDepth 100000 in
theorem qiK_safe : Cond.instanceMethod ⟨"FreeLancesModel", "safe", "(IIIII)I"⟩ ∈ tbT := sub_7 (List.mem_of_getElem? (i := 30) rfl) rfl
set_option maxRecDepth 100000 in
theorem qsK_safe : Cond.selects "FreeLancesModel" ⟨"FreeLancesModel", "safe", "(IIIII)I"⟩ ⟨"FreeLancesModel", "safe", "(IIIII)I"⟩ ∈ tbT := sub_7 (List.mem_of_getElem? (i := 31) rfl) rfl
set_option maxRecDepth 100000 in
theorem qlF_ransom : Cond.methodLink R_law 112 ⟨"FreeLances", "ransom", "(II)I"⟩ ∈ tbT := sub_4 (List.mem_of_getElem? (i := 29) rfl) rfl
set_option maxRecDepth 100000 in
theorem qiF_ransom : Cond.instanceMethod ⟨"FreeLances", "ransom", "(II)I"⟩ ∈ tbT := sub_4 (List.mem_of_getElem? (i := 30) rfl) rfl
set_option maxRecDepth 100000 in
theorem qsF_ransom : Cond.selects "FreeLances" ⟨"FreeLances", "ransom", "(II)I"⟩ ⟨"FreeLances", "ransom", "(II)I"⟩ ∈ tbT := sub_4 (List.mem_of_getElem? (i := 31) rfl) rfl
set_option maxRecDepth 100000 in
theorem qlK_ransom : Cond.methodLink R_law 115 ⟨"FreeLancesModel", "ransom", "(II)I"⟩ ∈ tbT := sub_7 (List.mem_of_getElem? (i := 33) rfl) rfl
set_option maxRecDepth 100000 in
theorem qiK_ransom : Cond.instanceMethod ⟨"FreeLancesModel", "ransom", "(II)I"⟩ ∈ tbT := sub_7 (List.mem_of_getElem? (i := 34) rfl) rfl
set_option maxRecDepth 100000 in
theorem qsK_ransom : Cond.selects "FreeLancesModel" ⟨"FreeLancesModel", "ransom", "(II)I"⟩ ⟨"FreeLancesModel", "ransom", "(II)I"⟩ ∈ tbT := sub_7 (List.mem_of_getElem? (i := 35) rfl) rfl
set_option maxRecDepth 100000 in
theorem qlF_as : Cond.methodLink R_law 116 ⟨"FreeLances", "as", "(II)I"⟩ ∈ tbT := sub_4 (List.mem_of_getElem? (i := 33) rfl) rfl
set_option maxRecDepth 100000 in
theorem qiF_as : Cond.instanceMethod ⟨"FreeLances", "as", "(II)I"⟩ ∈ tbT := sub_4 (List.mem_of_getElem? (i := 34) rfl) rfl
set_option maxRecDepth 100000 in
theorem qsF_as : Cond.selects "FreeLances" ⟨"FreeLances", "as", "(II)I"⟩ ⟨"FreeLances", "as", "(II)I"⟩ ∈ tbT := sub_4 (List.mem_of_getElem? (i := 35) rfl) rfl
set_option maxRecDepth 100000 in
theorem qlK_as : Cond.methodLink R_law 119 ⟨"FreeLancesModel", "as", "(II)I"⟩ ∈ tbT := sub_7 (List.mem_of_getElem? (i := 37) rfl) rfl
set_option maxRecDepth 100000 in
theorem qiK_as : Cond.instanceMethod ⟨"FreeLancesModel", "as", "(II)I"⟩ ∈ tbT := sub_7 (List.mem_of_getElem? (i := 38) rfl) rfl
set_option maxRecDepth 100000 in
theorem qsK_as : Cond.selects "FreeLancesModel" ⟨"FreeLancesModel", "as", "(II)I"⟩ ⟨"FreeLancesModel", "as", "(II)I"⟩ ∈ tbT := sub_7 (List.mem_of_getElem? (i := 39) rfl) rfl
set_option maxRecDepth 100000 in
theorem qlF_bondIs : Cond.methodLink R_law 120 ⟨"FreeLances", "bondIs", "(II)I"⟩ ∈ tbT := sub_4 (List.mem_of_getElem? (i := 43) rfl) rfl
set_option maxRecDepth 100000 in
theorem qiF_bondIs : Cond.instanceMethod ⟨"FreeLances", "bondIs", "(II)I"⟩ ∈ tbT := sub_4 (List.mem_of_getElem? (i := 44) rfl) rfl
set_option maxRecDepth 100000 in
theorem qsF_bondIs : Cond.selects "FreeLances" ⟨"FreeLances", "bondIs", "(II)I"⟩ ⟨"FreeLances", "bondIs", "(II)I"⟩ ∈ tbT := sub_4 (List.mem_of_getElem? (i := 45) rfl) rfl
set_option maxRecDepth 100000 in
theorem qlK_bondIs : Cond.methodLink R_law 123 ⟨"FreeLancesModel", "bondIs", "(II)I"⟩ ∈ tbT := sub_7 (List.mem_of_getElem? (i := 41) rfl) rfl
set_option maxRecDepth 100000 in
theorem qiK_bondIs : Cond.instanceMethod ⟨"FreeLancesModel", "bondIs", "(II)I"⟩ ∈ tbT := sub_7 (List.mem_of_getElem? (i := 42) rfl) rfl
set_option maxRecDepth 100000 in
theorem qsK_bondIs : Cond.selects "FreeLancesModel" ⟨"FreeLancesModel", "bondIs", "(II)I"⟩ ⟨"FreeLancesModel", "bondIs", "(II)I"⟩ ∈ tbT := sub_7 (List.mem_of_getElem? (i := 43) rfl) rfl
set_option maxRecDepth 100000 in
theorem qlF_stop : Cond.methodLink R_law 124 ⟨"FreeLances", "stop", "(II)I"⟩ ∈ tbT := sub_4 (List.mem_of_getElem? (i := 47) rfl) rfl
set_option maxRecDepth 100000 in
theorem qiF_stop : Cond.instanceMethod ⟨"FreeLances", "stop", "(II)I"⟩ ∈ tbT := sub_4 (List.mem_of_getElem? (i := 48) rfl) rfl
set_option maxRecDepth 100000 in
theorem qsF_stop : Cond.selects "FreeLances" ⟨"FreeLances", "stop", "(II)I"⟩ ⟨"FreeLances", "stop", "(II)I"⟩ ∈ tbT := sub_4 (List.mem_of_getElem? (i := 49) rfl) rfl
set_option maxRecDepth 100000 in
theorem qlK_stop : Cond.methodLink R_law 127 ⟨"FreeLancesModel", "stop", "(II)I"⟩ ∈ tbT := sub_7 (List.mem_of_getElem? (i := 45) rfl) rfl
set_option maxRecDepth 100000 in
theorem qiK_stop : Cond.instanceMethod ⟨"FreeLancesModel", "stop", "(II)I"⟩ ∈ tbT := sub_7 (List.mem_of_getElem? (i := 46) rfl) rfl
set_option maxRecDepth 100000 in
theorem qsK_stop : Cond.selects "FreeLancesModel" ⟨"FreeLancesModel", "stop", "(II)I"⟩ ⟨"FreeLancesModel", "stop", "(II)I"⟩ ∈ tbT := sub_7 (List.mem_of_getElem? (i := 47) rfl) rfl
set_option maxRecDepth 100000 in
theorem qlF_pay : Cond.methodLink R_law 128 ⟨"FreeLances", "pay", "(II)I"⟩ ∈ tbT := sub_4 (List.mem_of_getElem? (i := 55) rfl) rfl
set_option maxRecDepth 100000 in
theorem qiF_pay : Cond.instanceMethod ⟨"FreeLances", "pay", "(II)I"⟩ ∈ tbT := sub_4 (List.mem_of_getElem? (i := 56) rfl) rfl
set_option maxRecDepth 100000 in
theorem qsF_pay : Cond.selects "FreeLances" ⟨"FreeLances", "pay", "(II)I"⟩ ⟨"FreeLances", "pay", "(II)I"⟩ ∈ tbT := sub_4 (List.mem_of_getElem? (i := 57) rfl) rfl
set_option maxRecDepth 100000 in
theorem qlK_pay : Cond.methodLink R_law 131 ⟨"FreeLancesModel", "pay", "(II)I"⟩ ∈ tbT := sub_7 (List.mem_of_getElem? (i := 53) rfl) rfl
set_option maxRecDepth 100000 in
theorem qiK_pay : Cond.instanceMethod ⟨"FreeLancesModel", "pay", "(II)I"⟩ ∈ tbT := sub_7 (List.mem_of_getElem? (i := 54) rfl) rfl
set_option maxRecDepth 100000 in
theorem qsK_pay : Cond.selects "FreeLancesModel" ⟨"FreeLancesModel", "pay", "(II)I"⟩ ⟨"FreeLancesModel", "pay", "(II)I"⟩ ∈ tbT := sub_7 (List.mem_of_getElem? (i := 55) rfl) rfl
set_option maxRecDepth 100000 in
theorem qlF_serves : Cond.methodLink R_law 132 ⟨"FreeLances", "serves", "(II)I"⟩ ∈ tbT := sub_4 (List.mem_of_getElem? (i := 59) rfl) rfl
set_option maxRecDepth 100000 in
theorem qiF_serves : Cond.instanceMethod ⟨"FreeLances", "serves", "(II)I"⟩ ∈ tbT := sub_4 (List.mem_of_getElem? (i := 60) rfl) rfl
set_option maxRecDepth 100000 in
theorem qsF_serves : Cond.selects "FreeLances" ⟨"FreeLances", "serves", "(II)I"⟩ ⟨"FreeLances", "serves", "(II)I"⟩ ∈ tbT := sub_4 (List.mem_of_getElem? (i := 61) rfl) rfl
set_option maxRecDepth 100000 in
theorem qlK_serves : Cond.methodLink R_law 135 ⟨"FreeLancesModel", "serves", "(II)I"⟩ ∈ tbT := sub_7 (List.mem_of_getElem? (i := 57) rfl) rfl
set_option maxRecDepth 100000 in
theorem qiK_serves : Cond.instanceMethod ⟨"FreeLancesModel", "serves", "(II)I"⟩ ∈ tbT := sub_7 (List.mem_of_getElem? (i := 58) rfl) rfl
set_option maxRecDepth 100000 in
theorem qsK_serves : Cond.selects "FreeLancesModel" ⟨"FreeLancesModel", "serves", "(II)I"⟩ ⟨"FreeLancesModel", "serves", "(II)I"⟩ ∈ tbT := sub_7 (List.mem_of_getElem? (i := 59) rfl) rfl
set_option maxRecDepth 100000 in
theorem qlF_clash : Cond.methodLink R_law 136 ⟨"FreeLances", "clash", "(II)I"⟩ ∈ tbT := sub_4 (List.mem_of_getElem? (i := 63) rfl) rfl
set_option maxRecDepth 100000 in
theorem qiF_clash : Cond.instanceMethod ⟨"FreeLances", "clash", "(II)I"⟩ ∈ tbT := sub_4 (List.mem_of_getElem? (i := 64) rfl) rfl
set_option maxRecDepth 100000 in
theorem qsF_clash : Cond.selects "FreeLances" ⟨"FreeLances", "clash", "(II)I"⟩ ⟨"FreeLances", "clash", "(II)I"⟩ ∈ tbT := sub_4 (List.mem_of_getElem? (i := 65) rfl) rfl
set_option maxRecDepth 100000 in
theorem qlK_clash : Cond.methodLink R_law 139 ⟨"FreeLancesModel", "clash", "(II)I"⟩ ∈ tbT := sub_7 (List.mem_of_getElem? (i := 61) rfl) rfl
set_option maxRecDepth 100000 in
theorem qiK_clash : Cond.instanceMethod ⟨"FreeLancesModel", "clash", "(II)I"⟩ ∈ tbT := sub_7 (List.mem_of_getElem? (i := 62) rfl) rfl
set_option maxRecDepth 100000 in
theorem qsK_clash : Cond.selects "FreeLancesModel" ⟨"FreeLancesModel", "clash", "(II)I"⟩ ⟨"FreeLancesModel", "clash", "(II)I"⟩ ∈ tbT := sub_7 (List.mem_of_getElem? (i := 63) rfl) rfl
set_option maxRecDepth 100000 in
theorem qlF_free : Cond.methodLink R_law 140 ⟨"FreeLances", "free", "(IZ)I"⟩ ∈ tbT := sub_4 (List.mem_of_getElem? (i := 83) rfl) rfl
set_option maxRecDepth 100000 in
theorem qiF_free : Cond.instanceMethod ⟨"FreeLances", "free", "(IZ)I"⟩ ∈ tbT := sub_4 (List.mem_of_getElem? (i := 84) rfl) rfl
set_option maxRecDepth 100000 in
theorem qsF_free : Cond.selects "FreeLances" ⟨"FreeLances", "free", "(IZ)I"⟩ ⟨"FreeLances", "free", "(IZ)I"⟩ ∈ tbT := sub_4 (List.mem_of_getElem? (i := 85) rfl) rfl
set_option maxRecDepth 100000 in
theorem qlK_free : Cond.methodLink R_law 144 ⟨"FreeLancesModel", "free", "(IZ)I"⟩ ∈ tbT := sub_7 (List.mem_of_getElem? (i := 80) rfl) rfl
set_option maxRecDepth 100000 in
theorem qiK_free : Cond.instanceMethod ⟨"FreeLancesModel", "free", "(IZ)I"⟩ ∈ tbT := sub_7 (List.mem_of_getElem? (i := 81) rfl) rfl
set_option maxRecDepth 100000 in
theorem qsK_free : Cond.selects "FreeLancesModel" ⟨"FreeLancesModel", "free", "(IZ)I"⟩ ⟨"FreeLancesModel", "free", "(IZ)I"⟩ ∈ tbT := sub_7 (List.mem_of_getElem? (i := 82) rfl) rfl
set_option maxRecDepth 100000 in
theorem qlF_muster : Cond.methodLink R_law 145 ⟨"FreeLances", "muster", "(II)I"⟩ ∈ tbT := sub_4 (List.mem_of_getElem? (i := 95) rfl) rfl
set_option maxRecDepth 100000 in
theorem qiF_muster : Cond.instanceMethod ⟨"FreeLances", "muster", "(II)I"⟩ ∈ tbT := sub_4 (List.mem_of_getElem? (i := 96) rfl) rfl
set_option maxRecDepth 100000 in
theorem qsF_muster : Cond.selects "FreeLances" ⟨"FreeLances", "muster", "(II)I"⟩ ⟨"FreeLances", "muster", "(II)I"⟩ ∈ tbT := sub_4 (List.mem_of_getElem? (i := 97) rfl) rfl
set_option maxRecDepth 100000 in
theorem qlK_muster : Cond.methodLink R_law 148 ⟨"FreeLancesModel", "muster", "(II)I"⟩ ∈ tbT := sub_7 (List.mem_of_getElem? (i := 84) rfl) rfl
set_option maxRecDepth 100000 in
theorem qiK_muster : Cond.instanceMethod ⟨"FreeLancesModel", "muster", "(II)I"⟩ ∈ tbT := sub_7 (List.mem_of_getElem? (i := 85) rfl) rfl
set_option maxRecDepth 100000 in
theorem qsK_muster : Cond.selects "FreeLancesModel" ⟨"FreeLancesModel", "muster", "(II)I"⟩ ⟨"FreeLancesModel", "muster", "(II)I"⟩ ∈ tbT := sub_7 (List.mem_of_getElem? (i := 86) rfl) rfl
set_option maxRecDepth 100000 in
theorem qlF_twice : Cond.methodLink R_law 149 ⟨"FreeLances", "twice", "(III)I"⟩ ∈ tbT := sub_4 (List.mem_of_getElem? (i := 133) rfl) rfl
set_option maxRecDepth 100000 in
theorem qiF_twice : Cond.instanceMethod ⟨"FreeLances", "twice", "(III)I"⟩ ∈ tbT := sub_4 (List.mem_of_getElem? (i := 134) rfl) rfl
set_option maxRecDepth 100000 in
theorem qsF_twice : Cond.selects "FreeLances" ⟨"FreeLances", "twice", "(III)I"⟩ ⟨"FreeLances", "twice", "(III)I"⟩ ∈ tbT := sub_4 (List.mem_of_getElem? (i := 135) rfl) rfl
set_option maxRecDepth 100000 in
theorem qlK_twice : Cond.methodLink R_law 152 ⟨"FreeLancesModel", "twice", "(III)I"⟩ ∈ tbT := sub_7 (List.mem_of_getElem? (i := 99) rfl) rfl
set_option maxRecDepth 100000 in
theorem qiK_twice : Cond.instanceMethod ⟨"FreeLancesModel", "twice", "(III)I"⟩ ∈ tbT := sub_7 (List.mem_of_getElem? (i := 100) rfl) rfl
set_option maxRecDepth 100000 in
theorem qsK_twice : Cond.selects "FreeLancesModel" ⟨"FreeLancesModel", "twice", "(III)I"⟩ ⟨"FreeLancesModel", "twice", "(III)I"⟩ ∈ tbT := sub_7 (List.mem_of_getElem? (i := 101) rfl) rfl
set_option maxRecDepth 100000 in
theorem qlF_shown : Cond.methodLink R_law 153 ⟨"FreeLances", "shown", "(I)I"⟩ ∈ tbT := sub_4 (List.mem_of_getElem? (i := 141) rfl) rfl
set_option maxRecDepth 100000 in
theorem qiF_shown : Cond.instanceMethod ⟨"FreeLances", "shown", "(I)I"⟩ ∈ tbT := sub_4 (List.mem_of_getElem? (i := 142) rfl) rfl
set_option maxRecDepth 100000 in
theorem qsF_shown : Cond.selects "FreeLances" ⟨"FreeLances", "shown", "(I)I"⟩ ⟨"FreeLances", "shown", "(I)I"⟩ ∈ tbT := sub_4 (List.mem_of_getElem? (i := 143) rfl) rfl
set_option maxRecDepth 100000 in
theorem qlK_shown : Cond.methodLink R_law 157 ⟨"FreeLancesModel", "shown", "(I)I"⟩ ∈ tbT := sub_7 (List.mem_of_getElem? (i := 111) rfl) rfl
set_option maxRecDepth 100000 in
theorem qiK_shown : Cond.instanceMethod ⟨"FreeLancesModel", "shown", "(I)I"⟩ ∈ tbT := sub_7 (List.mem_of_getElem? (i := 112) rfl) rfl
set_option maxRecDepth 100000 in
theorem qsK_shown : Cond.selects "FreeLancesModel" ⟨"FreeLancesModel", "shown", "(I)I"⟩ ⟨"FreeLancesModel", "shown", "(I)I"⟩ ∈ tbT := sub_7 (List.mem_of_getElem? (i := 113) rfl) rfl
set_option maxRecDepth 100000 in
theorem qlF_hold : Cond.methodLink R_law 158 ⟨"FreeLances", "hold", "(IIIZ)I"⟩ ∈ tbT := sub_4 (List.mem_of_getElem? (i := 149) rfl) rfl
set_option maxRecDepth 100000 in
theorem qiF_hold : Cond.instanceMethod ⟨"FreeLances", "hold", "(IIIZ)I"⟩ ∈ tbT := sub_4 (List.mem_of_getElem? (i := 150) rfl) rfl
set_option maxRecDepth 100000 in
theorem qsF_hold : Cond.selects "FreeLances" ⟨"FreeLances", "hold", "(IIIZ)I"⟩ ⟨"FreeLances", "hold", "(IIIZ)I"⟩ ∈ tbT := sub_4 (List.mem_of_getElem? (i := 151) rfl) rfl
set_option maxRecDepth 100000 in
theorem qlK_hold : Cond.methodLink R_law 162 ⟨"FreeLancesModel", "hold", "(IIIZ)I"⟩ ∈ tbT := sub_7 (List.mem_of_getElem? (i := 115) rfl) rfl
set_option maxRecDepth 100000 in
theorem qiK_hold : Cond.instanceMethod ⟨"FreeLancesModel", "hold", "(IIIZ)I"⟩ ∈ tbT := sub_7 (List.mem_of_getElem? (i := 116) rfl) rfl
set_option maxRecDepth 100000 in
theorem qsK_hold : Cond.selects "FreeLancesModel" ⟨"FreeLancesModel", "hold", "(IIIZ)I"⟩ ⟨"FreeLancesModel", "hold", "(IIIZ)I"⟩ ∈ tbT := sub_7 (List.mem_of_getElem? (i := 117) rfl) rfl
set_option maxRecDepth 100000 in
theorem qlF_ask : Cond.methodLink R_law 163 ⟨"FreeLances", "ask", "(III)I"⟩ ∈ tbT := sub_4 (List.mem_of_getElem? (i := 154) rfl) rfl
set_option maxRecDepth 100000 in
theorem qiF_ask : Cond.instanceMethod ⟨"FreeLances", "ask", "(III)I"⟩ ∈ tbT := sub_4 (List.mem_of_getElem? (i := 155) rfl) rfl
set_option maxRecDepth 100000 in
theorem qsF_ask : Cond.selects "FreeLances" ⟨"FreeLances", "ask", "(III)I"⟩ ⟨"FreeLances", "ask", "(III)I"⟩ ∈ tbT := sub_4 (List.mem_of_getElem? (i := 156) rfl) rfl
set_option maxRecDepth 100000 in
theorem qlK_ask : Cond.methodLink R_law 166 ⟨"FreeLancesModel", "ask", "(III)I"⟩ ∈ tbT := sub_7 (List.mem_of_getElem? (i := 119) rfl) rfl
set_option maxRecDepth 100000 in
theorem qiK_ask : Cond.instanceMethod ⟨"FreeLancesModel", "ask", "(III)I"⟩ ∈ tbT := sub_7 (List.mem_of_getElem? (i := 120) rfl) rfl
set_option maxRecDepth 100000 in
theorem qsK_ask : Cond.selects "FreeLancesModel" ⟨"FreeLancesModel", "ask", "(III)I"⟩ ⟨"FreeLancesModel", "ask", "(III)I"⟩ ∈ tbT := sub_7 (List.mem_of_getElem? (i := 121) rfl) rfl
set_option maxRecDepth 100000 in
theorem qlF_parts : Cond.methodLink R_law 167 ⟨"FreeLances", "parts", "(III)I"⟩ ∈ tbT := sub_4 (List.mem_of_getElem? (i := 172) rfl) rfl
set_option maxRecDepth 100000 in
theorem qiF_parts : Cond.instanceMethod ⟨"FreeLances", "parts", "(III)I"⟩ ∈ tbT := sub_4 (List.mem_of_getElem? (i := 173) rfl) rfl
set_option maxRecDepth 100000 in
theorem qsF_parts : Cond.selects "FreeLances" ⟨"FreeLances", "parts", "(III)I"⟩ ⟨"FreeLances", "parts", "(III)I"⟩ ∈ tbT := sub_4 (List.mem_of_getElem? (i := 174) rfl) rfl
set_option maxRecDepth 100000 in
theorem qlK_parts : Cond.methodLink R_law 170 ⟨"FreeLancesModel", "parts", "(III)I"⟩ ∈ tbT := sub_7 (List.mem_of_getElem? (i := 127) rfl) rfl
set_option maxRecDepth 100000 in
theorem qiK_parts : Cond.instanceMethod ⟨"FreeLancesModel", "parts", "(III)I"⟩ ∈ tbT := sub_7 (List.mem_of_getElem? (i := 128) rfl) rfl
set_option maxRecDepth 100000 in
theorem qsK_parts : Cond.selects "FreeLancesModel" ⟨"FreeLancesModel", "parts", "(III)I"⟩ ⟨"FreeLancesModel", "parts", "(III)I"⟩ ∈ tbT := sub_7 (List.mem_of_getElem? (i := 129) rfl) rfl
set_option maxRecDepth 100000 in
theorem qlF_share : Cond.methodLink R_law 171 ⟨"FreeLances", "share", "(I)I"⟩ ∈ tbT := sub_4 (List.mem_of_getElem? (i := 184) rfl) rfl
set_option maxRecDepth 100000 in
theorem qiF_share : Cond.instanceMethod ⟨"FreeLances", "share", "(I)I"⟩ ∈ tbT := sub_4 (List.mem_of_getElem? (i := 185) rfl) rfl
set_option maxRecDepth 100000 in
theorem qsF_share : Cond.selects "FreeLances" ⟨"FreeLances", "share", "(I)I"⟩ ⟨"FreeLances", "share", "(I)I"⟩ ∈ tbT := sub_4 (List.mem_of_getElem? (i := 186) rfl) rfl
set_option maxRecDepth 100000 in
theorem qlK_share : Cond.methodLink R_law 174 ⟨"FreeLancesModel", "share", "(I)I"⟩ ∈ tbT := sub_7 (List.mem_of_getElem? (i := 131) rfl) rfl
set_option maxRecDepth 100000 in
theorem qiK_share : Cond.instanceMethod ⟨"FreeLancesModel", "share", "(I)I"⟩ ∈ tbT := sub_7 (List.mem_of_getElem? (i := 132) rfl) rfl
set_option maxRecDepth 100000 in
theorem qsK_share : Cond.selects "FreeLancesModel" ⟨"FreeLancesModel", "share", "(I)I"⟩ ⟨"FreeLancesModel", "share", "(I)I"⟩ ∈ tbT := sub_7 (List.mem_of_getElem? (i := 133) rfl) rfl
set_option maxRecDepth 100000 in
theorem qlF_winter : Cond.methodLink R_law 175 ⟨"FreeLances", "winter", "(III)I"⟩ ∈ tbT := sub_4 (List.mem_of_getElem? (i := 189) rfl) rfl
set_option maxRecDepth 100000 in
theorem qiF_winter : Cond.instanceMethod ⟨"FreeLances", "winter", "(III)I"⟩ ∈ tbT := sub_4 (List.mem_of_getElem? (i := 190) rfl) rfl
set_option maxRecDepth 100000 in
theorem qsF_winter : Cond.selects "FreeLances" ⟨"FreeLances", "winter", "(III)I"⟩ ⟨"FreeLances", "winter", "(III)I"⟩ ∈ tbT := sub_4 (List.mem_of_getElem? (i := 191) rfl) rfl
set_option maxRecDepth 100000 in
theorem qlK_winter : Cond.methodLink R_law 178 ⟨"FreeLancesModel", "winter", "(III)I"⟩ ∈ tbT := sub_7 (List.mem_of_getElem? (i := 135) rfl) rfl
set_option maxRecDepth 100000 in
theorem qiK_winter : Cond.instanceMethod ⟨"FreeLancesModel", "winter", "(III)I"⟩ ∈ tbT := sub_7 (List.mem_of_getElem? (i := 136) rfl) rfl
set_option maxRecDepth 100000 in
theorem qsK_winter : Cond.selects "FreeLancesModel" ⟨"FreeLancesModel", "winter", "(III)I"⟩ ⟨"FreeLancesModel", "winter", "(III)I"⟩ ∈ tbT := sub_7 (List.mem_of_getElem? (i := 137) rfl) rfl
set_option maxRecDepth 100000 in
theorem qlF_wintering : Cond.methodLink R_law 179 ⟨"FreeLances", "wintering", "(I)I"⟩ ∈ tbT := sub_4 (List.mem_of_getElem? (i := 193) rfl) rfl
set_option maxRecDepth 100000 in
theorem qiF_wintering : Cond.instanceMethod ⟨"FreeLances", "wintering", "(I)I"⟩ ∈ tbT := sub_4 (List.mem_of_getElem? (i := 194) rfl) rfl
set_option maxRecDepth 100000 in
theorem qsF_wintering : Cond.selects "FreeLances" ⟨"FreeLances", "wintering", "(I)I"⟩ ⟨"FreeLances", "wintering", "(I)I"⟩ ∈ tbT := sub_4 (List.mem_of_getElem? (i := 195) rfl) rfl
set_option maxRecDepth 100000 in
theorem qlK_wintering : Cond.methodLink R_law 182 ⟨"FreeLancesModel", "wintering", "(I)I"⟩ ∈ tbT := sub_7 (List.mem_of_getElem? (i := 139) rfl) rfl
set_option maxRecDepth 100000 in
theorem qiK_wintering : Cond.instanceMethod ⟨"FreeLancesModel", "wintering", "(I)I"⟩ ∈ tbT := sub_7 (List.mem_of_getElem? (i := 140) rfl) rfl
set_option maxRecDepth 100000 in
theorem qsK_wintering : Cond.selects "FreeLancesModel" ⟨"FreeLancesModel", "wintering", "(I)I"⟩ ⟨"FreeLancesModel", "wintering", "(I)I"⟩ ∈ tbT := sub_7 (List.mem_of_getElem? (i := 141) rfl) rfl
set_option maxRecDepth 100000 in
theorem qlF_hiring : Cond.methodLink R_law 183 ⟨"FreeLances", "hiring", "(II)I"⟩ ∈ tbT := sub_4 (List.mem_of_getElem? (i := 221) rfl) rfl
set_option maxRecDepth 100000 in
theorem qiF_hiring : Cond.instanceMethod ⟨"FreeLances", "hiring", "(II)I"⟩ ∈ tbT := sub_4 (List.mem_of_getElem? (i := 222) rfl) rfl
set_option maxRecDepth 100000 in
theorem qsF_hiring : Cond.selects "FreeLances" ⟨"FreeLances", "hiring", "(II)I"⟩ ⟨"FreeLances", "hiring", "(II)I"⟩ ∈ tbT := sub_4 (List.mem_of_getElem? (i := 223) rfl) rfl
set_option maxRecDepth 100000 in
theorem qlK_hiring : Cond.methodLink R_law 186 ⟨"FreeLancesModel", "hiring", "(II)I"⟩ ∈ tbT := sub_7 (List.mem_of_getElem? (i := 151) rfl) rfl
set_option maxRecDepth 100000 in
theorem qiK_hiring : Cond.instanceMethod ⟨"FreeLancesModel", "hiring", "(II)I"⟩ ∈ tbT := sub_7 (List.mem_of_getElem? (i := 152) rfl) rfl
set_option maxRecDepth 100000 in
theorem qsK_hiring : Cond.selects "FreeLancesModel" ⟨"FreeLancesModel", "hiring", "(II)I"⟩ ⟨"FreeLancesModel", "hiring", "(II)I"⟩ ∈ tbT := sub_7 (List.mem_of_getElem? (i := 153) rfl) rfl
set_option maxRecDepth 100000 in
theorem qlF_days : Cond.methodLink R_law 187 ⟨"FreeLances", "days", "(I)I"⟩ ∈ tbT := sub_5 (List.mem_of_getElem? (i := 4) rfl) rfl
set_option maxRecDepth 100000 in
theorem qiF_days : Cond.instanceMethod ⟨"FreeLances", "days", "(I)I"⟩ ∈ tbT := sub_5 (List.mem_of_getElem? (i := 5) rfl) rfl
set_option maxRecDepth 100000 in
theorem qsF_days : Cond.selects "FreeLances" ⟨"FreeLances", "days", "(I)I"⟩ ⟨"FreeLances", "days", "(I)I"⟩ ∈ tbT := sub_5 (List.mem_of_getElem? (i := 6) rfl) rfl
set_option maxRecDepth 100000 in
theorem qlK_days : Cond.methodLink R_law 190 ⟨"FreeLancesModel", "days", "(I)I"⟩ ∈ tbT := sub_7 (List.mem_of_getElem? (i := 159) rfl) rfl
set_option maxRecDepth 100000 in
theorem qiK_days : Cond.instanceMethod ⟨"FreeLancesModel", "days", "(I)I"⟩ ∈ tbT := sub_7 (List.mem_of_getElem? (i := 160) rfl) rfl
set_option maxRecDepth 100000 in
theorem qsK_days : Cond.selects "FreeLancesModel" ⟨"FreeLancesModel", "days", "(I)I"⟩ ⟨"FreeLancesModel", "days", "(I)I"⟩ ∈ tbT := sub_7 (List.mem_of_getElem? (i := 161) rfl) rfl
set_option maxRecDepth 100000 in
theorem qlF_ahead : Cond.methodLink R_law 191 ⟨"FreeLances", "ahead", "(III)I"⟩ ∈ tbT := sub_5 (List.mem_of_getElem? (i := 40) rfl) rfl
set_option maxRecDepth 100000 in
theorem qiF_ahead : Cond.instanceMethod ⟨"FreeLances", "ahead", "(III)I"⟩ ∈ tbT := sub_5 (List.mem_of_getElem? (i := 41) rfl) rfl
set_option maxRecDepth 100000 in
theorem qsF_ahead : Cond.selects "FreeLances" ⟨"FreeLances", "ahead", "(III)I"⟩ ⟨"FreeLances", "ahead", "(III)I"⟩ ∈ tbT := sub_5 (List.mem_of_getElem? (i := 42) rfl) rfl
set_option maxRecDepth 100000 in
theorem qlK_ahead : Cond.methodLink R_law 194 ⟨"FreeLancesModel", "ahead", "(III)I"⟩ ∈ tbT := sub_7 (List.mem_of_getElem? (i := 179) rfl) rfl
set_option maxRecDepth 100000 in
theorem qiK_ahead : Cond.instanceMethod ⟨"FreeLancesModel", "ahead", "(III)I"⟩ ∈ tbT := sub_7 (List.mem_of_getElem? (i := 180) rfl) rfl
set_option maxRecDepth 100000 in
theorem qsK_ahead : Cond.selects "FreeLancesModel" ⟨"FreeLancesModel", "ahead", "(III)I"⟩ ⟨"FreeLancesModel", "ahead", "(III)I"⟩ ∈ tbT := sub_7 (List.mem_of_getElem? (i := 181) rfl) rfl
set_option maxRecDepth 100000 in
theorem qlF_voice : Cond.methodLink R_law 195 ⟨"FreeLances", "voice", "(III)I"⟩ ∈ tbT := sub_5 (List.mem_of_getElem? (i := 71) rfl) rfl
set_option maxRecDepth 100000 in
theorem qiF_voice : Cond.instanceMethod ⟨"FreeLances", "voice", "(III)I"⟩ ∈ tbT := sub_5 (List.mem_of_getElem? (i := 72) rfl) rfl
set_option maxRecDepth 100000 in
theorem qsF_voice : Cond.selects "FreeLances" ⟨"FreeLances", "voice", "(III)I"⟩ ⟨"FreeLances", "voice", "(III)I"⟩ ∈ tbT := sub_5 (List.mem_of_getElem? (i := 73) rfl) rfl
set_option maxRecDepth 100000 in
theorem qlK_voice : Cond.methodLink R_law 198 ⟨"FreeLancesModel", "voice", "(III)I"⟩ ∈ tbT := sub_7 (List.mem_of_getElem? (i := 187) rfl) rfl
set_option maxRecDepth 100000 in
theorem qiK_voice : Cond.instanceMethod ⟨"FreeLancesModel", "voice", "(III)I"⟩ ∈ tbT := sub_7 (List.mem_of_getElem? (i := 188) rfl) rfl
set_option maxRecDepth 100000 in
theorem qsK_voice : Cond.selects "FreeLancesModel" ⟨"FreeLancesModel", "voice", "(III)I"⟩ ⟨"FreeLancesModel", "voice", "(III)I"⟩ ∈ tbT := sub_7 (List.mem_of_getElem? (i := 189) rfl) rfl
set_option maxRecDepth 100000 in
theorem qlF_trace : Cond.methodLink R_law 199 ⟨"FreeLances", "trace", "(I)I"⟩ ∈ tbT := sub_5 (List.mem_of_getElem? (i := 98) rfl) rfl
set_option maxRecDepth 100000 in
theorem qiF_trace : Cond.instanceMethod ⟨"FreeLances", "trace", "(I)I"⟩ ∈ tbT := sub_5 (List.mem_of_getElem? (i := 99) rfl) rfl
set_option maxRecDepth 100000 in
theorem qsF_trace : Cond.selects "FreeLances" ⟨"FreeLances", "trace", "(I)I"⟩ ⟨"FreeLances", "trace", "(I)I"⟩ ∈ tbT := sub_5 (List.mem_of_getElem? (i := 100) rfl) rfl
set_option maxRecDepth 100000 in
theorem qlK_trace : Cond.methodLink R_law 202 ⟨"FreeLancesModel", "trace", "(I)I"⟩ ∈ tbT := sub_7 (List.mem_of_getElem? (i := 231) rfl) rfl
set_option maxRecDepth 100000 in
theorem qiK_trace : Cond.instanceMethod ⟨"FreeLancesModel", "trace", "(I)I"⟩ ∈ tbT := sub_7 (List.mem_of_getElem? (i := 232) rfl) rfl
set_option maxRecDepth 100000 in
theorem qsK_trace : Cond.selects "FreeLancesModel" ⟨"FreeLancesModel", "trace", "(I)I"⟩ ⟨"FreeLancesModel", "trace", "(I)I"⟩ ∈ tbT := sub_7 (List.mem_of_getElem? (i := 233) rfl) rfl
set_option maxRecDepth 100000 in
theorem qlF_sheet : Cond.methodLink R_law 203 ⟨"FreeLances", "sheet", "(III)I"⟩ ∈ tbT := sub_5 (List.mem_of_getElem? (i := 102) rfl) rfl
set_option maxRecDepth 100000 in
theorem qiF_sheet : Cond.instanceMethod ⟨"FreeLances", "sheet", "(III)I"⟩ ∈ tbT := sub_5 (List.mem_of_getElem? (i := 103) rfl) rfl
set_option maxRecDepth 100000 in
theorem qsF_sheet : Cond.selects "FreeLances" ⟨"FreeLances", "sheet", "(III)I"⟩ ⟨"FreeLances", "sheet", "(III)I"⟩ ∈ tbT := sub_5 (List.mem_of_getElem? (i := 104) rfl) rfl
set_option maxRecDepth 100000 in
theorem qlK_sheet : Cond.methodLink R_law 206 ⟨"FreeLancesModel", "sheet", "(III)I"⟩ ∈ tbT := sub_7 (List.mem_of_getElem? (i := 235) rfl) rfl
set_option maxRecDepth 100000 in
theorem qiK_sheet : Cond.instanceMethod ⟨"FreeLancesModel", "sheet", "(III)I"⟩ ∈ tbT := sub_7 (List.mem_of_getElem? (i := 236) rfl) rfl
set_option maxRecDepth 100000 in
theorem qsK_sheet : Cond.selects "FreeLancesModel" ⟨"FreeLancesModel", "sheet", "(III)I"⟩ ⟨"FreeLancesModel", "sheet", "(III)I"⟩ ∈ tbT := sub_7 (List.mem_of_getElem? (i := 237) rfl) rfl
set_option maxRecDepth 100000 in
theorem qlF_put : Cond.methodLink R_law 207 ⟨"FreeLances", "put", "(III)I"⟩ ∈ tbT := sub_5 (List.mem_of_getElem? (i := 110) rfl) rfl
set_option maxRecDepth 100000 in
theorem qiF_put : Cond.instanceMethod ⟨"FreeLances", "put", "(III)I"⟩ ∈ tbT := sub_5 (List.mem_of_getElem? (i := 111) rfl) rfl
set_option maxRecDepth 100000 in
theorem qsF_put : Cond.selects "FreeLances" ⟨"FreeLances", "put", "(III)I"⟩ ⟨"FreeLances", "put", "(III)I"⟩ ∈ tbT := sub_5 (List.mem_of_getElem? (i := 112) rfl) rfl
set_option maxRecDepth 100000 in
theorem qlK_put : Cond.methodLink R_law 210 ⟨"FreeLancesModel", "put", "(III)I"⟩ ∈ tbT := sub_7 (List.mem_of_getElem? (i := 239) rfl) rfl
set_option maxRecDepth 100000 in
theorem qiK_put : Cond.instanceMethod ⟨"FreeLancesModel", "put", "(III)I"⟩ ∈ tbT := sub_8 (List.mem_of_getElem? (i := 0) rfl) rfl
set_option maxRecDepth 100000 in
theorem qsK_put : Cond.selects "FreeLancesModel" ⟨"FreeLancesModel", "put", "(III)I"⟩ ⟨"FreeLancesModel", "put", "(III)I"⟩ ∈ tbT := sub_8 (List.mem_of_getElem? (i := 1) rfl) rfl
set_option maxRecDepth 100000 in
theorem qlF_move : Cond.methodLink R_law 211 ⟨"FreeLances", "move", "(IIIII)I"⟩ ∈ tbT := sub_5 (List.mem_of_getElem? (i := 118) rfl) rfl
set_option maxRecDepth 100000 in
theorem qiF_move : Cond.instanceMethod ⟨"FreeLances", "move", "(IIIII)I"⟩ ∈ tbT := sub_5 (List.mem_of_getElem? (i := 119) rfl) rfl
set_option maxRecDepth 100000 in
theorem qsF_move : Cond.selects "FreeLances" ⟨"FreeLances", "move", "(IIIII)I"⟩ ⟨"FreeLances", "move", "(IIIII)I"⟩ ∈ tbT := sub_5 (List.mem_of_getElem? (i := 120) rfl) rfl
set_option maxRecDepth 100000 in
theorem qlK_move : Cond.methodLink R_law 214 ⟨"FreeLancesModel", "move", "(IIIII)I"⟩ ∈ tbT := sub_8 (List.mem_of_getElem? (i := 3) rfl) rfl
set_option maxRecDepth 100000 in
theorem qiK_move : Cond.instanceMethod ⟨"FreeLancesModel", "move", "(IIIII)I"⟩ ∈ tbT := sub_8 (List.mem_of_getElem? (i := 4) rfl) rfl
set_option maxRecDepth 100000 in
theorem qsK_move : Cond.selects "FreeLancesModel" ⟨"FreeLancesModel", "move", "(IIIII)I"⟩ ⟨"FreeLancesModel", "move", "(IIIII)I"⟩ ∈ tbT := sub_8 (List.mem_of_getElem? (i := 5) rfl) rfl
set_option maxRecDepth 100000 in
theorem qlF_image : Cond.methodLink R_law 215 ⟨"FreeLances", "image", "()I"⟩ ∈ tbT := sub_5 (List.mem_of_getElem? (i := 127) rfl) rfl
set_option maxRecDepth 100000 in
theorem qiF_image : Cond.instanceMethod ⟨"FreeLances", "image", "()I"⟩ ∈ tbT := sub_5 (List.mem_of_getElem? (i := 128) rfl) rfl
set_option maxRecDepth 100000 in
theorem qsF_image : Cond.selects "FreeLances" ⟨"FreeLances", "image", "()I"⟩ ⟨"FreeLances", "image", "()I"⟩ ∈ tbT := sub_5 (List.mem_of_getElem? (i := 129) rfl) rfl
set_option maxRecDepth 100000 in
theorem qlK_image : Cond.methodLink R_law 219 ⟨"FreeLancesModel", "image", "()I"⟩ ∈ tbT := sub_8 (List.mem_of_getElem? (i := 7) rfl) rfl
set_option maxRecDepth 100000 in
theorem qiK_image : Cond.instanceMethod ⟨"FreeLancesModel", "image", "()I"⟩ ∈ tbT := sub_8 (List.mem_of_getElem? (i := 8) rfl) rfl
set_option maxRecDepth 100000 in
theorem qsK_image : Cond.selects "FreeLancesModel" ⟨"FreeLancesModel", "image", "()I"⟩ ⟨"FreeLancesModel", "image", "()I"⟩ ∈ tbT := sub_8 (List.mem_of_getElem? (i := 9) rfl) rfl
set_option maxRecDepth 100000 in
theorem qlF_restore : Cond.methodLink R_law 220 ⟨"FreeLances", "restore", "()I"⟩ ∈ tbT := sub_5 (List.mem_of_getElem? (i := 131) rfl) rfl
set_option maxRecDepth 100000 in
theorem qiF_restore : Cond.instanceMethod ⟨"FreeLances", "restore", "()I"⟩ ∈ tbT := sub_5 (List.mem_of_getElem? (i := 132) rfl) rfl
set_option maxRecDepth 100000 in
theorem qsF_restore : Cond.selects "FreeLances" ⟨"FreeLances", "restore", "()I"⟩ ⟨"FreeLances", "restore", "()I"⟩ ∈ tbT := sub_5 (List.mem_of_getElem? (i := 133) rfl) rfl
set_option maxRecDepth 100000 in
theorem qlK_restore : Cond.methodLink R_law 223 ⟨"FreeLancesModel", "restore", "()I"⟩ ∈ tbT := sub_8 (List.mem_of_getElem? (i := 11) rfl) rfl
set_option maxRecDepth 100000 in
theorem qiK_restore : Cond.instanceMethod ⟨"FreeLancesModel", "restore", "()I"⟩ ∈ tbT := sub_8 (List.mem_of_getElem? (i := 12) rfl) rfl
set_option maxRecDepth 100000 in
theorem qsK_restore : Cond.selects "FreeLancesModel" ⟨"FreeLancesModel", "restore", "()I"⟩ ⟨"FreeLancesModel", "restore", "()I"⟩ ∈ tbT := sub_8 (List.mem_of_getElem? (i := 13) rfl) rfl
set_option maxRecDepth 100000 in
theorem qlF_tell : Cond.methodLink R_law 224 ⟨"FreeLances", "tell", "(I)I"⟩ ∈ tbT := sub_5 (List.mem_of_getElem? (i := 135) rfl) rfl
set_option maxRecDepth 100000 in
theorem qiF_tell : Cond.instanceMethod ⟨"FreeLances", "tell", "(I)I"⟩ ∈ tbT := sub_5 (List.mem_of_getElem? (i := 136) rfl) rfl
set_option maxRecDepth 100000 in
theorem qsF_tell : Cond.selects "FreeLances" ⟨"FreeLances", "tell", "(I)I"⟩ ⟨"FreeLances", "tell", "(I)I"⟩ ∈ tbT := sub_5 (List.mem_of_getElem? (i := 137) rfl) rfl
set_option maxRecDepth 100000 in
theorem qlK_tell : Cond.methodLink R_law 227 ⟨"FreeLancesModel", "tell", "(I)I"⟩ ∈ tbT := sub_8 (List.mem_of_getElem? (i := 15) rfl) rfl
set_option maxRecDepth 100000 in
theorem qiK_tell : Cond.instanceMethod ⟨"FreeLancesModel", "tell", "(I)I"⟩ ∈ tbT := sub_8 (List.mem_of_getElem? (i := 16) rfl) rfl
set_option maxRecDepth 100000 in
theorem qsK_tell : Cond.selects "FreeLancesModel" ⟨"FreeLancesModel", "tell", "(I)I"⟩ ⟨"FreeLancesModel", "tell", "(I)I"⟩ ∈ tbT := sub_8 (List.mem_of_getElem? (i := 17) rfl) rfl
set_option maxRecDepth 100000 in
theorem qlF_judge : Cond.methodLink R_law 228 ⟨"FreeLances", "judge", "()I"⟩ ∈ tbT := sub_5 (List.mem_of_getElem? (i := 139) rfl) rfl
set_option maxRecDepth 100000 in
theorem qiF_judge : Cond.instanceMethod ⟨"FreeLances", "judge", "()I"⟩ ∈ tbT := sub_5 (List.mem_of_getElem? (i := 140) rfl) rfl
set_option maxRecDepth 100000 in
theorem qsF_judge : Cond.selects "FreeLances" ⟨"FreeLances", "judge", "()I"⟩ ⟨"FreeLances", "judge", "()I"⟩ ∈ tbT := sub_5 (List.mem_of_getElem? (i := 141) rfl) rfl
set_option maxRecDepth 100000 in
theorem qlK_judge : Cond.methodLink R_law 231 ⟨"FreeLancesModel", "judge", "()I"⟩ ∈ tbT := sub_8 (List.mem_of_getElem? (i := 19) rfl) rfl
set_option maxRecDepth 100000 in
theorem qiK_judge : Cond.instanceMethod ⟨"FreeLancesModel", "judge", "()I"⟩ ∈ tbT := sub_8 (List.mem_of_getElem? (i := 20) rfl) rfl
set_option maxRecDepth 100000 in
theorem qsK_judge : Cond.selects "FreeLancesModel" ⟨"FreeLancesModel", "judge", "()I"⟩ ⟨"FreeLancesModel", "judge", "()I"⟩ ∈ tbT := sub_8 (List.mem_of_getElem? (i := 21) rfl) rfl
set_option maxRecDepth 100000 in
theorem qlF_count : Cond.methodLink R_law 232 ⟨"FreeLances", "count", "(I)I"⟩ ∈ tbT := sub_5 (List.mem_of_getElem? (i := 155) rfl) rfl
set_option maxRecDepth 100000 in
theorem qiF_count : Cond.instanceMethod ⟨"FreeLances", "count", "(I)I"⟩ ∈ tbT := sub_5 (List.mem_of_getElem? (i := 156) rfl) rfl
set_option maxRecDepth 100000 in
theorem qsF_count : Cond.selects "FreeLances" ⟨"FreeLances", "count", "(I)I"⟩ ⟨"FreeLances", "count", "(I)I"⟩ ∈ tbT := sub_5 (List.mem_of_getElem? (i := 157) rfl) rfl
set_option maxRecDepth 100000 in
theorem qlK_count : Cond.methodLink R_law 235 ⟨"FreeLancesModel", "count", "(I)I"⟩ ∈ tbT := sub_8 (List.mem_of_getElem? (i := 23) rfl) rfl
set_option maxRecDepth 100000 in
theorem qiK_count : Cond.instanceMethod ⟨"FreeLancesModel", "count", "(I)I"⟩ ∈ tbT := sub_8 (List.mem_of_getElem? (i := 24) rfl) rfl
set_option maxRecDepth 100000 in
theorem qsK_count : Cond.selects "FreeLancesModel" ⟨"FreeLancesModel", "count", "(I)I"⟩ ⟨"FreeLancesModel", "count", "(I)I"⟩ ∈ tbT := sub_8 (List.mem_of_getElem? (i := 25) rfl) rfl
set_option maxRecDepth 100000 in
theorem qlF_found : Cond.methodLink R_law 236 ⟨"FreeLances", "found", "(I)I"⟩ ∈ tbT := sub_5 (List.mem_of_getElem? (i := 176) rfl) rfl
set_option maxRecDepth 100000 in
theorem qiF_found : Cond.instanceMethod ⟨"FreeLances", "found", "(I)I"⟩ ∈ tbT := sub_5 (List.mem_of_getElem? (i := 177) rfl) rfl
set_option maxRecDepth 100000 in
theorem qsF_found : Cond.selects "FreeLances" ⟨"FreeLances", "found", "(I)I"⟩ ⟨"FreeLances", "found", "(I)I"⟩ ∈ tbT := sub_5 (List.mem_of_getElem? (i := 178) rfl) rfl
set_option maxRecDepth 100000 in
theorem qlK_found : Cond.methodLink R_law 239 ⟨"FreeLancesModel", "found", "(I)I"⟩ ∈ tbT := sub_8 (List.mem_of_getElem? (i := 27) rfl) rfl
set_option maxRecDepth 100000 in
theorem qiK_found : Cond.instanceMethod ⟨"FreeLancesModel", "found", "(I)I"⟩ ∈ tbT := sub_8 (List.mem_of_getElem? (i := 28) rfl) rfl
set_option maxRecDepth 100000 in
theorem qsK_found : Cond.selects "FreeLancesModel" ⟨"FreeLancesModel", "found", "(I)I"⟩ ⟨"FreeLancesModel", "found", "(I)I"⟩ ∈ tbT := sub_8 (List.mem_of_getElem? (i := 29) rfl) rfl
set_option maxRecDepth 100000 in
theorem qc_71 : Cond.constantLong R_law 71 4294967295 ∈ tbT := sub_8 (List.mem_of_getElem? (i := 31) rfl) rfl
theorem ixL {L p : Nat} (hL : L ≤ 384) (hp : p + 6 ≤ L) {c : Nat} (hc : c < 6) (F : Nat → Option Unit) : ixx (nI p + nI c) L F = F (p + c) := by
  rw [nI_add]
  exact ixx_nI (by omega) (by omega)
