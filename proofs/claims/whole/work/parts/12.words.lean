theorem sub_1 {w : Cond} (h : w ∈ tables_1_1) (hg : (goodWord w || nestWord w) = true) : w ∈ tbT := List.mem_filter.mpr ⟨List.mem_append_right _ (show w ∈ tables_1 from List.mem_append_left _ h), hg⟩
theorem sub_2 {w : Cond} (h : w ∈ tables_1_2) (hg : (goodWord w || nestWord w) = true) : w ∈ tbT := List.mem_filter.mpr ⟨List.mem_append_right _ (show w ∈ tables_1 from List.mem_append_right _ (List.mem_append_left _ h)), hg⟩
theorem sub_3 {w : Cond} (h : w ∈ tables_1_3) (hg : (goodWord w || nestWord w) = true) : w ∈ tbT := List.mem_filter.mpr ⟨List.mem_append_right _ (show w ∈ tables_1 from List.mem_append_right _ (List.mem_append_right _ (List.mem_append_left _ h))), hg⟩
theorem sub_4 {w : Cond} (h : w ∈ tables_1_4) (hg : (goodWord w || nestWord w) = true) : w ∈ tbT := List.mem_filter.mpr ⟨List.mem_append_right _ (show w ∈ tables_1 from List.mem_append_right _ (List.mem_append_right _ (List.mem_append_right _ (List.mem_append_left _ h)))), hg⟩
theorem sub_5 {w : Cond} (h : w ∈ tables_1_5) (hg : (goodWord w || nestWord w) = true) : w ∈ tbT := List.mem_filter.mpr ⟨List.mem_append_right _ (show w ∈ tables_1 from List.mem_append_right _ (List.mem_append_right _ (List.mem_append_right _ (List.mem_append_right _ (List.mem_append_left _ h))))), hg⟩
theorem sub_6 {w : Cond} (h : w ∈ tables_1_6) (hg : (goodWord w || nestWord w) = true) : w ∈ tbT := List.mem_filter.mpr ⟨List.mem_append_right _ (show w ∈ tables_1 from List.mem_append_right _ (List.mem_append_right _ (List.mem_append_right _ (List.mem_append_right _ (List.mem_append_right _ (List.mem_append_left _ h)))))), hg⟩
theorem sub_7 {w : Cond} (h : w ∈ tables_1_7) (hg : (goodWord w || nestWord w) = true) : w ∈ tbT := List.mem_filter.mpr ⟨List.mem_append_right _ (show w ∈ tables_1 from List.mem_append_right _ (List.mem_append_right _ (List.mem_append_right _ (List.mem_append_right _ (List.mem_append_right _ (List.mem_append_right _ (List.mem_append_left _ h))))))), hg⟩
theorem sub_8 {w : Cond} (h : w ∈ tables_1_8) (hg : (goodWord w || nestWord w) = true) : w ∈ tbT := List.mem_filter.mpr ⟨List.mem_append_right _ (show w ∈ tables_1 from List.mem_append_right _ (List.mem_append_right _ (List.mem_append_right _ (List.mem_append_right _ (List.mem_append_right _ (List.mem_append_right _ (List.mem_append_right _ (h)))))))), hg⟩
theorem sel_1 {q : MethodName × Nat} (h : q ∈ lw_privs_1) : Cond.selects q.1.cls q.1 q.1 ∈ tbT := List.mem_filter.mpr ⟨List.mem_append_left _ (List.mem_map.mpr ⟨q, (show q ∈ lw_privs from List.mem_append_left _ h), rfl⟩), rfl⟩
theorem sel_2 {q : MethodName × Nat} (h : q ∈ lw_privs_2) : Cond.selects q.1.cls q.1 q.1 ∈ tbT := List.mem_filter.mpr ⟨List.mem_append_left _ (List.mem_map.mpr ⟨q, (show q ∈ lw_privs from List.mem_append_right _ (List.mem_append_left _ h)), rfl⟩), rfl⟩
theorem sel_3 {q : MethodName × Nat} (h : q ∈ lw_privs_3) : Cond.selects q.1.cls q.1 q.1 ∈ tbT := List.mem_filter.mpr ⟨List.mem_append_left _ (List.mem_map.mpr ⟨q, (show q ∈ lw_privs from List.mem_append_right _ (List.mem_append_right _ (List.mem_append_left _ h))), rfl⟩), rfl⟩
theorem sel_4 {q : MethodName × Nat} (h : q ∈ lw_privs_4) : Cond.selects q.1.cls q.1 q.1 ∈ tbT := List.mem_filter.mpr ⟨List.mem_append_left _ (List.mem_map.mpr ⟨q, (show q ∈ lw_privs from List.mem_append_right _ (List.mem_append_right _ (List.mem_append_right _ (List.mem_append_left _ h)))), rfl⟩), rfl⟩
theorem sel_5 {q : MethodName × Nat} (h : q ∈ lw_privs_5) : Cond.selects q.1.cls q.1 q.1 ∈ tbT := List.mem_filter.mpr ⟨List.mem_append_left _ (List.mem_map.mpr ⟨q, (show q ∈ lw_privs from List.mem_append_right _ (List.mem_append_right _ (List.mem_append_right _ (List.mem_append_right _ (List.mem_append_left _ h))))), rfl⟩), rfl⟩
theorem sel_6 {q : MethodName × Nat} (h : q ∈ lw_privs_6) : Cond.selects q.1.cls q.1 q.1 ∈ tbT := List.mem_filter.mpr ⟨List.mem_append_left _ (List.mem_map.mpr ⟨q, (show q ∈ lw_privs from List.mem_append_right _ (List.mem_append_right _ (List.mem_append_right _ (List.mem_append_right _ (List.mem_append_right _ (h)))))), rfl⟩), rfl⟩
set_option maxRecDepth 100000 in
theorem tw0 : Cond.selects "FreeLances" ⟨"FreeLances", "finding", "(I)I"⟩ ⟨"FreeLances", "finding", "(I)I"⟩ ∈ tbT := sel_1 (q := (⟨"FreeLances", "finding", "(I)I"⟩, 8)) (List.mem_of_getElem? (i := 0) rfl)
set_option maxRecDepth 100000 in
theorem tw1 : Cond.selects "FreeLances" ⟨"FreeLances", "isTown", "(I)Z"⟩ ⟨"FreeLances", "isTown", "(I)Z"⟩ ∈ tbT := sel_1 (q := (⟨"FreeLances", "isTown", "(I)Z"⟩, 8)) (List.mem_of_getElem? (i := 1) rfl)
set_option maxRecDepth 100000 in
theorem tw2 : Cond.selects "FreeLances" ⟨"FreeLances", "isCompany", "(I)Z"⟩ ⟨"FreeLances", "isCompany", "(I)Z"⟩ ∈ tbT := sel_1 (q := (⟨"FreeLances", "isCompany", "(I)Z"⟩, 8)) (List.mem_of_getElem? (i := 2) rfl)
set_option maxRecDepth 100000 in
theorem tw3 : Cond.selects "FreeLances" ⟨"FreeLances", "isLance", "(I)Z"⟩ ⟨"FreeLances", "isLance", "(I)Z"⟩ ∈ tbT := sel_1 (q := (⟨"FreeLances", "isLance", "(I)Z"⟩, 8)) (List.mem_of_getElem? (i := 3) rfl)
set_option maxRecDepth 100000 in
theorem tw4 : Cond.selects "FreeLances$World" ⟨"FreeLances$World", "letsGo", "(LFreeLances$Bond;)Z"⟩ ⟨"FreeLances$World", "letsGo", "(LFreeLances$Bond;)Z"⟩ ∈ tbT := sel_1 (q := (⟨"FreeLances$World", "letsGo", "(LFreeLances$Bond;)Z"⟩, 18)) (List.mem_of_getElem? (i := 4) rfl)
set_option maxRecDepth 100000 in
theorem tw5 : Cond.selects "FreeLances$Reader" ⟨"FreeLances$Reader", "begin", "([BII)V"⟩ ⟨"FreeLances$Reader", "begin", "([BII)V"⟩ ∈ tbT := sel_1 (q := (⟨"FreeLances$Reader", "begin", "([BII)V"⟩, 8)) (List.mem_of_getElem? (i := 5) rfl)
set_option maxRecDepth 100000 in
theorem tw6 : Cond.selects "FreeLances$Reader" ⟨"FreeLances$Reader", "either", "(I)I"⟩ ⟨"FreeLances$Reader", "either", "(I)I"⟩ ∈ tbT := sel_1 (q := (⟨"FreeLances$Reader", "either", "(I)I"⟩, 8)) (List.mem_of_getElem? (i := 6) rfl)
set_option maxRecDepth 100000 in
theorem tw7 : Cond.selects "FreeLances$Reader" ⟨"FreeLances$Reader", "both", "(I)I"⟩ ⟨"FreeLances$Reader", "both", "(I)I"⟩ ∈ tbT := sel_1 (q := (⟨"FreeLances$Reader", "both", "(I)I"⟩, 8)) (List.mem_of_getElem? (i := 7) rfl)
set_option maxRecDepth 100000 in
theorem tw8 : Cond.selects "FreeLances$Reader" ⟨"FreeLances$Reader", "compared", "(I)I"⟩ ⟨"FreeLances$Reader", "compared", "(I)I"⟩ ∈ tbT := sel_1 (q := (⟨"FreeLances$Reader", "compared", "(I)I"⟩, 8)) (List.mem_of_getElem? (i := 8) rfl)
set_option maxRecDepth 100000 in
theorem tw9 : Cond.selects "FreeLances$Reader" ⟨"FreeLances$Reader", "added", "(I)I"⟩ ⟨"FreeLances$Reader", "added", "(I)I"⟩ ∈ tbT := sel_1 (q := (⟨"FreeLances$Reader", "added", "(I)I"⟩, 8)) (List.mem_of_getElem? (i := 9) rfl)
set_option maxRecDepth 100000 in
theorem tw10 : Cond.selects "FreeLances$Reader" ⟨"FreeLances$Reader", "multiplied", "(I)I"⟩ ⟨"FreeLances$Reader", "multiplied", "(I)I"⟩ ∈ tbT := sel_1 (q := (⟨"FreeLances$Reader", "multiplied", "(I)I"⟩, 8)) (List.mem_of_getElem? (i := 10) rfl)
set_option maxRecDepth 100000 in
theorem tw11 : Cond.selects "FreeLances$Reader" ⟨"FreeLances$Reader", "single", "(I)I"⟩ ⟨"FreeLances$Reader", "single", "(I)I"⟩ ∈ tbT := sel_1 (q := (⟨"FreeLances$Reader", "single", "(I)I"⟩, 8)) (List.mem_of_getElem? (i := 11) rfl)
set_option maxRecDepth 100000 in
theorem tw12 : Cond.selects "FreeLances$Reader" ⟨"FreeLances$Reader", "sign", "()I"⟩ ⟨"FreeLances$Reader", "sign", "()I"⟩ ∈ tbT := sel_1 (q := (⟨"FreeLances$Reader", "sign", "()I"⟩, 8)) (List.mem_of_getElem? (i := 12) rfl)
set_option maxRecDepth 100000 in
theorem tw13 : Cond.selects "FreeLances$Reader" ⟨"FreeLances$Reader", "number", "()I"⟩ ⟨"FreeLances$Reader", "number", "()I"⟩ ∈ tbT := sel_1 (q := (⟨"FreeLances$Reader", "number", "()I"⟩, 8)) (List.mem_of_getElem? (i := 13) rfl)
set_option maxRecDepth 100000 in
theorem tw14 : Cond.selects "FreeLances$Reader" ⟨"FreeLances$Reader", "opened", "(II)I"⟩ ⟨"FreeLances$Reader", "opened", "(II)I"⟩ ∈ tbT := sel_1 (q := (⟨"FreeLances$Reader", "opened", "(II)I"⟩, 8)) (List.mem_of_getElem? (i := 14) rfl)
set_option maxRecDepth 100000 in
theorem tw15 : Cond.selects "FreeLances$Reader" ⟨"FreeLances$Reader", "nameOf", "(I)I"⟩ ⟨"FreeLances$Reader", "nameOf", "(I)I"⟩ ∈ tbT := sel_1 (q := (⟨"FreeLances$Reader", "nameOf", "(I)I"⟩, 8)) (List.mem_of_getElem? (i := 15) rfl)
set_option maxRecDepth 100000 in
theorem tw16 : Cond.selects "FreeLances$Reader" ⟨"FreeLances$Reader", "goesOnWith", "(II)Z"⟩ ⟨"FreeLances$Reader", "goesOnWith", "(II)Z"⟩ ∈ tbT := sel_2 (q := (⟨"FreeLances$Reader", "goesOnWith", "(II)Z"⟩, 8)) (List.mem_of_getElem? (i := 0) rfl)
set_option maxRecDepth 100000 in
theorem tw17 : Cond.selects "FreeLances" ⟨"FreeLances", "newBond", "(III)LFreeLances$Bond;"⟩ ⟨"FreeLances", "newBond", "(III)LFreeLances$Bond;"⟩ ∈ tbT := sel_2 (q := (⟨"FreeLances", "newBond", "(III)LFreeLances$Bond;"⟩, 8)) (List.mem_of_getElem? (i := 1) rfl)
set_option maxRecDepth 100000 in
theorem tw18 : Cond.selects "FreeLances" ⟨"FreeLances", "isBond", "(I)Z"⟩ ⟨"FreeLances", "isBond", "(I)Z"⟩ ∈ tbT := sel_2 (q := (⟨"FreeLances", "isBond", "(I)Z"⟩, 8)) (List.mem_of_getElem? (i := 2) rfl)
set_option maxRecDepth 100000 in
theorem tw19 : Cond.selects "FreeLances$World" ⟨"FreeLances$World", "clashOf", "(LFreeLances$Bond;LFreeLances$Bond;)I"⟩ ⟨"FreeLances$World", "clashOf", "(LFreeLances$Bond;LFreeLances$Bond;)I"⟩ ∈ tbT := sel_2 (q := (⟨"FreeLances$World", "clashOf", "(LFreeLances$Bond;LFreeLances$Bond;)I"⟩, 18)) (List.mem_of_getElem? (i := 3) rfl)
set_option maxRecDepth 100000 in
theorem tw20 : Cond.selects "FreeLances$World" ⟨"FreeLances$World", "truceDay", "(LFreeLances$Bond;LFreeLances$Bond;)I"⟩ ⟨"FreeLances$World", "truceDay", "(LFreeLances$Bond;LFreeLances$Bond;)I"⟩ ∈ tbT := sel_2 (q := (⟨"FreeLances$World", "truceDay", "(LFreeLances$Bond;LFreeLances$Bond;)I"⟩, 18)) (List.mem_of_getElem? (i := 4) rfl)
set_option maxRecDepth 100000 in
theorem tw21 : Cond.selects "FreeLances$World" ⟨"FreeLances$World", "boundUntil", "(IIZ)I"⟩ ⟨"FreeLances$World", "boundUntil", "(IIZ)I"⟩ ∈ tbT := sel_2 (q := (⟨"FreeLances$World", "boundUntil", "(IIZ)I"⟩, 18)) (List.mem_of_getElem? (i := 5) rfl)
set_option maxRecDepth 100000 in
theorem tw22 : Cond.selects "FreeLances$World" ⟨"FreeLances$World", "leastOf", "(II)I"⟩ ⟨"FreeLances$World", "leastOf", "(II)I"⟩ ∈ tbT := sel_2 (q := (⟨"FreeLances$World", "leastOf", "(II)I"⟩, 18)) (List.mem_of_getElem? (i := 6) rfl)
set_option maxRecDepth 100000 in
theorem tw23 : Cond.selects "FreeLances$World" ⟨"FreeLances$World", "counts", "(I)Z"⟩ ⟨"FreeLances$World", "counts", "(I)Z"⟩ ∈ tbT := sel_2 (q := (⟨"FreeLances$World", "counts", "(I)Z"⟩, 18)) (List.mem_of_getElem? (i := 7) rfl)
set_option maxRecDepth 100000 in
theorem tw24 : Cond.selects "FreeLances$Plans" ⟨"FreeLances$Plans", "winterChoice", "(LFreeLances$World;I)I"⟩ ⟨"FreeLances$Plans", "winterChoice", "(LFreeLances$World;I)I"⟩ ∈ tbT := sel_2 (q := (⟨"FreeLances$Plans", "winterChoice", "(LFreeLances$World;I)I"⟩, 2)) (List.mem_of_getElem? (i := 8) rfl)
set_option maxRecDepth 100000 in
theorem tw25 : Cond.selects "FreeLances$Plans" ⟨"FreeLances$Plans", "winterNext", "(LFreeLances$World;II)I"⟩ ⟨"FreeLances$Plans", "winterNext", "(LFreeLances$World;II)I"⟩ ∈ tbT := sel_2 (q := (⟨"FreeLances$Plans", "winterNext", "(LFreeLances$World;II)I"⟩, 2)) (List.mem_of_getElem? (i := 9) rfl)
set_option maxRecDepth 100000 in
theorem tw26 : Cond.selects "FreeLances$Plans" ⟨"FreeLances$Plans", "hireChoice", "(LFreeLances$World;[III)I"⟩ ⟨"FreeLances$Plans", "hireChoice", "(LFreeLances$World;[III)I"⟩ ∈ tbT := sel_2 (q := (⟨"FreeLances$Plans", "hireChoice", "(LFreeLances$World;[III)I"⟩, 2)) (List.mem_of_getElem? (i := 10) rfl)
set_option maxRecDepth 100000 in
theorem tw27 : Cond.selects "FreeLances$Plans" ⟨"FreeLances$Plans", "hireNext", "(LFreeLances$World;[IIII)I"⟩ ⟨"FreeLances$Plans", "hireNext", "(LFreeLances$World;[IIII)I"⟩ ∈ tbT := sel_2 (q := (⟨"FreeLances$Plans", "hireNext", "(LFreeLances$World;[IIII)I"⟩, 2)) (List.mem_of_getElem? (i := 11) rfl)
set_option maxRecDepth 100000 in
theorem tw28 : Cond.selects "FreeLances$World" ⟨"FreeLances$World", "eat", "(LFreeLances$Company;)V"⟩ ⟨"FreeLances$World", "eat", "(LFreeLances$Company;)V"⟩ ∈ tbT := sel_2 (q := (⟨"FreeLances$World", "eat", "(LFreeLances$Company;)V"⟩, 18)) (List.mem_of_getElem? (i := 12) rfl)
set_option maxRecDepth 100000 in
theorem tw29 : Cond.selects "FreeLances$World" ⟨"FreeLances$World", "ail", "(I)V"⟩ ⟨"FreeLances$World", "ail", "(I)V"⟩ ∈ tbT := sel_2 (q := (⟨"FreeLances$World", "ail", "(I)V"⟩, 18)) (List.mem_of_getElem? (i := 13) rfl)
set_option maxRecDepth 100000 in
theorem tw30 : Cond.selects "FreeLances$World" ⟨"FreeLances$World", "turnLeast", "(III)V"⟩ ⟨"FreeLances$World", "turnLeast", "(III)V"⟩ ∈ tbT := sel_2 (q := (⟨"FreeLances$World", "turnLeast", "(III)V"⟩, 18)) (List.mem_of_getElem? (i := 14) rfl)
set_option maxRecDepth 100000 in
theorem tw31 : Cond.selects "FreeLances$World" ⟨"FreeLances$World", "settle", "(LFreeLances$Bond;)V"⟩ ⟨"FreeLances$World", "settle", "(LFreeLances$Bond;)V"⟩ ∈ tbT := sel_2 (q := (⟨"FreeLances$World", "settle", "(LFreeLances$Bond;)V"⟩, 18)) (List.mem_of_getElem? (i := 15) rfl)
set_option maxRecDepth 100000 in
theorem tw32 : Cond.selects "FreeLances$World" ⟨"FreeLances$World", "due", "(II)I"⟩ ⟨"FreeLances$World", "due", "(II)I"⟩ ∈ tbT := sel_3 (q := (⟨"FreeLances$World", "due", "(II)I"⟩, 18)) (List.mem_of_getElem? (i := 0) rfl)
set_option maxRecDepth 100000 in
theorem tw33 : Cond.selects "FreeLances$Voices" ⟨"FreeLances$Voices", "own", "(III)I"⟩ ⟨"FreeLances$Voices", "own", "(III)I"⟩ ∈ tbT := sel_3 (q := (⟨"FreeLances$Voices", "own", "(III)I"⟩, 5)) (List.mem_of_getElem? (i := 1) rfl)
set_option maxRecDepth 100000 in
theorem tw34 : Cond.selects "FreeLances$Voices" ⟨"FreeLances$Voices", "from", "(IIII)I"⟩ ⟨"FreeLances$Voices", "from", "(IIII)I"⟩ ∈ tbT := sel_3 (q := (⟨"FreeLances$Voices", "from", "(IIII)I"⟩, 5)) (List.mem_of_getElem? (i := 2) rfl)
set_option maxRecDepth 100000 in
theorem tw35 : Cond.selects "FreeLances$Voices" ⟨"FreeLances$Voices", "work", "(III)I"⟩ ⟨"FreeLances$Voices", "work", "(III)I"⟩ ∈ tbT := sel_3 (q := (⟨"FreeLances$Voices", "work", "(III)I"⟩, 5)) (List.mem_of_getElem? (i := 3) rfl)
set_option maxRecDepth 100000 in
theorem tw36 : Cond.selects "FreeLances$Voices" ⟨"FreeLances$Voices", "above", "(IIII)I"⟩ ⟨"FreeLances$Voices", "above", "(IIII)I"⟩ ∈ tbT := sel_3 (q := (⟨"FreeLances$Voices", "above", "(IIII)I"⟩, 5)) (List.mem_of_getElem? (i := 4) rfl)
set_option maxRecDepth 100000 in
theorem tw37 : Cond.selects "FreeLancesModel" ⟨"FreeLancesModel", "finds", "(I)I"⟩ ⟨"FreeLancesModel", "finds", "(I)I"⟩ ∈ tbT := sel_3 (q := (⟨"FreeLancesModel", "finds", "(I)I"⟩, 27)) (List.mem_of_getElem? (i := 5) rfl)
set_option maxRecDepth 100000 in
theorem tw38 : Cond.selects "FreeLancesModel" ⟨"FreeLancesModel", "isTown", "(I)Z"⟩ ⟨"FreeLancesModel", "isTown", "(I)Z"⟩ ∈ tbT := sel_3 (q := (⟨"FreeLancesModel", "isTown", "(I)Z"⟩, 27)) (List.mem_of_getElem? (i := 6) rfl)
set_option maxRecDepth 100000 in
theorem tw39 : Cond.selects "FreeLancesModel" ⟨"FreeLancesModel", "farOf", "(II)I"⟩ ⟨"FreeLancesModel", "farOf", "(II)I"⟩ ∈ tbT := sel_3 (q := (⟨"FreeLancesModel", "farOf", "(II)I"⟩, 27)) (List.mem_of_getElem? (i := 7) rfl)
set_option maxRecDepth 100000 in
theorem tw40 : Cond.selects "FreeLancesModel" ⟨"FreeLancesModel", "ofTown", "(II)I"⟩ ⟨"FreeLancesModel", "ofTown", "(II)I"⟩ ∈ tbT := sel_3 (q := (⟨"FreeLancesModel", "ofTown", "(II)I"⟩, 27)) (List.mem_of_getElem? (i := 8) rfl)
set_option maxRecDepth 100000 in
theorem tw41 : Cond.selects "FreeLancesModel" ⟨"FreeLancesModel", "own", "(II)I"⟩ ⟨"FreeLancesModel", "own", "(II)I"⟩ ∈ tbT := sel_3 (q := (⟨"FreeLancesModel", "own", "(II)I"⟩, 27)) (List.mem_of_getElem? (i := 9) rfl)
set_option maxRecDepth 100000 in
theorem tw42 : Cond.selects "FreeLancesModel" ⟨"FreeLancesModel", "townGets", "(III)V"⟩ ⟨"FreeLancesModel", "townGets", "(III)V"⟩ ∈ tbT := sel_3 (q := (⟨"FreeLancesModel", "townGets", "(III)V"⟩, 27)) (List.mem_of_getElem? (i := 10) rfl)
set_option maxRecDepth 100000 in
theorem tw43 : Cond.selects "FreeLancesModel" ⟨"FreeLancesModel", "sets", "(III)V"⟩ ⟨"FreeLancesModel", "sets", "(III)V"⟩ ∈ tbT := sel_3 (q := (⟨"FreeLancesModel", "sets", "(III)V"⟩, 27)) (List.mem_of_getElem? (i := 11) rfl)
set_option maxRecDepth 100000 in
theorem tw44 : Cond.selects "FreeLancesModel" ⟨"FreeLancesModel", "isCompany", "(I)Z"⟩ ⟨"FreeLancesModel", "isCompany", "(I)Z"⟩ ∈ tbT := sel_3 (q := (⟨"FreeLancesModel", "isCompany", "(I)Z"⟩, 27)) (List.mem_of_getElem? (i := 12) rfl)
set_option maxRecDepth 100000 in
theorem tw45 : Cond.selects "FreeLancesModel" ⟨"FreeLancesModel", "manySo", "(II)I"⟩ ⟨"FreeLancesModel", "manySo", "(II)I"⟩ ∈ tbT := sel_3 (q := (⟨"FreeLancesModel", "manySo", "(II)I"⟩, 27)) (List.mem_of_getElem? (i := 13) rfl)
set_option maxRecDepth 100000 in
theorem tw46 : Cond.selects "FreeLancesModel" ⟨"FreeLancesModel", "its", "(II)I"⟩ ⟨"FreeLancesModel", "its", "(II)I"⟩ ∈ tbT := sel_3 (q := (⟨"FreeLancesModel", "its", "(II)I"⟩, 27)) (List.mem_of_getElem? (i := 14) rfl)
set_option maxRecDepth 100000 in
theorem tw47 : Cond.selects "FreeLancesModel" ⟨"FreeLancesModel", "servedOn", "(II)I"⟩ ⟨"FreeLancesModel", "servedOn", "(II)I"⟩ ∈ tbT := sel_3 (q := (⟨"FreeLancesModel", "servedOn", "(II)I"⟩, 27)) (List.mem_of_getElem? (i := 15) rfl)
set_option maxRecDepth 100000 in
theorem tw48 : Cond.selects "FreeLancesModel" ⟨"FreeLancesModel", "isContract", "(I)Z"⟩ ⟨"FreeLancesModel", "isContract", "(I)Z"⟩ ∈ tbT := sel_4 (q := (⟨"FreeLancesModel", "isContract", "(I)Z"⟩, 27)) (List.mem_of_getElem? (i := 0) rfl)
set_option maxRecDepth 100000 in
theorem tw49 : Cond.selects "FreeLancesModel" ⟨"FreeLancesModel", "bond", "(II)I"⟩ ⟨"FreeLancesModel", "bond", "(II)I"⟩ ∈ tbT := sel_4 (q := (⟨"FreeLancesModel", "bond", "(II)I"⟩, 27)) (List.mem_of_getElem? (i := 1) rfl)
set_option maxRecDepth 100000 in
theorem tw50 : Cond.selects "FreeLancesModel" ⟨"FreeLancesModel", "isIn", "(II)Z"⟩ ⟨"FreeLancesModel", "isIn", "(II)Z"⟩ ∈ tbT := sel_4 (q := (⟨"FreeLancesModel", "isIn", "(II)Z"⟩, 27)) (List.mem_of_getElem? (i := 2) rfl)
set_option maxRecDepth 100000 in
theorem tw51 : Cond.selects "FreeLancesModel" ⟨"FreeLancesModel", "isLance", "(I)Z"⟩ ⟨"FreeLancesModel", "isLance", "(I)Z"⟩ ∈ tbT := sel_4 (q := (⟨"FreeLancesModel", "isLance", "(I)Z"⟩, 27)) (List.mem_of_getElem? (i := 3) rfl)
set_option maxRecDepth 100000 in
theorem tw52 : Cond.selects "FreeLancesModel" ⟨"FreeLancesModel", "mayLeave", "(I)Z"⟩ ⟨"FreeLancesModel", "mayLeave", "(I)Z"⟩ ∈ tbT := sel_4 (q := (⟨"FreeLancesModel", "mayLeave", "(I)Z"⟩, 27)) (List.mem_of_getElem? (i := 4) rfl)
set_option maxRecDepth 100000 in
theorem tw53 : Cond.selects "FreeLancesModel" ⟨"FreeLancesModel", "inForce", "(II)I"⟩ ⟨"FreeLancesModel", "inForce", "(II)I"⟩ ∈ tbT := sel_4 (q := (⟨"FreeLancesModel", "inForce", "(II)I"⟩, 27)) (List.mem_of_getElem? (i := 5) rfl)
set_option maxRecDepth 100000 in
theorem tw54 : Cond.selects "FreeLancesModel" ⟨"FreeLancesModel", "comesTo", "(IIII)I"⟩ ⟨"FreeLancesModel", "comesTo", "(IIII)I"⟩ ∈ tbT := sel_4 (q := (⟨"FreeLancesModel", "comesTo", "(IIII)I"⟩, 27)) (List.mem_of_getElem? (i := 6) rfl)
set_option maxRecDepth 100000 in
theorem tw55 : Cond.selects "FreeLancesModel" ⟨"FreeLancesModel", "turns", "(II)V"⟩ ⟨"FreeLancesModel", "turns", "(II)V"⟩ ∈ tbT := sel_4 (q := (⟨"FreeLancesModel", "turns", "(II)V"⟩, 27)) (List.mem_of_getElem? (i := 7) rfl)
set_option maxRecDepth 100000 in
theorem tw56 : Cond.selects "FreeLancesModel" ⟨"FreeLancesModel", "reads", "(I)Z"⟩ ⟨"FreeLancesModel", "reads", "(I)Z"⟩ ∈ tbT := sel_4 (q := (⟨"FreeLancesModel", "reads", "(I)Z"⟩, 27)) (List.mem_of_getElem? (i := 8) rfl)
set_option maxRecDepth 100000 in
theorem tw57 : Cond.selects "FreeLancesModel" ⟨"FreeLancesModel", "byteAt", "(I)I"⟩ ⟨"FreeLancesModel", "byteAt", "(I)I"⟩ ∈ tbT := sel_4 (q := (⟨"FreeLancesModel", "byteAt", "(I)I"⟩, 27)) (List.mem_of_getElem? (i := 9) rfl)
set_option maxRecDepth 100000 in
theorem tw58 : Cond.selects "FreeLancesModel" ⟨"FreeLancesModel", "readsOne", "(I)I"⟩ ⟨"FreeLancesModel", "readsOne", "(I)I"⟩ ∈ tbT := sel_4 (q := (⟨"FreeLancesModel", "readsOne", "(I)I"⟩, 27)) (List.mem_of_getElem? (i := 10) rfl)
set_option maxRecDepth 100000 in
theorem tw59 : Cond.selects "FreeLancesModel" ⟨"FreeLancesModel", "openMany", "()I"⟩ ⟨"FreeLancesModel", "openMany", "()I"⟩ ∈ tbT := sel_4 (q := (⟨"FreeLancesModel", "openMany", "()I"⟩, 27)) (List.mem_of_getElem? (i := 11) rfl)
set_option maxRecDepth 100000 in
theorem tw60 : Cond.selects "FreeLancesModel" ⟨"FreeLancesModel", "lays", "(I)V"⟩ ⟨"FreeLancesModel", "lays", "(I)V"⟩ ∈ tbT := sel_4 (q := (⟨"FreeLancesModel", "lays", "(I)V"⟩, 27)) (List.mem_of_getElem? (i := 12) rfl)
set_option maxRecDepth 100000 in
theorem tw61 : Cond.selects "FreeLancesModel" ⟨"FreeLancesModel", "settles", "(I)V"⟩ ⟨"FreeLancesModel", "settles", "(I)V"⟩ ∈ tbT := sel_4 (q := (⟨"FreeLancesModel", "settles", "(I)V"⟩, 27)) (List.mem_of_getElem? (i := 13) rfl)
set_option maxRecDepth 100000 in
theorem tw62 : Cond.selects "FreeLancesModel" ⟨"FreeLancesModel", "hasOpen", "()Z"⟩ ⟨"FreeLancesModel", "hasOpen", "()Z"⟩ ∈ tbT := sel_4 (q := (⟨"FreeLancesModel", "hasOpen", "()Z"⟩, 27)) (List.mem_of_getElem? (i := 14) rfl)
set_option maxRecDepth 100000 in
theorem tw63 : Cond.selects "FreeLancesModel" ⟨"FreeLancesModel", "isTested", "()Z"⟩ ⟨"FreeLancesModel", "isTested", "()Z"⟩ ∈ tbT := sel_4 (q := (⟨"FreeLancesModel", "isTested", "()Z"⟩, 27)) (List.mem_of_getElem? (i := 15) rfl)
set_option maxRecDepth 100000 in
theorem tw64 : Cond.selects "FreeLancesModel" ⟨"FreeLancesModel", "isFull", "()Z"⟩ ⟨"FreeLancesModel", "isFull", "()Z"⟩ ∈ tbT := sel_5 (q := (⟨"FreeLancesModel", "isFull", "()Z"⟩, 27)) (List.mem_of_getElem? (i := 0) rfl)
set_option maxRecDepth 100000 in
theorem tw65 : Cond.selects "FreeLancesModel" ⟨"FreeLancesModel", "newBond", "(IIIIIIII)I"⟩ ⟨"FreeLancesModel", "newBond", "(IIIIIIII)I"⟩ ∈ tbT := sel_5 (q := (⟨"FreeLancesModel", "newBond", "(IIIIIIII)I"⟩, 27)) (List.mem_of_getElem? (i := 1) rfl)
set_option maxRecDepth 100000 in
theorem tw66 : Cond.selects "FreeLancesModel" ⟨"FreeLancesModel", "writes", "(III)V"⟩ ⟨"FreeLancesModel", "writes", "(III)V"⟩ ∈ tbT := sel_5 (q := (⟨"FreeLancesModel", "writes", "(III)V"⟩, 27)) (List.mem_of_getElem? (i := 2) rfl)
set_option maxRecDepth 100000 in
theorem tw67 : Cond.selects "FreeLancesModel" ⟨"FreeLancesModel", "isBond", "(I)Z"⟩ ⟨"FreeLancesModel", "isBond", "(I)Z"⟩ ∈ tbT := sel_5 (q := (⟨"FreeLancesModel", "isBond", "(I)Z"⟩, 27)) (List.mem_of_getElem? (i := 3) rfl)
set_option maxRecDepth 100000 in
theorem tw68 : Cond.selects "FreeLancesModel" ⟨"FreeLancesModel", "gives", "(III)V"⟩ ⟨"FreeLancesModel", "gives", "(III)V"⟩ ∈ tbT := sel_5 (q := (⟨"FreeLancesModel", "gives", "(III)V"⟩, 27)) (List.mem_of_getElem? (i := 4) rfl)
set_option maxRecDepth 100000 in
theorem tw69 : Cond.selects "FreeLancesModel" ⟨"FreeLancesModel", "owes", "(II)V"⟩ ⟨"FreeLancesModel", "owes", "(II)V"⟩ ∈ tbT := sel_5 (q := (⟨"FreeLancesModel", "owes", "(II)V"⟩, 27)) (List.mem_of_getElem? (i := 5) rfl)
set_option maxRecDepth 100000 in
theorem tw70 : Cond.selects "FreeLancesModel" ⟨"FreeLancesModel", "clashOf", "(II)I"⟩ ⟨"FreeLancesModel", "clashOf", "(II)I"⟩ ∈ tbT := sel_5 (q := (⟨"FreeLancesModel", "clashOf", "(II)I"⟩, 27)) (List.mem_of_getElem? (i := 6) rfl)
set_option maxRecDepth 100000 in
theorem tw71 : Cond.selects "FreeLancesModel" ⟨"FreeLancesModel", "both", "(II)I"⟩ ⟨"FreeLancesModel", "both", "(II)I"⟩ ∈ tbT := sel_5 (q := (⟨"FreeLancesModel", "both", "(II)I"⟩, 27)) (List.mem_of_getElem? (i := 7) rfl)
set_option maxRecDepth 100000 in
theorem tw72 : Cond.selects "FreeLancesModel" ⟨"FreeLancesModel", "clashes", "(II)I"⟩ ⟨"FreeLancesModel", "clashes", "(II)I"⟩ ∈ tbT := sel_5 (q := (⟨"FreeLancesModel", "clashes", "(II)I"⟩, 27)) (List.mem_of_getElem? (i := 8) rfl)
set_option maxRecDepth 100000 in
theorem tw73 : Cond.selects "FreeLancesModel" ⟨"FreeLancesModel", "marked", "(II)I"⟩ ⟨"FreeLancesModel", "marked", "(II)I"⟩ ∈ tbT := sel_5 (q := (⟨"FreeLancesModel", "marked", "(II)I"⟩, 27)) (List.mem_of_getElem? (i := 9) rfl)
set_option maxRecDepth 100000 in
theorem tw74 : Cond.selects "FreeLancesModel" ⟨"FreeLancesModel", "counts", "(I)Z"⟩ ⟨"FreeLancesModel", "counts", "(I)Z"⟩ ∈ tbT := sel_5 (q := (⟨"FreeLancesModel", "counts", "(I)Z"⟩, 27)) (List.mem_of_getElem? (i := 10) rfl)
set_option maxRecDepth 100000 in
theorem tw75 : Cond.selects "FreeLancesModel" ⟨"FreeLancesModel", "twiceOf", "(III)I"⟩ ⟨"FreeLancesModel", "twiceOf", "(III)I"⟩ ∈ tbT := sel_5 (q := (⟨"FreeLancesModel", "twiceOf", "(III)I"⟩, 27)) (List.mem_of_getElem? (i := 11) rfl)
set_option maxRecDepth 100000 in
theorem tw76 : Cond.selects "FreeLancesModel" ⟨"FreeLancesModel", "isShown", "(II)Z"⟩ ⟨"FreeLancesModel", "isShown", "(II)Z"⟩ ∈ tbT := sel_5 (q := (⟨"FreeLancesModel", "isShown", "(II)Z"⟩, 27)) (List.mem_of_getElem? (i := 12) rfl)
set_option maxRecDepth 100000 in
theorem tw77 : Cond.selects "FreeLancesModel" ⟨"FreeLancesModel", "isOfThrees", "(II)Z"⟩ ⟨"FreeLancesModel", "isOfThrees", "(II)Z"⟩ ∈ tbT := sel_5 (q := (⟨"FreeLancesModel", "isOfThrees", "(II)Z"⟩, 27)) (List.mem_of_getElem? (i := 13) rfl)
set_option maxRecDepth 100000 in
theorem tw78 : Cond.selects "FreeLancesModel" ⟨"FreeLancesModel", "findWinter", "()V"⟩ ⟨"FreeLancesModel", "findWinter", "()V"⟩ ∈ tbT := sel_5 (q := (⟨"FreeLancesModel", "findWinter", "()V"⟩, 27)) (List.mem_of_getElem? (i := 14) rfl)
set_option maxRecDepth 100000 in
theorem tw79 : Cond.selects "FreeLancesModel" ⟨"FreeLancesModel", "settle", "(III)V"⟩ ⟨"FreeLancesModel", "settle", "(III)V"⟩ ∈ tbT := sel_5 (q := (⟨"FreeLancesModel", "settle", "(III)V"⟩, 27)) (List.mem_of_getElem? (i := 15) rfl)
set_option maxRecDepth 100000 in
theorem tw80 : Cond.selects "FreeLancesModel" ⟨"FreeLancesModel", "hires", "(III)V"⟩ ⟨"FreeLancesModel", "hires", "(III)V"⟩ ∈ tbT := sel_6 (q := (⟨"FreeLancesModel", "hires", "(III)V"⟩, 27)) (List.mem_of_getElem? (i := 0) rfl)
set_option maxRecDepth 100000 in
theorem tw81 : Cond.selects "FreeLancesModel" ⟨"FreeLancesModel", "run", "(I)V"⟩ ⟨"FreeLancesModel", "run", "(I)V"⟩ ∈ tbT := sel_6 (q := (⟨"FreeLancesModel", "run", "(I)V"⟩, 27)) (List.mem_of_getElem? (i := 1) rfl)
set_option maxRecDepth 100000 in
theorem tw82 : Cond.selects "FreeLancesModel" ⟨"FreeLancesModel", "eats", "(I)V"⟩ ⟨"FreeLancesModel", "eats", "(I)V"⟩ ∈ tbT := sel_6 (q := (⟨"FreeLancesModel", "eats", "(I)V"⟩, 27)) (List.mem_of_getElem? (i := 2) rfl)
set_option maxRecDepth 100000 in
theorem tw83 : Cond.selects "FreeLancesModel" ⟨"FreeLancesModel", "changes", "(III)V"⟩ ⟨"FreeLancesModel", "changes", "(III)V"⟩ ∈ tbT := sel_6 (q := (⟨"FreeLancesModel", "changes", "(III)V"⟩, 27)) (List.mem_of_getElem? (i := 3) rfl)
set_option maxRecDepth 100000 in
theorem tw84 : Cond.selects "FreeLancesModel" ⟨"FreeLancesModel", "month", "(I)V"⟩ ⟨"FreeLancesModel", "month", "(I)V"⟩ ∈ tbT := sel_6 (q := (⟨"FreeLancesModel", "month", "(I)V"⟩, 27)) (List.mem_of_getElem? (i := 4) rfl)
set_option maxRecDepth 100000 in
theorem tw85 : Cond.selects "FreeLancesModel" ⟨"FreeLancesModel", "seen", "(II)I"⟩ ⟨"FreeLancesModel", "seen", "(II)I"⟩ ∈ tbT := sel_6 (q := (⟨"FreeLancesModel", "seen", "(II)I"⟩, 27)) (List.mem_of_getElem? (i := 5) rfl)
set_option maxRecDepth 100000 in
theorem tw86 : Cond.selects "FreeLancesModel" ⟨"FreeLancesModel", "bindsOf", "(II)I"⟩ ⟨"FreeLancesModel", "bindsOf", "(II)I"⟩ ∈ tbT := sel_6 (q := (⟨"FreeLancesModel", "bindsOf", "(II)I"⟩, 27)) (List.mem_of_getElem? (i := 6) rfl)
set_option maxRecDepth 100000 in
theorem tw87 : Cond.selects "FreeLancesModel" ⟨"FreeLancesModel", "ran", "(I)V"⟩ ⟨"FreeLancesModel", "ran", "(I)V"⟩ ∈ tbT := sel_6 (q := (⟨"FreeLancesModel", "ran", "(I)V"⟩, 27)) (List.mem_of_getElem? (i := 7) rfl)
set_option maxRecDepth 100000 in
theorem tw88 : Cond.selects "FreeLancesModel" ⟨"FreeLancesModel", "bindsBond", "(II)I"⟩ ⟨"FreeLancesModel", "bindsBond", "(II)I"⟩ ∈ tbT := sel_6 (q := (⟨"FreeLancesModel", "bindsBond", "(II)I"⟩, 27)) (List.mem_of_getElem? (i := 8) rfl)
set_option maxRecDepth 100000 in
theorem tw89 : Cond.selects "FreeLancesModel" ⟨"FreeLancesModel", "paysOf", "(II)I"⟩ ⟨"FreeLancesModel", "paysOf", "(II)I"⟩ ∈ tbT := sel_6 (q := (⟨"FreeLancesModel", "paysOf", "(II)I"⟩, 27)) (List.mem_of_getElem? (i := 9) rfl)
set_option maxRecDepth 100000 in
theorem tw90 : Cond.selects "FreeLancesModel" ⟨"FreeLancesModel", "paysBond", "(II)I"⟩ ⟨"FreeLancesModel", "paysBond", "(II)I"⟩ ∈ tbT := sel_6 (q := (⟨"FreeLancesModel", "paysBond", "(II)I"⟩, 27)) (List.mem_of_getElem? (i := 10) rfl)
set_option maxRecDepth 100000 in
theorem tw91 : Cond.selects "FreeLancesModel" ⟨"FreeLancesModel", "endsOf", "(II)I"⟩ ⟨"FreeLancesModel", "endsOf", "(II)I"⟩ ∈ tbT := sel_6 (q := (⟨"FreeLancesModel", "endsOf", "(II)I"⟩, 27)) (List.mem_of_getElem? (i := 11) rfl)
set_option maxRecDepth 100000 in
theorem tw92 : Cond.selects "FreeLancesModel" ⟨"FreeLancesModel", "endsContract", "(II)I"⟩ ⟨"FreeLancesModel", "endsContract", "(II)I"⟩ ∈ tbT := sel_6 (q := (⟨"FreeLancesModel", "endsContract", "(II)I"⟩, 27)) (List.mem_of_getElem? (i := 12) rfl)
set_option maxRecDepth 100000 in
theorem tw93 : Cond.selects "FreeLancesModel" ⟨"FreeLancesModel", "endsBond", "(II)I"⟩ ⟨"FreeLancesModel", "endsBond", "(II)I"⟩ ∈ tbT := sel_6 (q := (⟨"FreeLancesModel", "endsBond", "(II)I"⟩, 27)) (List.mem_of_getElem? (i := 13) rfl)
set_option maxRecDepth 100000 in
theorem tw94 : Cond.selects "FreeLancesModel" ⟨"FreeLancesModel", "tellsOf", "(II)I"⟩ ⟨"FreeLancesModel", "tellsOf", "(II)I"⟩ ∈ tbT := sel_6 (q := (⟨"FreeLancesModel", "tellsOf", "(II)I"⟩, 27)) (List.mem_of_getElem? (i := 14) rfl)
set_option maxRecDepth 100000 in
theorem tw95 : Cond.selects "FreeLancesModel" ⟨"FreeLancesModel", "tellsBond", "(II)I"⟩ ⟨"FreeLancesModel", "tellsBond", "(II)I"⟩ ∈ tbT := sel_6 (q := (⟨"FreeLancesModel", "tellsBond", "(II)I"⟩, 27)) (List.mem_of_getElem? (i := 15) rfl)
set_option maxRecDepth 100000 in
theorem tw97 : Cond.initialized "FreeLances" ∈ tbT := sub_1 (List.mem_of_getElem? (i := 1) rfl) rfl
set_option maxRecDepth 100000 in
theorem tw98 : Cond.initialized "FreeLances$World" ∈ tbT := sub_1 (List.mem_of_getElem? (i := 2) rfl) rfl
set_option maxRecDepth 100000 in
theorem tw99 : Cond.initialized "FreeLances$Reader" ∈ tbT := sub_1 (List.mem_of_getElem? (i := 3) rfl) rfl
set_option maxRecDepth 100000 in
theorem tw100 : Cond.initialized "FreeLances$Town" ∈ tbT := sub_1 (List.mem_of_getElem? (i := 4) rfl) rfl
set_option maxRecDepth 100000 in
theorem tw101 : Cond.initialized "FreeLances$Company" ∈ tbT := sub_1 (List.mem_of_getElem? (i := 5) rfl) rfl
set_option maxRecDepth 100000 in
theorem tw102 : Cond.initialized "FreeLances$Lance" ∈ tbT := sub_1 (List.mem_of_getElem? (i := 6) rfl) rfl
set_option maxRecDepth 100000 in
theorem tw103 : Cond.initialized "FreeLances$Statute" ∈ tbT := sub_1 (List.mem_of_getElem? (i := 7) rfl) rfl
set_option maxRecDepth 100000 in
theorem tw104 : Cond.initialized "FreeLances$Bond" ∈ tbT := sub_1 (List.mem_of_getElem? (i := 8) rfl) rfl
set_option maxRecDepth 100000 in
theorem tw105 : Cond.initialized "FreeLances$Sheet" ∈ tbT := sub_1 (List.mem_of_getElem? (i := 9) rfl) rfl
set_option maxRecDepth 100000 in
theorem tw106 : Cond.initialized "FreeLances$Voices" ∈ tbT := sub_1 (List.mem_of_getElem? (i := 10) rfl) rfl
set_option maxRecDepth 100000 in
theorem tw107 : Cond.initialized "FreeLances$Plans" ∈ tbT := sub_1 (List.mem_of_getElem? (i := 11) rfl) rfl
set_option maxRecDepth 100000 in
theorem tw108 : Cond.initialized "FreeLancesModel" ∈ tbT := sub_1 (List.mem_of_getElem? (i := 12) rfl) rfl
set_option maxRecDepth 100000 in
theorem tw109 : Cond.initialized "java/lang/Math" ∈ tbT := sub_1 (List.mem_of_getElem? (i := 13) rfl) rfl
set_option maxRecDepth 100000 in
theorem tw110 : Cond.initialized "java/lang/System" ∈ tbT := sub_1 (List.mem_of_getElem? (i := 14) rfl) rfl
set_option maxRecDepth 100000 in
theorem tw111 : Cond.initialized "java/lang/Integer" ∈ tbT := sub_1 (List.mem_of_getElem? (i := 15) rfl) rfl
set_option maxRecDepth 100000 in
theorem tw142 : Cond.fieldLink "FreeLances$Reader" 9 "FreeLances$Reader" "text" "[B" ∈ tbT := sub_1 (List.mem_of_getElem? (i := 46) rfl) rfl
set_option maxRecDepth 100000 in
theorem tw143 : Cond.fieldLink "FreeLances$Reader" 48 "FreeLances$Reader" "length" "I" ∈ tbT := sub_1 (List.mem_of_getElem? (i := 47) rfl) rfl
set_option maxRecDepth 100000 in
theorem tw144 : Cond.fieldLink "FreeLances$Reader" 55 "FreeLances$Reader" "use" "I" ∈ tbT := sub_1 (List.mem_of_getElem? (i := 48) rfl) rfl
set_option maxRecDepth 100000 in
theorem tw145 : Cond.fieldLink "FreeLances$Reader" 15 "FreeLances$Reader" "first" "I" ∈ tbT := sub_1 (List.mem_of_getElem? (i := 49) rfl) rfl
set_option maxRecDepth 100000 in
theorem tw146 : Cond.fieldLink "FreeLances$Reader" 19 "FreeLances$Reader" "second" "I" ∈ tbT := sub_1 (List.mem_of_getElem? (i := 50) rfl) rfl
set_option maxRecDepth 100000 in
theorem tw147 : Cond.fieldLink "FreeLances$Reader" 22 "FreeLances$Reader" "third" "I" ∈ tbT := sub_1 (List.mem_of_getElem? (i := 51) rfl) rfl
set_option maxRecDepth 100000 in
theorem tw148 : Cond.fieldLink "FreeLances$Reader" 45 "FreeLances$Reader" "place" "I" ∈ tbT := sub_1 (List.mem_of_getElem? (i := 52) rfl) rfl
set_option maxRecDepth 100000 in
theorem tw149 : Cond.fieldLink "FreeLances$Reader" 42 "FreeLances$Reader" "fault" "I" ∈ tbT := sub_1 (List.mem_of_getElem? (i := 53) rfl) rfl
set_option maxRecDepth 100000 in
theorem tw174 : Cond.fieldLink "FreeLances$Town" 7 "FreeLances$Town" "coin" "I" ∈ tbT := sub_1 (List.mem_of_getElem? (i := 78) rfl) rfl
set_option maxRecDepth 100000 in
theorem tw175 : Cond.fieldLink "FreeLances" 89 "FreeLances$Town" "coin" "I" ∈ tbT := sub_1 (List.mem_of_getElem? (i := 79) rfl) rfl
set_option maxRecDepth 100000 in
theorem tw176 : Cond.fieldLink "FreeLances$World" 144 "FreeLances$Town" "coin" "I" ∈ tbT := sub_1 (List.mem_of_getElem? (i := 80) rfl) rfl
set_option maxRecDepth 100000 in
theorem tw177 : Cond.fieldLink "FreeLances$Town" 13 "FreeLances$Town" "bread" "I" ∈ tbT := sub_1 (List.mem_of_getElem? (i := 81) rfl) rfl
set_option maxRecDepth 100000 in
theorem tw178 : Cond.fieldLink "FreeLances" 92 "FreeLances$Town" "bread" "I" ∈ tbT := sub_1 (List.mem_of_getElem? (i := 82) rfl) rfl
set_option maxRecDepth 100000 in
theorem tw179 : Cond.fieldLink "FreeLances$World" 169 "FreeLances$Town" "bread" "I" ∈ tbT := sub_1 (List.mem_of_getElem? (i := 83) rfl) rfl
set_option maxRecDepth 100000 in
theorem tw180 : Cond.fieldLink "FreeLances$Town" 16 "FreeLances$Town" "wall" "I" ∈ tbT := sub_1 (List.mem_of_getElem? (i := 84) rfl) rfl
set_option maxRecDepth 100000 in
theorem tw181 : Cond.fieldLink "FreeLances" 95 "FreeLances$Town" "wall" "I" ∈ tbT := sub_1 (List.mem_of_getElem? (i := 85) rfl) rfl
set_option maxRecDepth 100000 in
theorem tw182 : Cond.fieldLink "FreeLances$Town" 19 "FreeLances$Town" "guns" "I" ∈ tbT := sub_1 (List.mem_of_getElem? (i := 86) rfl) rfl
set_option maxRecDepth 100000 in
theorem tw183 : Cond.fieldLink "FreeLances" 98 "FreeLances$Town" "guns" "I" ∈ tbT := sub_1 (List.mem_of_getElem? (i := 87) rfl) rfl
set_option maxRecDepth 100000 in
theorem tw198 : Cond.fieldLink "FreeLances$Company" 18 "FreeLances$Company" "coin" "I" ∈ tbT := sub_1 (List.mem_of_getElem? (i := 102) rfl) rfl
set_option maxRecDepth 100000 in
theorem tw199 : Cond.fieldLink "FreeLances$World" 147 "FreeLances$Company" "coin" "I" ∈ tbT := sub_1 (List.mem_of_getElem? (i := 103) rfl) rfl
set_option maxRecDepth 100000 in
theorem tw200 : Cond.fieldLink "FreeLances" 135 "FreeLances$Company" "coin" "I" ∈ tbT := sub_1 (List.mem_of_getElem? (i := 104) rfl) rfl
set_option maxRecDepth 100000 in
theorem tw201 : Cond.fieldLink "FreeLances$Company" 22 "FreeLances$Company" "bread" "I" ∈ tbT := sub_1 (List.mem_of_getElem? (i := 105) rfl) rfl
set_option maxRecDepth 100000 in
theorem tw202 : Cond.fieldLink "FreeLances$World" 166 "FreeLances$Company" "bread" "I" ∈ tbT := sub_1 (List.mem_of_getElem? (i := 106) rfl) rfl
set_option maxRecDepth 100000 in
theorem tw203 : Cond.fieldLink "FreeLances" 136 "FreeLances$Company" "bread" "I" ∈ tbT := sub_1 (List.mem_of_getElem? (i := 107) rfl) rfl
set_option maxRecDepth 100000 in
theorem tw204 : Cond.fieldLink "FreeLances$Company" 25 "FreeLances$Company" "hunger" "I" ∈ tbT := sub_1 (List.mem_of_getElem? (i := 108) rfl) rfl
set_option maxRecDepth 100000 in
theorem tw205 : Cond.fieldLink "FreeLances$World" 170 "FreeLances$Company" "hunger" "I" ∈ tbT := sub_1 (List.mem_of_getElem? (i := 109) rfl) rfl
set_option maxRecDepth 100000 in
theorem tw206 : Cond.fieldLink "FreeLances" 137 "FreeLances$Company" "hunger" "I" ∈ tbT := sub_1 (List.mem_of_getElem? (i := 110) rfl) rfl
set_option maxRecDepth 100000 in
theorem tw207 : Cond.fieldLink "FreeLances$Company" 28 "FreeLances$Company" "town" "I" ∈ tbT := sub_1 (List.mem_of_getElem? (i := 111) rfl) rfl
set_option maxRecDepth 100000 in
theorem tw208 : Cond.fieldLink "FreeLances$World" 124 "FreeLances$Company" "town" "I" ∈ tbT := sub_1 (List.mem_of_getElem? (i := 112) rfl) rfl
set_option maxRecDepth 100000 in
theorem tw209 : Cond.fieldLink "FreeLances" 123 "FreeLances$Company" "town" "I" ∈ tbT := sub_1 (List.mem_of_getElem? (i := 113) rfl) rfl
set_option maxRecDepth 100000 in
theorem tw210 : Cond.fieldLink "FreeLances$Company" 31 "FreeLances$Company" "goal" "I" ∈ tbT := sub_1 (List.mem_of_getElem? (i := 114) rfl) rfl
set_option maxRecDepth 100000 in
theorem tw211 : Cond.fieldLink "FreeLances" 126 "FreeLances$Company" "goal" "I" ∈ tbT := sub_1 (List.mem_of_getElem? (i := 115) rfl) rfl
set_option maxRecDepth 100000 in
theorem tw212 : Cond.fieldLink "FreeLances$Company" 34 "FreeLances$Company" "arrival" "I" ∈ tbT := sub_1 (List.mem_of_getElem? (i := 116) rfl) rfl
set_option maxRecDepth 100000 in
theorem tw213 : Cond.fieldLink "FreeLances" 132 "FreeLances$Company" "arrival" "I" ∈ tbT := sub_1 (List.mem_of_getElem? (i := 117) rfl) rfl
set_option maxRecDepth 100000 in
theorem tw214 : Cond.fieldLink "FreeLances$Company" 37 "FreeLances$Company" "fit" "I" ∈ tbT := sub_1 (List.mem_of_getElem? (i := 118) rfl) rfl
set_option maxRecDepth 100000 in
theorem tw215 : Cond.fieldLink "FreeLances$World" 160 "FreeLances$Company" "fit" "I" ∈ tbT := sub_1 (List.mem_of_getElem? (i := 119) rfl) rfl
set_option maxRecDepth 100000 in
theorem tw216 : Cond.fieldLink "FreeLances" 140 "FreeLances$Company" "fit" "I" ∈ tbT := sub_1 (List.mem_of_getElem? (i := 120) rfl) rfl
set_option maxRecDepth 100000 in
theorem tw217 : Cond.fieldLink "FreeLances$Plans" 80 "FreeLances$Company" "fit" "I" ∈ tbT := sub_1 (List.mem_of_getElem? (i := 121) rfl) rfl
set_option maxRecDepth 100000 in
theorem tw218 : Cond.fieldLink "FreeLances$Company" 40 "FreeLances$Company" "sick" "I" ∈ tbT := sub_1 (List.mem_of_getElem? (i := 122) rfl) rfl
set_option maxRecDepth 100000 in
theorem tw219 : Cond.fieldLink "FreeLances$World" 163 "FreeLances$Company" "sick" "I" ∈ tbT := sub_1 (List.mem_of_getElem? (i := 123) rfl) rfl
set_option maxRecDepth 100000 in
theorem tw220 : Cond.fieldLink "FreeLances" 143 "FreeLances$Company" "sick" "I" ∈ tbT := sub_1 (List.mem_of_getElem? (i := 124) rfl) rfl
set_option maxRecDepth 100000 in
theorem tw221 : Cond.fieldLink "FreeLances$Company" 43 "FreeLances$Company" "counted" "I" ∈ tbT := sub_1 (List.mem_of_getElem? (i := 125) rfl) rfl
set_option maxRecDepth 100000 in
theorem tw222 : Cond.fieldLink "FreeLances" 149 "FreeLances$Company" "counted" "I" ∈ tbT := sub_1 (List.mem_of_getElem? (i := 126) rfl) rfl
set_option maxRecDepth 100000 in
theorem tw223 : Cond.fieldLink "FreeLances$World" 192 "FreeLances$Company" "counted" "I" ∈ tbT := sub_1 (List.mem_of_getElem? (i := 127) rfl) rfl
set_option maxRecDepth 100000 in
theorem tw224 : Cond.fieldLink "FreeLances$Company" 46 "FreeLances$Company" "musterDay" "I" ∈ tbT := sub_1 (List.mem_of_getElem? (i := 128) rfl) rfl
set_option maxRecDepth 100000 in
theorem tw225 : Cond.fieldLink "FreeLances" 152 "FreeLances$Company" "musterDay" "I" ∈ tbT := sub_1 (List.mem_of_getElem? (i := 129) rfl) rfl
set_option maxRecDepth 100000 in
theorem tw226 : Cond.fieldLink "FreeLances$Company" 49 "FreeLances$Company" "musterTown" "I" ∈ tbT := sub_1 (List.mem_of_getElem? (i := 130) rfl) rfl
set_option maxRecDepth 100000 in
theorem tw227 : Cond.fieldLink "FreeLances" 339 "FreeLances$Company" "musterTown" "I" ∈ tbT := sub_1 (List.mem_of_getElem? (i := 131) rfl) rfl
set_option maxRecDepth 100000 in
theorem tw228 : Cond.fieldLink "FreeLances$Company" 52 "FreeLances$Company" "shownCount" "I" ∈ tbT := sub_1 (List.mem_of_getElem? (i := 132) rfl) rfl
set_option maxRecDepth 100000 in
theorem tw229 : Cond.fieldLink "FreeLances$World" 271 "FreeLances$Company" "shownCount" "I" ∈ tbT := sub_1 (List.mem_of_getElem? (i := 133) rfl) rfl
set_option maxRecDepth 100000 in
theorem tw230 : Cond.fieldLink "FreeLances" 345 "FreeLances$Company" "shownCount" "I" ∈ tbT := sub_1 (List.mem_of_getElem? (i := 134) rfl) rfl
set_option maxRecDepth 100000 in
theorem tw231 : Cond.fieldLink "FreeLances$Company" 9 "FreeLances$Company" "shownMarks" "[I" ∈ tbT := sub_1 (List.mem_of_getElem? (i := 135) rfl) rfl
set_option maxRecDepth 100000 in
theorem tw232 : Cond.fieldLink "FreeLances$World" 274 "FreeLances$Company" "shownMarks" "[I" ∈ tbT := sub_1 (List.mem_of_getElem? (i := 136) rfl) rfl
set_option maxRecDepth 100000 in
theorem tw233 : Cond.fieldLink "FreeLances$Company" 15 "FreeLances$Company" "winterCosts" "[I" ∈ tbT := sub_1 (List.mem_of_getElem? (i := 137) rfl) rfl
set_option maxRecDepth 100000 in
theorem tw234 : Cond.fieldLink "FreeLances$Plans" 64 "FreeLances$Company" "winterCosts" "[I" ∈ tbT := sub_1 (List.mem_of_getElem? (i := 138) rfl) rfl
set_option maxRecDepth 100000 in
theorem tw235 : Cond.fieldLink "FreeLances$World" 296 "FreeLances$Company" "winterCosts" "[I" ∈ tbT := sub_1 (List.mem_of_getElem? (i := 139) rfl) rfl
set_option maxRecDepth 100000 in
theorem tw236 : Cond.fieldLink "FreeLances" 387 "FreeLances$Company" "winterCosts" "[I" ∈ tbT := sub_1 (List.mem_of_getElem? (i := 140) rfl) rfl
set_option maxRecDepth 100000 in
theorem tw271 : Cond.fieldLink "FreeLances$Lance" 9 "FreeLances$Lance" "company" "I" ∈ tbT := sub_1 (List.mem_of_getElem? (i := 175) rfl) rfl
set_option maxRecDepth 100000 in
theorem tw272 : Cond.fieldLink "FreeLances$World" 131 "FreeLances$Lance" "company" "I" ∈ tbT := sub_1 (List.mem_of_getElem? (i := 176) rfl) rfl
set_option maxRecDepth 100000 in
theorem tw273 : Cond.fieldLink "FreeLances" 171 "FreeLances$Lance" "company" "I" ∈ tbT := sub_1 (List.mem_of_getElem? (i := 177) rfl) rfl
set_option maxRecDepth 100000 in
theorem tw274 : Cond.fieldLink "FreeLances$Lance" 15 "FreeLances$Lance" "mark" "I" ∈ tbT := sub_1 (List.mem_of_getElem? (i := 178) rfl) rfl
set_option maxRecDepth 100000 in
theorem tw275 : Cond.fieldLink "FreeLances" 174 "FreeLances$Lance" "mark" "I" ∈ tbT := sub_1 (List.mem_of_getElem? (i := 179) rfl) rfl
set_option maxRecDepth 100000 in
theorem tw276 : Cond.fieldLink "FreeLances$World" 287 "FreeLances$Lance" "mark" "I" ∈ tbT := sub_1 (List.mem_of_getElem? (i := 180) rfl) rfl
set_option maxRecDepth 100000 in
theorem tw277 : Cond.fieldLink "FreeLances$Lance" 18 "FreeLances$Lance" "height" "I" ∈ tbT := sub_1 (List.mem_of_getElem? (i := 181) rfl) rfl
set_option maxRecDepth 100000 in
theorem tw278 : Cond.fieldLink "FreeLances" 177 "FreeLances$Lance" "height" "I" ∈ tbT := sub_1 (List.mem_of_getElem? (i := 182) rfl) rfl
set_option maxRecDepth 100000 in
theorem tw279 : Cond.fieldLink "FreeLances$World" 293 "FreeLances$Lance" "height" "I" ∈ tbT := sub_1 (List.mem_of_getElem? (i := 183) rfl) rfl
set_option maxRecDepth 100000 in
theorem tw280 : Cond.fieldLink "FreeLances$Lance" 21 "FreeLances$Lance" "how" "I" ∈ tbT := sub_1 (List.mem_of_getElem? (i := 184) rfl) rfl
set_option maxRecDepth 100000 in
theorem tw281 : Cond.fieldLink "FreeLances$World" 134 "FreeLances$Lance" "how" "I" ∈ tbT := sub_1 (List.mem_of_getElem? (i := 185) rfl) rfl
set_option maxRecDepth 100000 in
theorem tw282 : Cond.fieldLink "FreeLances" 180 "FreeLances$Lance" "how" "I" ∈ tbT := sub_1 (List.mem_of_getElem? (i := 186) rfl) rfl
set_option maxRecDepth 100000 in
theorem tw283 : Cond.fieldLink "FreeLances$Lance" 24 "FreeLances$Lance" "holder" "I" ∈ tbT := sub_1 (List.mem_of_getElem? (i := 187) rfl) rfl
set_option maxRecDepth 100000 in
theorem tw284 : Cond.fieldLink "FreeLances" 183 "FreeLances$Lance" "holder" "I" ∈ tbT := sub_1 (List.mem_of_getElem? (i := 188) rfl) rfl
set_option maxRecDepth 100000 in
theorem tw301 : Cond.fieldLink "FreeLances$Statute" 15 "FreeLances$Statute" "use" "I" ∈ tbT := sub_1 (List.mem_of_getElem? (i := 205) rfl) rfl
set_option maxRecDepth 100000 in
theorem tw302 : Cond.fieldLink "FreeLances$Reader" 31 "FreeLances$Statute" "use" "I" ∈ tbT := sub_1 (List.mem_of_getElem? (i := 206) rfl) rfl
set_option maxRecDepth 100000 in
theorem tw303 : Cond.fieldLink "FreeLances$World" 222 "FreeLances$Statute" "use" "I" ∈ tbT := sub_1 (List.mem_of_getElem? (i := 207) rfl) rfl
set_option maxRecDepth 100000 in
theorem tw304 : Cond.fieldLink "FreeLances$Statute" 19 "FreeLances$Statute" "from" "I" ∈ tbT := sub_1 (List.mem_of_getElem? (i := 208) rfl) rfl
set_option maxRecDepth 100000 in
theorem tw305 : Cond.fieldLink "FreeLances$World" 225 "FreeLances$Statute" "from" "I" ∈ tbT := sub_1 (List.mem_of_getElem? (i := 209) rfl) rfl
set_option maxRecDepth 100000 in
theorem tw306 : Cond.fieldLink "FreeLances$Statute" 22 "FreeLances$Statute" "length" "I" ∈ tbT := sub_1 (List.mem_of_getElem? (i := 210) rfl) rfl
set_option maxRecDepth 100000 in
theorem tw307 : Cond.fieldLink "FreeLances$Reader" 28 "FreeLances$Statute" "length" "I" ∈ tbT := sub_1 (List.mem_of_getElem? (i := 211) rfl) rfl
set_option maxRecDepth 100000 in
theorem tw308 : Cond.fieldLink "FreeLances$Statute" 9 "FreeLances$Statute" "text" "[B" ∈ tbT := sub_1 (List.mem_of_getElem? (i := 212) rfl) rfl
set_option maxRecDepth 100000 in
theorem tw309 : Cond.fieldLink "FreeLances$Reader" 25 "FreeLances$Statute" "text" "[B" ∈ tbT := sub_1 (List.mem_of_getElem? (i := 213) rfl) rfl
set_option maxRecDepth 100000 in
theorem tw324 : Cond.fieldLink "FreeLances$Bond" 9 "FreeLances$Bond" "kind" "I" ∈ tbT := sub_1 (List.mem_of_getElem? (i := 228) rfl) rfl
set_option maxRecDepth 100000 in
theorem tw325 : Cond.fieldLink "FreeLances$World" 254 "FreeLances$Bond" "kind" "I" ∈ tbT := sub_1 (List.mem_of_getElem? (i := 229) rfl) rfl
set_option maxRecDepth 100000 in
theorem tw326 : Cond.fieldLink "FreeLances" 303 "FreeLances$Bond" "kind" "I" ∈ tbT := sub_1 (List.mem_of_getElem? (i := 230) rfl) rfl
set_option maxRecDepth 100000 in
theorem tw327 : Cond.fieldLink "FreeLances$Bond" 15 "FreeLances$Bond" "company" "I" ∈ tbT := sub_1 (List.mem_of_getElem? (i := 231) rfl) rfl
set_option maxRecDepth 100000 in
theorem tw328 : Cond.fieldLink "FreeLances$World" 191 "FreeLances$Bond" "company" "I" ∈ tbT := sub_1 (List.mem_of_getElem? (i := 232) rfl) rfl
set_option maxRecDepth 100000 in
theorem tw329 : Cond.fieldLink "FreeLances" 287 "FreeLances$Bond" "company" "I" ∈ tbT := sub_1 (List.mem_of_getElem? (i := 233) rfl) rfl
set_option maxRecDepth 100000 in
theorem tw330 : Cond.fieldLink "FreeLances$Bond" 18 "FreeLances$Bond" "first" "I" ∈ tbT := sub_1 (List.mem_of_getElem? (i := 234) rfl) rfl
set_option maxRecDepth 100000 in
theorem tw331 : Cond.fieldLink "FreeLances" 258 "FreeLances$Bond" "first" "I" ∈ tbT := sub_1 (List.mem_of_getElem? (i := 235) rfl) rfl
set_option maxRecDepth 100000 in
theorem tw332 : Cond.fieldLink "FreeLances$World" 242 "FreeLances$Bond" "first" "I" ∈ tbT := sub_1 (List.mem_of_getElem? (i := 236) rfl) rfl
set_option maxRecDepth 100000 in
theorem tw333 : Cond.fieldLink "FreeLances$Bond" 21 "FreeLances$Bond" "last" "I" ∈ tbT := sub_1 (List.mem_of_getElem? (i := 237) rfl) rfl
set_option maxRecDepth 100000 in
theorem tw334 : Cond.fieldLink "FreeLances" 263 "FreeLances$Bond" "last" "I" ∈ tbT := sub_1 (List.mem_of_getElem? (i := 238) rfl) rfl
set_option maxRecDepth 100000 in
theorem tw335 : Cond.fieldLink "FreeLances$World" 245 "FreeLances$Bond" "last" "I" ∈ tbT := sub_1 (List.mem_of_getElem? (i := 239) rfl) rfl
set_option maxRecDepth 100000 in
theorem tw336 : Cond.fieldLink "FreeLances$Bond" 24 "FreeLances$Bond" "sum" "I" ∈ tbT := sub_2 (List.mem_of_getElem? (i := 0) rfl) rfl
set_option maxRecDepth 100000 in
theorem tw337 : Cond.fieldLink "FreeLances$World" 198 "FreeLances$Bond" "sum" "I" ∈ tbT := sub_2 (List.mem_of_getElem? (i := 1) rfl) rfl
set_option maxRecDepth 100000 in
theorem tw338 : Cond.fieldLink "FreeLances" 288 "FreeLances$Bond" "sum" "I" ∈ tbT := sub_2 (List.mem_of_getElem? (i := 2) rfl) rfl
set_option maxRecDepth 100000 in
theorem tw339 : Cond.fieldLink "FreeLances$Bond" 27 "FreeLances$Bond" "town" "I" ∈ tbT := sub_2 (List.mem_of_getElem? (i := 3) rfl) rfl
set_option maxRecDepth 100000 in
theorem tw340 : Cond.fieldLink "FreeLances$World" 207 "FreeLances$Bond" "town" "I" ∈ tbT := sub_2 (List.mem_of_getElem? (i := 4) rfl) rfl
set_option maxRecDepth 100000 in
theorem tw341 : Cond.fieldLink "FreeLances" 266 "FreeLances$Bond" "town" "I" ∈ tbT := sub_2 (List.mem_of_getElem? (i := 5) rfl) rfl
set_option maxRecDepth 100000 in
theorem tw342 : Cond.fieldLink "FreeLances$Bond" 30 "FreeLances$Bond" "foe" "I" ∈ tbT := sub_2 (List.mem_of_getElem? (i := 6) rfl) rfl
set_option maxRecDepth 100000 in
theorem tw343 : Cond.fieldLink "FreeLances" 267 "FreeLances$Bond" "foe" "I" ∈ tbT := sub_2 (List.mem_of_getElem? (i := 7) rfl) rfl
set_option maxRecDepth 100000 in
theorem tw344 : Cond.fieldLink "FreeLances$World" 251 "FreeLances$Bond" "foe" "I" ∈ tbT := sub_2 (List.mem_of_getElem? (i := 8) rfl) rfl
set_option maxRecDepth 100000 in
theorem tw345 : Cond.fieldLink "FreeLances$Bond" 33 "FreeLances$Bond" "other" "I" ∈ tbT := sub_2 (List.mem_of_getElem? (i := 9) rfl) rfl
set_option maxRecDepth 100000 in
theorem tw346 : Cond.fieldLink "FreeLances" 291 "FreeLances$Bond" "other" "I" ∈ tbT := sub_2 (List.mem_of_getElem? (i := 10) rfl) rfl
set_option maxRecDepth 100000 in
theorem tw347 : Cond.fieldLink "FreeLances$World" 260 "FreeLances$Bond" "other" "I" ∈ tbT := sub_2 (List.mem_of_getElem? (i := 11) rfl) rfl
set_option maxRecDepth 100000 in
theorem tw348 : Cond.fieldLink "FreeLances$Bond" 36 "FreeLances$Bond" "owed" "I" ∈ tbT := sub_2 (List.mem_of_getElem? (i := 12) rfl) rfl
set_option maxRecDepth 100000 in
theorem tw349 : Cond.fieldLink "FreeLances$World" 188 "FreeLances$Bond" "owed" "I" ∈ tbT := sub_2 (List.mem_of_getElem? (i := 13) rfl) rfl
set_option maxRecDepth 100000 in
theorem tw350 : Cond.fieldLink "FreeLances" 306 "FreeLances$Bond" "owed" "I" ∈ tbT := sub_2 (List.mem_of_getElem? (i := 14) rfl) rfl
set_option maxRecDepth 100000 in
theorem tw351 : Cond.fieldLink "FreeLances$Bond" 39 "FreeLances$Bond" "since" "I" ∈ tbT := sub_2 (List.mem_of_getElem? (i := 15) rfl) rfl
set_option maxRecDepth 100000 in
theorem tw352 : Cond.fieldLink "FreeLances$World" 211 "FreeLances$Bond" "since" "I" ∈ tbT := sub_2 (List.mem_of_getElem? (i := 16) rfl) rfl
set_option maxRecDepth 100000 in
theorem tw353 : Cond.fieldLink "FreeLances" 309 "FreeLances$Bond" "since" "I" ∈ tbT := sub_2 (List.mem_of_getElem? (i := 17) rfl) rfl
set_option maxRecDepth 100000 in
theorem tw354 : Cond.fieldLink "FreeLances$Bond" 42 "FreeLances$Bond" "advanced" "I" ∈ tbT := sub_2 (List.mem_of_getElem? (i := 18) rfl) rfl
set_option maxRecDepth 100000 in
theorem tw355 : Cond.fieldLink "FreeLances$World" 204 "FreeLances$Bond" "advanced" "I" ∈ tbT := sub_2 (List.mem_of_getElem? (i := 19) rfl) rfl
set_option maxRecDepth 100000 in
theorem tw356 : Cond.fieldLink "FreeLances" 297 "FreeLances$Bond" "advanced" "I" ∈ tbT := sub_2 (List.mem_of_getElem? (i := 20) rfl) rfl
set_option maxRecDepth 100000 in
theorem tw357 : Cond.fieldLink "FreeLances$Bond" 45 "FreeLances$Bond" "renewed" "Z" ∈ tbT := sub_2 (List.mem_of_getElem? (i := 21) rfl) rfl
set_option maxRecDepth 100000 in
theorem tw358 : Cond.fieldLink "FreeLances" 283 "FreeLances$Bond" "renewed" "Z" ∈ tbT := sub_2 (List.mem_of_getElem? (i := 22) rfl) rfl
set_option maxRecDepth 100000 in
theorem tw359 : Cond.fieldLink "FreeLances$World" 267 "FreeLances$Bond" "renewed" "Z" ∈ tbT := sub_2 (List.mem_of_getElem? (i := 23) rfl) rfl
set_option maxRecDepth 100000 in
theorem tw386 : Cond.fieldLink "FreeLances$World" 65 "FreeLances$World" "day" "I" ∈ tbT := sub_2 (List.mem_of_getElem? (i := 50) rfl) rfl
set_option maxRecDepth 100000 in
theorem tw387 : Cond.fieldLink "FreeLances" 129 "FreeLances$World" "day" "I" ∈ tbT := sub_2 (List.mem_of_getElem? (i := 51) rfl) rfl
set_option maxRecDepth 100000 in
theorem tw388 : Cond.fieldLink "FreeLances$World" 11 "FreeLances$World" "towns" "[LFreeLances$Town;" ∈ tbT := sub_2 (List.mem_of_getElem? (i := 52) rfl) rfl
set_option maxRecDepth 100000 in
theorem tw389 : Cond.fieldLink "FreeLances" 63 "FreeLances$World" "towns" "[LFreeLances$Town;" ∈ tbT := sub_2 (List.mem_of_getElem? (i := 53) rfl) rfl
set_option maxRecDepth 100000 in
theorem tw390 : Cond.fieldLink "FreeLances$World" 69 "FreeLances$World" "townCount" "I" ∈ tbT := sub_2 (List.mem_of_getElem? (i := 54) rfl) rfl
set_option maxRecDepth 100000 in
theorem tw391 : Cond.fieldLink "FreeLances" 60 "FreeLances$World" "townCount" "I" ∈ tbT := sub_2 (List.mem_of_getElem? (i := 55) rfl) rfl
set_option maxRecDepth 100000 in
theorem tw392 : Cond.fieldLink "FreeLances$Plans" 31 "FreeLances$World" "townCount" "I" ∈ tbT := sub_2 (List.mem_of_getElem? (i := 56) rfl) rfl
set_option maxRecDepth 100000 in
theorem tw393 : Cond.fieldLink "FreeLances$World" 72 "FreeLances$World" "roadCount" "I" ∈ tbT := sub_2 (List.mem_of_getElem? (i := 57) rfl) rfl
set_option maxRecDepth 100000 in
theorem tw394 : Cond.fieldLink "FreeLances" 77 "FreeLances$World" "roadCount" "I" ∈ tbT := sub_2 (List.mem_of_getElem? (i := 58) rfl) rfl
set_option maxRecDepth 100000 in
theorem tw395 : Cond.fieldLink "FreeLances$World" 17 "FreeLances$World" "ways" "[I" ∈ tbT := sub_2 (List.mem_of_getElem? (i := 59) rfl) rfl
set_option maxRecDepth 100000 in
theorem tw396 : Cond.fieldLink "FreeLances$World" 23 "FreeLances$World" "companies" "[LFreeLances$Company;" ∈ tbT := sub_2 (List.mem_of_getElem? (i := 60) rfl) rfl
set_option maxRecDepth 100000 in
theorem tw397 : Cond.fieldLink "FreeLances$Plans" 60 "FreeLances$World" "companies" "[LFreeLances$Company;" ∈ tbT := sub_2 (List.mem_of_getElem? (i := 61) rfl) rfl
set_option maxRecDepth 100000 in
theorem tw398 : Cond.fieldLink "FreeLances" 108 "FreeLances$World" "companies" "[LFreeLances$Company;" ∈ tbT := sub_2 (List.mem_of_getElem? (i := 62) rfl) rfl
set_option maxRecDepth 100000 in
theorem tw399 : Cond.fieldLink "FreeLances$World" 75 "FreeLances$World" "companyCount" "I" ∈ tbT := sub_2 (List.mem_of_getElem? (i := 63) rfl) rfl
set_option maxRecDepth 100000 in
theorem tw400 : Cond.fieldLink "FreeLances$Plans" 42 "FreeLances$World" "companyCount" "I" ∈ tbT := sub_2 (List.mem_of_getElem? (i := 64) rfl) rfl
set_option maxRecDepth 100000 in
theorem tw401 : Cond.fieldLink "FreeLances" 105 "FreeLances$World" "companyCount" "I" ∈ tbT := sub_2 (List.mem_of_getElem? (i := 65) rfl) rfl
set_option maxRecDepth 100000 in
theorem tw402 : Cond.fieldLink "FreeLances$World" 29 "FreeLances$World" "lances" "[LFreeLances$Lance;" ∈ tbT := sub_2 (List.mem_of_getElem? (i := 66) rfl) rfl
set_option maxRecDepth 100000 in
theorem tw403 : Cond.fieldLink "FreeLances" 161 "FreeLances$World" "lances" "[LFreeLances$Lance;" ∈ tbT := sub_2 (List.mem_of_getElem? (i := 67) rfl) rfl
set_option maxRecDepth 100000 in
theorem tw404 : Cond.fieldLink "FreeLances$World" 78 "FreeLances$World" "lanceCount" "I" ∈ tbT := sub_2 (List.mem_of_getElem? (i := 68) rfl) rfl
set_option maxRecDepth 100000 in
theorem tw405 : Cond.fieldLink "FreeLances" 158 "FreeLances$World" "lanceCount" "I" ∈ tbT := sub_2 (List.mem_of_getElem? (i := 69) rfl) rfl
set_option maxRecDepth 100000 in
theorem tw406 : Cond.fieldLink "FreeLances$World" 35 "FreeLances$World" "statutes" "[LFreeLances$Statute;" ∈ tbT := sub_2 (List.mem_of_getElem? (i := 70) rfl) rfl
set_option maxRecDepth 100000 in
theorem tw407 : Cond.fieldLink "FreeLances" 232 "FreeLances$World" "statutes" "[LFreeLances$Statute;" ∈ tbT := sub_2 (List.mem_of_getElem? (i := 71) rfl) rfl
set_option maxRecDepth 100000 in
theorem tw408 : Cond.fieldLink "FreeLances$World" 81 "FreeLances$World" "statuteCount" "I" ∈ tbT := sub_2 (List.mem_of_getElem? (i := 72) rfl) rfl
set_option maxRecDepth 100000 in
theorem tw409 : Cond.fieldLink "FreeLances" 219 "FreeLances$World" "statuteCount" "I" ∈ tbT := sub_2 (List.mem_of_getElem? (i := 73) rfl) rfl
set_option maxRecDepth 100000 in
theorem tw410 : Cond.fieldLink "FreeLances$World" 41 "FreeLances$World" "bonds" "[LFreeLances$Bond;" ∈ tbT := sub_2 (List.mem_of_getElem? (i := 74) rfl) rfl
set_option maxRecDepth 100000 in
theorem tw411 : Cond.fieldLink "FreeLances" 276 "FreeLances$World" "bonds" "[LFreeLances$Bond;" ∈ tbT := sub_2 (List.mem_of_getElem? (i := 75) rfl) rfl
set_option maxRecDepth 100000 in
theorem tw412 : Cond.fieldLink "FreeLances$World" 84 "FreeLances$World" "bondCount" "I" ∈ tbT := sub_2 (List.mem_of_getElem? (i := 76) rfl) rfl
set_option maxRecDepth 100000 in
theorem tw413 : Cond.fieldLink "FreeLances" 270 "FreeLances$World" "bondCount" "I" ∈ tbT := sub_2 (List.mem_of_getElem? (i := 77) rfl) rfl
set_option maxRecDepth 100000 in
theorem tw414 : Cond.fieldLink "FreeLances$World" 45 "FreeLances$World" "tape" "[B" ∈ tbT := sub_2 (List.mem_of_getElem? (i := 78) rfl) rfl
set_option maxRecDepth 100000 in
theorem tw415 : Cond.fieldLink "FreeLances" 209 "FreeLances$World" "tape" "[B" ∈ tbT := sub_2 (List.mem_of_getElem? (i := 79) rfl) rfl
set_option maxRecDepth 100000 in
theorem tw416 : Cond.fieldLink "FreeLances$World" 87 "FreeLances$World" "tapeLength" "I" ∈ tbT := sub_2 (List.mem_of_getElem? (i := 80) rfl) rfl
set_option maxRecDepth 100000 in
theorem tw417 : Cond.fieldLink "FreeLances" 206 "FreeLances$World" "tapeLength" "I" ∈ tbT := sub_2 (List.mem_of_getElem? (i := 81) rfl) rfl
set_option maxRecDepth 100000 in
theorem tw418 : Cond.fieldLink "FreeLances$World" 49 "FreeLances$World" "waiting" "[I" ∈ tbT := sub_2 (List.mem_of_getElem? (i := 82) rfl) rfl
set_option maxRecDepth 100000 in
theorem tw419 : Cond.fieldLink "FreeLances" 440 "FreeLances$World" "waiting" "[I" ∈ tbT := sub_2 (List.mem_of_getElem? (i := 83) rfl) rfl
set_option maxRecDepth 100000 in
theorem tw420 : Cond.fieldLink "FreeLances$World" 90 "FreeLances$World" "waitingCount" "I" ∈ tbT := sub_2 (List.mem_of_getElem? (i := 84) rfl) rfl
set_option maxRecDepth 100000 in
theorem tw421 : Cond.fieldLink "FreeLances" 437 "FreeLances$World" "waitingCount" "I" ∈ tbT := sub_2 (List.mem_of_getElem? (i := 85) rfl) rfl
set_option maxRecDepth 100000 in
theorem tw422 : Cond.fieldLink "FreeLances$World" 55 "FreeLances$World" "reader" "LFreeLances$Reader;" ∈ tbT := sub_2 (List.mem_of_getElem? (i := 86) rfl) rfl
set_option maxRecDepth 100000 in
theorem tw423 : Cond.fieldLink "FreeLances" 222 "FreeLances$World" "reader" "LFreeLances$Reader;" ∈ tbT := sub_2 (List.mem_of_getElem? (i := 87) rfl) rfl
set_option maxRecDepth 100000 in
theorem tw468 : Cond.fieldLink "FreeLances$Sheet" 15 "FreeLances$Sheet" "bits" "I" ∈ tbT := sub_2 (List.mem_of_getElem? (i := 132) rfl) rfl
set_option maxRecDepth 100000 in
theorem tw469 : Cond.fieldLink "FreeLances" 425 "FreeLances$Sheet" "bits" "I" ∈ tbT := sub_2 (List.mem_of_getElem? (i := 133) rfl) rfl
set_option maxRecDepth 100000 in
theorem tw470 : Cond.fieldLink "FreeLances$Sheet" 19 "FreeLances$Sheet" "length" "I" ∈ tbT := sub_2 (List.mem_of_getElem? (i := 134) rfl) rfl
set_option maxRecDepth 100000 in
theorem tw471 : Cond.fieldLink "FreeLances$Plans" 27 "FreeLances$Sheet" "length" "I" ∈ tbT := sub_2 (List.mem_of_getElem? (i := 135) rfl) rfl
set_option maxRecDepth 100000 in
theorem tw472 : Cond.fieldLink "FreeLances$Company" 65 "FreeLances$Sheet" "length" "I" ∈ tbT := sub_2 (List.mem_of_getElem? (i := 136) rfl) rfl
set_option maxRecDepth 100000 in
theorem tw473 : Cond.fieldLink "FreeLances" 329 "FreeLances$Sheet" "length" "I" ∈ tbT := sub_2 (List.mem_of_getElem? (i := 137) rfl) rfl
set_option maxRecDepth 100000 in
theorem tw474 : Cond.fieldLink "FreeLances$Sheet" 9 "FreeLances$Sheet" "numbers" "[I" ∈ tbT := sub_2 (List.mem_of_getElem? (i := 138) rfl) rfl
set_option maxRecDepth 100000 in
theorem tw475 : Cond.fieldLink "FreeLances$Plans" 22 "FreeLances$Sheet" "numbers" "[I" ∈ tbT := sub_2 (List.mem_of_getElem? (i := 139) rfl) rfl
set_option maxRecDepth 100000 in
theorem tw476 : Cond.fieldLink "FreeLances$Company" 70 "FreeLances$Sheet" "numbers" "[I" ∈ tbT := sub_2 (List.mem_of_getElem? (i := 140) rfl) rfl
set_option maxRecDepth 100000 in
theorem tw477 : Cond.fieldLink "FreeLances" 365 "FreeLances$Sheet" "numbers" "[I" ∈ tbT := sub_2 (List.mem_of_getElem? (i := 141) rfl) rfl
set_option maxRecDepth 100000 in
theorem tw491 : Cond.fieldLink "FreeLances$Voices" 9 "FreeLances$Voices" "begun" "[I" ∈ tbT := sub_2 (List.mem_of_getElem? (i := 155) rfl) rfl
set_option maxRecDepth 100000 in
theorem tw492 : Cond.fieldLink "FreeLances" 418 "FreeLances$Voices" "begun" "[I" ∈ tbT := sub_2 (List.mem_of_getElem? (i := 156) rfl) rfl
set_option maxRecDepth 100000 in
theorem tw493 : Cond.fieldLink "FreeLances$Voices" 25 "FreeLances$Voices" "length" "I" ∈ tbT := sub_2 (List.mem_of_getElem? (i := 157) rfl) rfl
set_option maxRecDepth 100000 in
theorem tw494 : Cond.fieldLink "FreeLances" 417 "FreeLances$Voices" "length" "I" ∈ tbT := sub_2 (List.mem_of_getElem? (i := 158) rfl) rfl
set_option maxRecDepth 100000 in
theorem tw495 : Cond.fieldLink "FreeLances$Voices" 15 "FreeLances$Voices" "kind" "I" ∈ tbT := sub_2 (List.mem_of_getElem? (i := 159) rfl) rfl
set_option maxRecDepth 100000 in
theorem tw496 : Cond.fieldLink "FreeLances$Voices" 19 "FreeLances$Voices" "number" "I" ∈ tbT := sub_2 (List.mem_of_getElem? (i := 160) rfl) rfl
set_option maxRecDepth 100000 in
theorem tw497 : Cond.fieldLink "FreeLances$Voices" 22 "FreeLances$Voices" "sum" "I" ∈ tbT := sub_2 (List.mem_of_getElem? (i := 161) rfl) rfl
set_option maxRecDepth 100000 in
theorem tw515 : Cond.fieldLink "FreeLances$Plans" 9 "FreeLances$Plans" "winterBest" "[I" ∈ tbT := sub_2 (List.mem_of_getElem? (i := 179) rfl) rfl
set_option maxRecDepth 100000 in
theorem tw516 : Cond.fieldLink "FreeLances$Plans" 15 "FreeLances$Plans" "hireBest" "[I" ∈ tbT := sub_2 (List.mem_of_getElem? (i := 180) rfl) rfl
set_option maxRecDepth 100000 in
theorem tw522 : Cond.fieldLink "FreeLances" 10 "FreeLances" "world" "LFreeLances$World;" ∈ tbT := sub_2 (List.mem_of_getElem? (i := 186) rfl) rfl
set_option maxRecDepth 100000 in
theorem tw523 : Cond.fieldLink "FreeLances" 16 "FreeLances" "kept" "LFreeLances$World;" ∈ tbT := sub_2 (List.mem_of_getElem? (i := 187) rfl) rfl
set_option maxRecDepth 100000 in
theorem tw524 : Cond.fieldLink "FreeLances" 19 "FreeLances" "trial" "LFreeLances$World;" ∈ tbT := sub_2 (List.mem_of_getElem? (i := 188) rfl) rfl
set_option maxRecDepth 100000 in
theorem tw525 : Cond.fieldLink "FreeLances" 24 "FreeLances" "sheets" "[LFreeLances$Sheet;" ∈ tbT := sub_2 (List.mem_of_getElem? (i := 189) rfl) rfl
set_option maxRecDepth 100000 in
theorem tw526 : Cond.fieldLink "FreeLances" 32 "FreeLances" "voices" "LFreeLances$Voices;" ∈ tbT := sub_2 (List.mem_of_getElem? (i := 190) rfl) rfl
set_option maxRecDepth 100000 in
theorem tw527 : Cond.fieldLink "FreeLances" 39 "FreeLances" "plans" "LFreeLances$Plans;" ∈ tbT := sub_2 (List.mem_of_getElem? (i := 191) rfl) rfl
set_option maxRecDepth 100000 in
theorem tw528 : Cond.fieldLink "FreeLances" 43 "FreeLances" "findings" "[I" ∈ tbT := sub_2 (List.mem_of_getElem? (i := 192) rfl) rfl
set_option maxRecDepth 100000 in
theorem tw529 : Cond.fieldLink "FreeLances" 47 "FreeLances" "images" "I" ∈ tbT := sub_2 (List.mem_of_getElem? (i := 193) rfl) rfl
set_option maxRecDepth 100000 in
theorem tw550 : Cond.code ⟨"FreeLances", "town", "(II)I"⟩ prog_1_method_2_code 3 (some .int) ∈ tbT := sub_2 (List.mem_of_getElem? (i := 214) rfl) rfl
set_option maxRecDepth 100000 in
theorem tw551 : Cond.constant "FreeLances" 51 99999 ∈ tbT := sub_2 (List.mem_of_getElem? (i := 215) rfl) rfl
set_option maxRecDepth 100000 in
theorem tw552 : Cond.methodLink "FreeLances" 52 ⟨"FreeLances", "within", "(III)Z"⟩ ∈ tbT := sub_2 (List.mem_of_getElem? (i := 216) rfl) rfl
set_option maxRecDepth 100000 in
theorem tw553 : Cond.static ⟨"FreeLances", "within", "(III)Z"⟩ ∈ tbT := sub_2 (List.mem_of_getElem? (i := 217) rfl) rfl
set_option maxRecDepth 100000 in
theorem tw554 : Cond.code ⟨"FreeLances", "within", "(III)Z"⟩ prog_1_method_57_code 3 (some .boolean) ∈ tbT := sub_2 (List.mem_of_getElem? (i := 218) rfl) rfl
set_option maxRecDepth 100000 in
theorem tw555 : Cond.methodLink "FreeLances" 56 ⟨"FreeLances", "finding", "(I)I"⟩ ∈ tbT := sub_2 (List.mem_of_getElem? (i := 219) rfl) rfl
set_option maxRecDepth 100000 in
theorem tw557 : Cond.instanceMethod ⟨"FreeLances", "finding", "(I)I"⟩ ∈ tbT := sub_2 (List.mem_of_getElem? (i := 221) rfl) rfl
set_option maxRecDepth 100000 in
theorem tw558 : Cond.code ⟨"FreeLances", "finding", "(I)I"⟩ prog_1_method_56_code 2 (some .int) ∈ tbT := sub_2 (List.mem_of_getElem? (i := 222) rfl) rfl
set_option maxRecDepth 100000 in
theorem tw559 : Cond.constant "FreeLances" 465 (-1000000) ∈ tbT := sub_2 (List.mem_of_getElem? (i := 223) rfl) rfl
set_option maxRecDepth 100000 in
theorem tw560 : Cond.methodLink "FreeLances" 67 ⟨"FreeLances$Town", "begin", "(II)V"⟩ ∈ tbT := sub_2 (List.mem_of_getElem? (i := 224) rfl) rfl
set_option maxRecDepth 100000 in
theorem tw561 : Cond.instanceMethod ⟨"FreeLances$Town", "begin", "(II)V"⟩ ∈ tbT := sub_2 (List.mem_of_getElem? (i := 225) rfl) rfl
set_option maxRecDepth 100000 in
theorem tw562 : Cond.selects "FreeLances$Town" ⟨"FreeLances$Town", "begin", "(II)V"⟩ ⟨"FreeLances$Town", "begin", "(II)V"⟩ ∈ tbT := sub_2 (List.mem_of_getElem? (i := 226) rfl) rfl
set_option maxRecDepth 100000 in
theorem tw563 : Cond.code ⟨"FreeLances$Town", "begin", "(II)V"⟩ prog_9_method_2_code 3 none ∈ tbT := sub_2 (List.mem_of_getElem? (i := 227) rfl) rfl
set_option maxRecDepth 100000 in
theorem tw567 : Cond.code ⟨"FreeLances", "road", "(III)I"⟩ prog_1_method_3_code 4 (some .int) ∈ tbT := sub_2 (List.mem_of_getElem? (i := 231) rfl) rfl
set_option maxRecDepth 100000 in
theorem tw568 : Cond.methodLink "FreeLances" 73 ⟨"FreeLances", "isTown", "(I)Z"⟩ ∈ tbT := sub_2 (List.mem_of_getElem? (i := 232) rfl) rfl
set_option maxRecDepth 100000 in
theorem tw570 : Cond.instanceMethod ⟨"FreeLances", "isTown", "(I)Z"⟩ ∈ tbT := sub_2 (List.mem_of_getElem? (i := 234) rfl) rfl
set_option maxRecDepth 100000 in
theorem tw571 : Cond.code ⟨"FreeLances", "isTown", "(I)Z"⟩ prog_1_method_63_code 2 (some .boolean) ∈ tbT := sub_2 (List.mem_of_getElem? (i := 235) rfl) rfl
set_option maxRecDepth 100000 in
theorem tw572 : Cond.methodLink "FreeLances" 80 ⟨"FreeLances$World", "join", "(III)V"⟩ ∈ tbT := sub_2 (List.mem_of_getElem? (i := 236) rfl) rfl
set_option maxRecDepth 100000 in
theorem tw573 : Cond.instanceMethod ⟨"FreeLances$World", "join", "(III)V"⟩ ∈ tbT := sub_2 (List.mem_of_getElem? (i := 237) rfl) rfl
set_option maxRecDepth 100000 in
theorem tw574 : Cond.selects "FreeLances$World" ⟨"FreeLances$World", "join", "(III)V"⟩ ⟨"FreeLances$World", "join", "(III)V"⟩ ∈ tbT := sub_2 (List.mem_of_getElem? (i := 238) rfl) rfl
set_option maxRecDepth 100000 in
theorem tw575 : Cond.code ⟨"FreeLances$World", "join", "(III)V"⟩ prog_11_method_4_code 9 none ∈ tbT := sub_2 (List.mem_of_getElem? (i := 239) rfl) rfl
set_option maxRecDepth 100000 in
theorem tw576 : Cond.methodLink "FreeLances$World" 115 ⟨"FreeLances$World", "way", "(II)I"⟩ ∈ tbT := sub_3 (List.mem_of_getElem? (i := 0) rfl) rfl
set_option maxRecDepth 100000 in
theorem tw577 : Cond.instanceMethod ⟨"FreeLances$World", "way", "(II)I"⟩ ∈ tbT := sub_3 (List.mem_of_getElem? (i := 1) rfl) rfl
set_option maxRecDepth 100000 in
theorem tw578 : Cond.selects "FreeLances$World" ⟨"FreeLances$World", "way", "(II)I"⟩ ⟨"FreeLances$World", "way", "(II)I"⟩ ∈ tbT := sub_3 (List.mem_of_getElem? (i := 2) rfl) rfl
set_option maxRecDepth 100000 in
theorem tw579 : Cond.code ⟨"FreeLances$World", "way", "(II)I"⟩ prog_11_method_3_code 3 (some .int) ∈ tbT := sub_3 (List.mem_of_getElem? (i := 3) rfl) rfl
set_option maxRecDepth 100000 in
theorem tw580 : Cond.methodLink "FreeLances$World" 119 ⟨"java/lang/Math", "min", "(II)I"⟩ ∈ tbT := sub_3 (List.mem_of_getElem? (i := 4) rfl) rfl
set_option maxRecDepth 100000 in
theorem tw581 : Cond.static ⟨"java/lang/Math", "min", "(II)I"⟩ ∈ tbT := sub_3 (List.mem_of_getElem? (i := 5) rfl) rfl
set_option maxRecDepth 100000 in
theorem tw586 : Cond.code ⟨"FreeLances", "far", "(II)I"⟩ prog_1_method_4_code 4 (some .int) ∈ tbT := sub_3 (List.mem_of_getElem? (i := 10) rfl) rfl
set_option maxRecDepth 100000 in
theorem tw587 : Cond.methodLink "FreeLances" 84 ⟨"FreeLances$World", "way", "(II)I"⟩ ∈ tbT := sub_3 (List.mem_of_getElem? (i := 11) rfl) rfl
set_option maxRecDepth 100000 in
theorem tw588 : Cond.constant "FreeLances" 88 1000000 ∈ tbT := sub_3 (List.mem_of_getElem? (i := 12) rfl) rfl
set_option maxRecDepth 100000 in
theorem tw592 : Cond.code ⟨"FreeLances", "townIs", "(II)I"⟩ prog_1_method_5_code 4 (some .int) ∈ tbT := sub_3 (List.mem_of_getElem? (i := 16) rfl) rfl
set_option maxRecDepth 100000 in
theorem tw593 : Cond.methodLink "FreeLances" 101 ⟨"FreeLances$World", "lyingIn", "(I)I"⟩ ∈ tbT := sub_3 (List.mem_of_getElem? (i := 17) rfl) rfl
set_option maxRecDepth 100000 in
theorem tw594 : Cond.instanceMethod ⟨"FreeLances$World", "lyingIn", "(I)I"⟩ ∈ tbT := sub_3 (List.mem_of_getElem? (i := 18) rfl) rfl
set_option maxRecDepth 100000 in
theorem tw595 : Cond.selects "FreeLances$World" ⟨"FreeLances$World", "lyingIn", "(I)I"⟩ ⟨"FreeLances$World", "lyingIn", "(I)I"⟩ ∈ tbT := sub_3 (List.mem_of_getElem? (i := 19) rfl) rfl
set_option maxRecDepth 100000 in
theorem tw596 : Cond.code ⟨"FreeLances$World", "lyingIn", "(I)I"⟩ prog_11_method_5_code 4 (some .int) ∈ tbT := sub_3 (List.mem_of_getElem? (i := 20) rfl) rfl
set_option maxRecDepth 100000 in
theorem tw600 : Cond.code ⟨"FreeLances", "wall", "(III)I"⟩ prog_1_method_6_code 4 (some .int) ∈ tbT := sub_3 (List.mem_of_getElem? (i := 24) rfl) rfl
set_option maxRecDepth 100000 in
theorem tw604 : Cond.code ⟨"FreeLances", "harvest", "(II)I"⟩ prog_1_method_7_code 4 (some .int) ∈ tbT := sub_3 (List.mem_of_getElem? (i := 28) rfl) rfl
set_option maxRecDepth 100000 in
theorem tw605 : Cond.constant "FreeLances" 104 999999 ∈ tbT := sub_3 (List.mem_of_getElem? (i := 29) rfl) rfl
set_option maxRecDepth 100000 in
theorem tw609 : Cond.code ⟨"FreeLances", "company", "(III)I"⟩ prog_1_method_8_code 4 (some .int) ∈ tbT := sub_3 (List.mem_of_getElem? (i := 33) rfl) rfl
set_option maxRecDepth 100000 in
theorem tw610 : Cond.methodLink "FreeLances" 112 ⟨"FreeLances$Company", "begin", "(III)V"⟩ ∈ tbT := sub_3 (List.mem_of_getElem? (i := 34) rfl) rfl
set_option maxRecDepth 100000 in
theorem tw611 : Cond.instanceMethod ⟨"FreeLances$Company", "begin", "(III)V"⟩ ∈ tbT := sub_3 (List.mem_of_getElem? (i := 35) rfl) rfl
set_option maxRecDepth 100000 in
theorem tw612 : Cond.selects "FreeLances$Company" ⟨"FreeLances$Company", "begin", "(III)V"⟩ ⟨"FreeLances$Company", "begin", "(III)V"⟩ ∈ tbT := sub_3 (List.mem_of_getElem? (i := 36) rfl) rfl
set_option maxRecDepth 100000 in
theorem tw613 : Cond.code ⟨"FreeLances$Company", "begin", "(III)V"⟩ prog_3_method_2_code 5 none ∈ tbT := sub_3 (List.mem_of_getElem? (i := 37) rfl) rfl
set_option maxRecDepth 100000 in
theorem tw617 : Cond.code ⟨"FreeLances", "march", "(II)I"⟩ prog_1_method_9_code 5 (some .int) ∈ tbT := sub_3 (List.mem_of_getElem? (i := 41) rfl) rfl
set_option maxRecDepth 100000 in
theorem tw618 : Cond.methodLink "FreeLances" 116 ⟨"FreeLances", "isCompany", "(I)Z"⟩ ∈ tbT := sub_3 (List.mem_of_getElem? (i := 42) rfl) rfl
set_option maxRecDepth 100000 in
theorem tw620 : Cond.instanceMethod ⟨"FreeLances", "isCompany", "(I)Z"⟩ ∈ tbT := sub_3 (List.mem_of_getElem? (i := 44) rfl) rfl
set_option maxRecDepth 100000 in
theorem tw621 : Cond.code ⟨"FreeLances", "isCompany", "(I)Z"⟩ prog_1_method_64_code 2 (some .boolean) ∈ tbT := sub_3 (List.mem_of_getElem? (i := 45) rfl) rfl
set_option maxRecDepth 100000 in
theorem tw622 : Cond.methodLink "FreeLances" 119 ⟨"FreeLances$Company", "marches", "()Z"⟩ ∈ tbT := sub_3 (List.mem_of_getElem? (i := 46) rfl) rfl
set_option maxRecDepth 100000 in
theorem tw623 : Cond.instanceMethod ⟨"FreeLances$Company", "marches", "()Z"⟩ ∈ tbT := sub_3 (List.mem_of_getElem? (i := 47) rfl) rfl
set_option maxRecDepth 100000 in
theorem tw624 : Cond.selects "FreeLances$Company" ⟨"FreeLances$Company", "marches", "()Z"⟩ ⟨"FreeLances$Company", "marches", "()Z"⟩ ∈ tbT := sub_3 (List.mem_of_getElem? (i := 48) rfl) rfl
set_option maxRecDepth 100000 in
theorem tw625 : Cond.code ⟨"FreeLances$Company", "marches", "()Z"⟩ prog_3_method_4_code 1 (some .boolean) ∈ tbT := sub_3 (List.mem_of_getElem? (i := 49) rfl) rfl
set_option maxRecDepth 100000 in
theorem tw629 : Cond.code ⟨"FreeLances", "buy", "(II)I"⟩ prog_1_method_10_code 5 (some .int) ∈ tbT := sub_3 (List.mem_of_getElem? (i := 53) rfl) rfl
set_option maxRecDepth 100000 in
theorem tw633 : Cond.code ⟨"FreeLances", "about", "(II)I"⟩ prog_1_method_11_code 4 (some .int) ∈ tbT := sub_3 (List.mem_of_getElem? (i := 57) rfl) rfl
set_option maxRecDepth 100000 in
theorem tw634 : Cond.methodLink "FreeLances" 146 ⟨"FreeLances$World", "served", "(II)I"⟩ ∈ tbT := sub_3 (List.mem_of_getElem? (i := 58) rfl) rfl
set_option maxRecDepth 100000 in
theorem tw635 : Cond.instanceMethod ⟨"FreeLances$World", "served", "(II)I"⟩ ∈ tbT := sub_3 (List.mem_of_getElem? (i := 59) rfl) rfl
set_option maxRecDepth 100000 in
theorem tw636 : Cond.selects "FreeLances$World" ⟨"FreeLances$World", "served", "(II)I"⟩ ⟨"FreeLances$World", "served", "(II)I"⟩ ∈ tbT := sub_3 (List.mem_of_getElem? (i := 60) rfl) rfl
set_option maxRecDepth 100000 in
theorem tw637 : Cond.code ⟨"FreeLances$World", "served", "(II)I"⟩ prog_11_method_17_code 4 (some .int) ∈ tbT := sub_3 (List.mem_of_getElem? (i := 61) rfl) rfl
set_option maxRecDepth 100000 in
theorem tw638 : Cond.methodLink "FreeLances$World" 228 ⟨"FreeLances$Bond", "isContractOf", "(I)Z"⟩ ∈ tbT := sub_3 (List.mem_of_getElem? (i := 62) rfl) rfl
set_option maxRecDepth 100000 in
theorem tw639 : Cond.instanceMethod ⟨"FreeLances$Bond", "isContractOf", "(I)Z"⟩ ∈ tbT := sub_3 (List.mem_of_getElem? (i := 63) rfl) rfl
set_option maxRecDepth 100000 in
theorem tw640 : Cond.selects "FreeLances$Bond" ⟨"FreeLances$Bond", "isContractOf", "(I)Z"⟩ ⟨"FreeLances$Bond", "isContractOf", "(I)Z"⟩ ∈ tbT := sub_3 (List.mem_of_getElem? (i := 64) rfl) rfl
set_option maxRecDepth 100000 in
theorem tw641 : Cond.code ⟨"FreeLances$Bond", "isContractOf", "(I)Z"⟩ prog_2_method_6_code 2 (some .boolean) ∈ tbT := sub_3 (List.mem_of_getElem? (i := 65) rfl) rfl
set_option maxRecDepth 100000 in
theorem tw642 : Cond.methodLink "FreeLances$Bond" 53 ⟨"FreeLances$Bond", "isContract", "()Z"⟩ ∈ tbT := sub_3 (List.mem_of_getElem? (i := 66) rfl) rfl
set_option maxRecDepth 100000 in
theorem tw643 : Cond.instanceMethod ⟨"FreeLances$Bond", "isContract", "()Z"⟩ ∈ tbT := sub_3 (List.mem_of_getElem? (i := 67) rfl) rfl
set_option maxRecDepth 100000 in
theorem tw644 : Cond.selects "FreeLances$Bond" ⟨"FreeLances$Bond", "isContract", "()Z"⟩ ⟨"FreeLances$Bond", "isContract", "()Z"⟩ ∈ tbT := sub_3 (List.mem_of_getElem? (i := 68) rfl) rfl
set_option maxRecDepth 100000 in
theorem tw645 : Cond.code ⟨"FreeLances$Bond", "isContract", "()Z"⟩ prog_2_method_5_code 1 (some .boolean) ∈ tbT := sub_3 (List.mem_of_getElem? (i := 69) rfl) rfl
set_option maxRecDepth 100000 in
theorem tw646 : Cond.methodLink "FreeLances$World" 184 ⟨"FreeLances$Bond", "has", "(I)Z"⟩ ∈ tbT := sub_3 (List.mem_of_getElem? (i := 70) rfl) rfl
set_option maxRecDepth 100000 in
theorem tw647 : Cond.instanceMethod ⟨"FreeLances$Bond", "has", "(I)Z"⟩ ∈ tbT := sub_3 (List.mem_of_getElem? (i := 71) rfl) rfl
set_option maxRecDepth 100000 in
theorem tw648 : Cond.selects "FreeLances$Bond" ⟨"FreeLances$Bond", "has", "(I)Z"⟩ ⟨"FreeLances$Bond", "has", "(I)Z"⟩ ∈ tbT := sub_3 (List.mem_of_getElem? (i := 72) rfl) rfl
set_option maxRecDepth 100000 in
theorem tw649 : Cond.code ⟨"FreeLances$Bond", "has", "(I)Z"⟩ prog_2_method_7_code 2 (some .boolean) ∈ tbT := sub_3 (List.mem_of_getElem? (i := 73) rfl) rfl
set_option maxRecDepth 100000 in
theorem tw653 : Cond.code ⟨"FreeLances", "lance", "(III)I"⟩ prog_1_method_12_code 4 (some .int) ∈ tbT := sub_3 (List.mem_of_getElem? (i := 77) rfl) rfl
set_option maxRecDepth 100000 in
theorem tw654 : Cond.methodLink "FreeLances" 155 ⟨"FreeLances", "isMark", "(I)Z"⟩ ∈ tbT := sub_3 (List.mem_of_getElem? (i := 78) rfl) rfl
set_option maxRecDepth 100000 in
theorem tw655 : Cond.static ⟨"FreeLances", "isMark", "(I)Z"⟩ ∈ tbT := sub_3 (List.mem_of_getElem? (i := 79) rfl) rfl
set_option maxRecDepth 100000 in
theorem tw656 : Cond.code ⟨"FreeLances", "isMark", "(I)Z"⟩ prog_1_method_61_code 1 (some .boolean) ∈ tbT := sub_3 (List.mem_of_getElem? (i := 80) rfl) rfl
set_option maxRecDepth 100000 in
theorem tw657 : Cond.methodLink "FreeLances" 165 ⟨"FreeLances$Lance", "begin", "(III)V"⟩ ∈ tbT := sub_3 (List.mem_of_getElem? (i := 81) rfl) rfl
set_option maxRecDepth 100000 in
theorem tw658 : Cond.instanceMethod ⟨"FreeLances$Lance", "begin", "(III)V"⟩ ∈ tbT := sub_3 (List.mem_of_getElem? (i := 82) rfl) rfl
set_option maxRecDepth 100000 in
theorem tw659 : Cond.selects "FreeLances$Lance" ⟨"FreeLances$Lance", "begin", "(III)V"⟩ ⟨"FreeLances$Lance", "begin", "(III)V"⟩ ∈ tbT := sub_3 (List.mem_of_getElem? (i := 83) rfl) rfl
set_option maxRecDepth 100000 in
theorem tw660 : Cond.code ⟨"FreeLances$Lance", "begin", "(III)V"⟩ prog_4_method_2_code 4 none ∈ tbT := sub_3 (List.mem_of_getElem? (i := 84) rfl) rfl
set_option maxRecDepth 100000 in
theorem tw664 : Cond.code ⟨"FreeLances", "lanceIs", "(II)I"⟩ prog_1_method_13_code 4 (some .int) ∈ tbT := sub_3 (List.mem_of_getElem? (i := 88) rfl) rfl
set_option maxRecDepth 100000 in
theorem tw665 : Cond.methodLink "FreeLances" 168 ⟨"FreeLances", "isLance", "(I)Z"⟩ ∈ tbT := sub_3 (List.mem_of_getElem? (i := 89) rfl) rfl
set_option maxRecDepth 100000 in
theorem tw667 : Cond.instanceMethod ⟨"FreeLances", "isLance", "(I)Z"⟩ ∈ tbT := sub_3 (List.mem_of_getElem? (i := 91) rfl) rfl
set_option maxRecDepth 100000 in
theorem tw668 : Cond.code ⟨"FreeLances", "isLance", "(I)Z"⟩ prog_1_method_65_code 2 (some .boolean) ∈ tbT := sub_3 (List.mem_of_getElem? (i := 92) rfl) rfl
set_option maxRecDepth 100000 in
theorem tw672 : Cond.code ⟨"FreeLances", "over", "(II)I"⟩ prog_1_method_14_code 5 (some .int) ∈ tbT := sub_3 (List.mem_of_getElem? (i := 96) rfl) rfl
set_option maxRecDepth 100000 in
theorem tw673 : Cond.methodLink "FreeLances" 186 ⟨"FreeLances$Lance", "present", "()Z"⟩ ∈ tbT := sub_3 (List.mem_of_getElem? (i := 97) rfl) rfl
set_option maxRecDepth 100000 in
theorem tw674 : Cond.instanceMethod ⟨"FreeLances$Lance", "present", "()Z"⟩ ∈ tbT := sub_3 (List.mem_of_getElem? (i := 98) rfl) rfl
set_option maxRecDepth 100000 in
theorem tw675 : Cond.selects "FreeLances$Lance" ⟨"FreeLances$Lance", "present", "()Z"⟩ ⟨"FreeLances$Lance", "present", "()Z"⟩ ∈ tbT := sub_3 (List.mem_of_getElem? (i := 99) rfl) rfl
set_option maxRecDepth 100000 in
theorem tw676 : Cond.code ⟨"FreeLances$Lance", "present", "()Z"⟩ prog_4_method_4_code 1 (some .boolean) ∈ tbT := sub_3 (List.mem_of_getElem? (i := 100) rfl) rfl
set_option maxRecDepth 100000 in
theorem tw677 : Cond.methodLink "FreeLances" 189 ⟨"FreeLances$World", "mayGo", "(I)Z"⟩ ∈ tbT := sub_3 (List.mem_of_getElem? (i := 101) rfl) rfl
set_option maxRecDepth 100000 in
theorem tw678 : Cond.instanceMethod ⟨"FreeLances$World", "mayGo", "(I)Z"⟩ ∈ tbT := sub_3 (List.mem_of_getElem? (i := 102) rfl) rfl
set_option maxRecDepth 100000 in
theorem tw679 : Cond.selects "FreeLances$World" ⟨"FreeLances$World", "mayGo", "(I)Z"⟩ ⟨"FreeLances$World", "mayGo", "(I)Z"⟩ ∈ tbT := sub_3 (List.mem_of_getElem? (i := 103) rfl) rfl
set_option maxRecDepth 100000 in
theorem tw680 : Cond.code ⟨"FreeLances$World", "mayGo", "(I)Z"⟩ prog_11_method_18_code 3 (some .boolean) ∈ tbT := sub_3 (List.mem_of_getElem? (i := 104) rfl) rfl
set_option maxRecDepth 100000 in
theorem tw681 : Cond.methodLink "FreeLances$World" 231 ⟨"FreeLances$World", "served", "(II)I"⟩ ∈ tbT := sub_3 (List.mem_of_getElem? (i := 105) rfl) rfl
set_option maxRecDepth 100000 in
theorem tw682 : Cond.methodLink "FreeLances$World" 234 ⟨"FreeLances$World", "letsGo", "(LFreeLances$Bond;)Z"⟩ ∈ tbT := sub_3 (List.mem_of_getElem? (i := 106) rfl) rfl
set_option maxRecDepth 100000 in
theorem tw684 : Cond.instanceMethod ⟨"FreeLances$World", "letsGo", "(LFreeLances$Bond;)Z"⟩ ∈ tbT := sub_3 (List.mem_of_getElem? (i := 108) rfl) rfl
set_option maxRecDepth 100000 in
theorem tw685 : Cond.code ⟨"FreeLances$World", "letsGo", "(LFreeLances$Bond;)Z"⟩ prog_11_method_19_code 4 (some .boolean) ∈ tbT := sub_3 (List.mem_of_getElem? (i := 109) rfl) rfl
set_option maxRecDepth 100000 in
theorem tw686 : Cond.methodLink "FreeLances$World" 214 ⟨"FreeLances$World", "inForce", "(II)I"⟩ ∈ tbT := sub_3 (List.mem_of_getElem? (i := 110) rfl) rfl
set_option maxRecDepth 100000 in
theorem tw687 : Cond.instanceMethod ⟨"FreeLances$World", "inForce", "(II)I"⟩ ∈ tbT := sub_3 (List.mem_of_getElem? (i := 111) rfl) rfl
set_option maxRecDepth 100000 in
theorem tw688 : Cond.selects "FreeLances$World" ⟨"FreeLances$World", "inForce", "(II)I"⟩ ⟨"FreeLances$World", "inForce", "(II)I"⟩ ∈ tbT := sub_3 (List.mem_of_getElem? (i := 112) rfl) rfl
set_option maxRecDepth 100000 in
theorem tw689 : Cond.code ⟨"FreeLances$World", "inForce", "(II)I"⟩ prog_11_method_15_code 4 (some .int) ∈ tbT := sub_3 (List.mem_of_getElem? (i := 113) rfl) rfl
set_option maxRecDepth 100000 in
theorem tw690 : Cond.methodLink "FreeLances$World" 217 ⟨"FreeLances$Reader", "workOut", "(LFreeLances$Statute;III)I"⟩ ∈ tbT := sub_3 (List.mem_of_getElem? (i := 114) rfl) rfl
set_option maxRecDepth 100000 in
theorem tw691 : Cond.instanceMethod ⟨"FreeLances$Reader", "workOut", "(LFreeLances$Statute;III)I"⟩ ∈ tbT := sub_3 (List.mem_of_getElem? (i := 115) rfl) rfl
set_option maxRecDepth 100000 in
theorem tw692 : Cond.selects "FreeLances$Reader" ⟨"FreeLances$Reader", "workOut", "(LFreeLances$Statute;III)I"⟩ ⟨"FreeLances$Reader", "workOut", "(LFreeLances$Statute;III)I"⟩ ∈ tbT := sub_3 (List.mem_of_getElem? (i := 116) rfl) rfl
set_option maxRecDepth 100000 in
theorem tw693 : Cond.code ⟨"FreeLances$Reader", "workOut", "(LFreeLances$Statute;III)I"⟩ prog_6_method_2_code 5 (some .int) ∈ tbT := sub_3 (List.mem_of_getElem? (i := 117) rfl) rfl
set_option maxRecDepth 100000 in
theorem tw694 : Cond.methodLink "FreeLances$Reader" 34 ⟨"FreeLances$Reader", "begin", "([BII)V"⟩ ∈ tbT := sub_3 (List.mem_of_getElem? (i := 118) rfl) rfl
set_option maxRecDepth 100000 in
theorem tw696 : Cond.instanceMethod ⟨"FreeLances$Reader", "begin", "([BII)V"⟩ ∈ tbT := sub_3 (List.mem_of_getElem? (i := 120) rfl) rfl
set_option maxRecDepth 100000 in
theorem tw697 : Cond.code ⟨"FreeLances$Reader", "begin", "([BII)V"⟩ prog_6_method_4_code 4 none ∈ tbT := sub_3 (List.mem_of_getElem? (i := 121) rfl) rfl
set_option maxRecDepth 100000 in
theorem tw698 : Cond.methodLink "FreeLances$Reader" 49 ⟨"java/lang/Math", "min", "(II)I"⟩ ∈ tbT := sub_3 (List.mem_of_getElem? (i := 122) rfl) rfl
set_option maxRecDepth 100000 in
theorem tw699 : Cond.methodLink "FreeLances$Reader" 38 ⟨"FreeLances$Reader", "either", "(I)I"⟩ ∈ tbT := sub_3 (List.mem_of_getElem? (i := 123) rfl) rfl
set_option maxRecDepth 100000 in
theorem tw701 : Cond.instanceMethod ⟨"FreeLances$Reader", "either", "(I)I"⟩ ∈ tbT := sub_3 (List.mem_of_getElem? (i := 125) rfl) rfl
set_option maxRecDepth 100000 in
theorem tw702 : Cond.code ⟨"FreeLances$Reader", "either", "(I)I"⟩ prog_6_method_7_code 5 (some .int) ∈ tbT := sub_3 (List.mem_of_getElem? (i := 126) rfl) rfl
set_option maxRecDepth 100000 in
theorem tw703 : Cond.methodLink "FreeLances$Reader" 60 ⟨"FreeLances$Reader", "both", "(I)I"⟩ ∈ tbT := sub_3 (List.mem_of_getElem? (i := 127) rfl) rfl
set_option maxRecDepth 100000 in
theorem tw705 : Cond.instanceMethod ⟨"FreeLances$Reader", "both", "(I)I"⟩ ∈ tbT := sub_3 (List.mem_of_getElem? (i := 129) rfl) rfl
set_option maxRecDepth 100000 in
theorem tw706 : Cond.code ⟨"FreeLances$Reader", "both", "(I)I"⟩ prog_6_method_8_code 5 (some .int) ∈ tbT := sub_3 (List.mem_of_getElem? (i := 130) rfl) rfl
set_option maxRecDepth 100000 in
theorem tw707 : Cond.methodLink "FreeLances$Reader" 67 ⟨"FreeLances$Reader", "compared", "(I)I"⟩ ∈ tbT := sub_3 (List.mem_of_getElem? (i := 131) rfl) rfl
set_option maxRecDepth 100000 in
theorem tw709 : Cond.instanceMethod ⟨"FreeLances$Reader", "compared", "(I)I"⟩ ∈ tbT := sub_3 (List.mem_of_getElem? (i := 133) rfl) rfl
set_option maxRecDepth 100000 in
theorem tw710 : Cond.code ⟨"FreeLances$Reader", "compared", "(I)I"⟩ prog_6_method_9_code 6 (some .int) ∈ tbT := sub_3 (List.mem_of_getElem? (i := 134) rfl) rfl
set_option maxRecDepth 100000 in
theorem tw711 : Cond.methodLink "FreeLances$Reader" 70 ⟨"FreeLances$Reader", "added", "(I)I"⟩ ∈ tbT := sub_3 (List.mem_of_getElem? (i := 135) rfl) rfl
set_option maxRecDepth 100000 in
theorem tw713 : Cond.instanceMethod ⟨"FreeLances$Reader", "added", "(I)I"⟩ ∈ tbT := sub_3 (List.mem_of_getElem? (i := 137) rfl) rfl
set_option maxRecDepth 100000 in
theorem tw714 : Cond.code ⟨"FreeLances$Reader", "added", "(I)I"⟩ prog_6_method_10_code 6 (some .int) ∈ tbT := sub_3 (List.mem_of_getElem? (i := 138) rfl) rfl
set_option maxRecDepth 100000 in
theorem tw715 : Cond.methodLink "FreeLances$Reader" 73 ⟨"FreeLances$Reader", "multiplied", "(I)I"⟩ ∈ tbT := sub_3 (List.mem_of_getElem? (i := 139) rfl) rfl
set_option maxRecDepth 100000 in
theorem tw717 : Cond.instanceMethod ⟨"FreeLances$Reader", "multiplied", "(I)I"⟩ ∈ tbT := sub_3 (List.mem_of_getElem? (i := 141) rfl) rfl
set_option maxRecDepth 100000 in
theorem tw718 : Cond.code ⟨"FreeLances$Reader", "multiplied", "(I)I"⟩ prog_6_method_11_code 6 (some .int) ∈ tbT := sub_3 (List.mem_of_getElem? (i := 142) rfl) rfl
set_option maxRecDepth 100000 in
theorem tw719 : Cond.methodLink "FreeLances$Reader" 76 ⟨"FreeLances$Reader", "single", "(I)I"⟩ ∈ tbT := sub_3 (List.mem_of_getElem? (i := 143) rfl) rfl
set_option maxRecDepth 100000 in
theorem tw721 : Cond.instanceMethod ⟨"FreeLances$Reader", "single", "(I)I"⟩ ∈ tbT := sub_3 (List.mem_of_getElem? (i := 145) rfl) rfl
set_option maxRecDepth 100000 in
theorem tw722 : Cond.code ⟨"FreeLances$Reader", "single", "(I)I"⟩ prog_6_method_12_code 4 (some .int) ∈ tbT := sub_3 (List.mem_of_getElem? (i := 146) rfl) rfl
set_option maxRecDepth 100000 in
theorem tw723 : Cond.methodLink "FreeLances$Reader" 56 ⟨"FreeLances$Reader", "sign", "()I"⟩ ∈ tbT := sub_3 (List.mem_of_getElem? (i := 147) rfl) rfl
set_option maxRecDepth 100000 in
theorem tw725 : Cond.instanceMethod ⟨"FreeLances$Reader", "sign", "()I"⟩ ∈ tbT := sub_3 (List.mem_of_getElem? (i := 149) rfl) rfl
set_option maxRecDepth 100000 in
theorem tw726 : Cond.code ⟨"FreeLances$Reader", "sign", "()I"⟩ prog_6_method_5_code 1 (some .int) ∈ tbT := sub_3 (List.mem_of_getElem? (i := 150) rfl) rfl
set_option maxRecDepth 100000 in
theorem tw727 : Cond.methodLink "FreeLances$Reader" 79 ⟨"FreeLances$Reader", "number", "()I"⟩ ∈ tbT := sub_3 (List.mem_of_getElem? (i := 151) rfl) rfl
set_option maxRecDepth 100000 in
theorem tw729 : Cond.instanceMethod ⟨"FreeLances$Reader", "number", "()I"⟩ ∈ tbT := sub_3 (List.mem_of_getElem? (i := 153) rfl) rfl
set_option maxRecDepth 100000 in
theorem tw730 : Cond.code ⟨"FreeLances$Reader", "number", "()I"⟩ prog_6_method_14_code 3 (some .int) ∈ tbT := sub_3 (List.mem_of_getElem? (i := 154) rfl) rfl
set_option maxRecDepth 100000 in
theorem tw731 : Cond.methodLink "FreeLances$Reader" 82 ⟨"FreeLances$Reader", "opened", "(II)I"⟩ ∈ tbT := sub_3 (List.mem_of_getElem? (i := 155) rfl) rfl
set_option maxRecDepth 100000 in
theorem tw733 : Cond.instanceMethod ⟨"FreeLances$Reader", "opened", "(II)I"⟩ ∈ tbT := sub_3 (List.mem_of_getElem? (i := 157) rfl) rfl
set_option maxRecDepth 100000 in
theorem tw734 : Cond.code ⟨"FreeLances$Reader", "opened", "(II)I"⟩ prog_6_method_13_code 4 (some .int) ∈ tbT := sub_3 (List.mem_of_getElem? (i := 158) rfl) rfl
set_option maxRecDepth 100000 in
theorem tw735 : Cond.methodLink "FreeLances$Reader" 85 ⟨"FreeLances$Reader", "nameOf", "(I)I"⟩ ∈ tbT := sub_3 (List.mem_of_getElem? (i := 159) rfl) rfl
set_option maxRecDepth 100000 in
theorem tw737 : Cond.instanceMethod ⟨"FreeLances$Reader", "nameOf", "(I)I"⟩ ∈ tbT := sub_3 (List.mem_of_getElem? (i := 161) rfl) rfl
set_option maxRecDepth 100000 in
theorem tw738 : Cond.code ⟨"FreeLances$Reader", "nameOf", "(I)I"⟩ prog_6_method_15_code 2 (some .int) ∈ tbT := sub_3 (List.mem_of_getElem? (i := 162) rfl) rfl
set_option maxRecDepth 100000 in
theorem tw739 : Cond.methodLink "FreeLances$Reader" 63 ⟨"FreeLances$Reader", "goesOnWith", "(II)Z"⟩ ∈ tbT := sub_3 (List.mem_of_getElem? (i := 163) rfl) rfl
set_option maxRecDepth 100000 in
theorem tw741 : Cond.instanceMethod ⟨"FreeLances$Reader", "goesOnWith", "(II)Z"⟩ ∈ tbT := sub_3 (List.mem_of_getElem? (i := 165) rfl) rfl
set_option maxRecDepth 100000 in
theorem tw742 : Cond.code ⟨"FreeLances$Reader", "goesOnWith", "(II)Z"⟩ prog_6_method_6_code 4 (some .boolean) ∈ tbT := sub_3 (List.mem_of_getElem? (i := 166) rfl) rfl
set_option maxRecDepth 100000 in
theorem tw743 : Cond.methodLink "FreeLances" 192 ⟨"FreeLances$World", "together", "(II)Z"⟩ ∈ tbT := sub_3 (List.mem_of_getElem? (i := 167) rfl) rfl
set_option maxRecDepth 100000 in
theorem tw744 : Cond.instanceMethod ⟨"FreeLances$World", "together", "(II)Z"⟩ ∈ tbT := sub_3 (List.mem_of_getElem? (i := 168) rfl) rfl
set_option maxRecDepth 100000 in
theorem tw745 : Cond.selects "FreeLances$World" ⟨"FreeLances$World", "together", "(II)Z"⟩ ⟨"FreeLances$World", "together", "(II)Z"⟩ ∈ tbT := sub_3 (List.mem_of_getElem? (i := 169) rfl) rfl
set_option maxRecDepth 100000 in
theorem tw746 : Cond.code ⟨"FreeLances$World", "together", "(II)Z"⟩ prog_11_method_6_code 3 (some .boolean) ∈ tbT := sub_3 (List.mem_of_getElem? (i := 170) rfl) rfl
set_option maxRecDepth 100000 in
theorem tw747 : Cond.methodLink "FreeLances$World" 127 ⟨"FreeLances$Company", "marches", "()Z"⟩ ∈ tbT := sub_3 (List.mem_of_getElem? (i := 171) rfl) rfl
set_option maxRecDepth 100000 in
theorem tw748 : Cond.methodLink "FreeLances" 196 ⟨"FreeLances$Company", "part", "(I)V"⟩ ∈ tbT := sub_3 (List.mem_of_getElem? (i := 172) rfl) rfl
set_option maxRecDepth 100000 in
theorem tw749 : Cond.instanceMethod ⟨"FreeLances$Company", "part", "(I)V"⟩ ∈ tbT := sub_3 (List.mem_of_getElem? (i := 173) rfl) rfl
set_option maxRecDepth 100000 in
theorem tw750 : Cond.selects "FreeLances$Company" ⟨"FreeLances$Company", "part", "(I)V"⟩ ⟨"FreeLances$Company", "part", "(I)V"⟩ ∈ tbT := sub_3 (List.mem_of_getElem? (i := 174) rfl) rfl
set_option maxRecDepth 100000 in
theorem tw751 : Cond.code ⟨"FreeLances$Company", "part", "(I)V"⟩ prog_3_method_6_code 2 none ∈ tbT := sub_3 (List.mem_of_getElem? (i := 175) rfl) rfl
set_option maxRecDepth 100000 in
theorem tw752 : Cond.methodLink "FreeLances" 200 ⟨"FreeLances$Company", "join", "(I)V"⟩ ∈ tbT := sub_3 (List.mem_of_getElem? (i := 176) rfl) rfl
set_option maxRecDepth 100000 in
theorem tw753 : Cond.instanceMethod ⟨"FreeLances$Company", "join", "(I)V"⟩ ∈ tbT := sub_3 (List.mem_of_getElem? (i := 177) rfl) rfl
set_option maxRecDepth 100000 in
theorem tw754 : Cond.selects "FreeLances$Company" ⟨"FreeLances$Company", "join", "(I)V"⟩ ⟨"FreeLances$Company", "join", "(I)V"⟩ ∈ tbT := sub_3 (List.mem_of_getElem? (i := 178) rfl) rfl
set_option maxRecDepth 100000 in
theorem tw755 : Cond.code ⟨"FreeLances$Company", "join", "(I)V"⟩ prog_3_method_5_code 2 none ∈ tbT := sub_3 (List.mem_of_getElem? (i := 179) rfl) rfl
set_option maxRecDepth 100000 in
theorem tw759 : Cond.code ⟨"FreeLances", "take", "(II)I"⟩ prog_1_method_15_code 4 (some .int) ∈ tbT := sub_3 (List.mem_of_getElem? (i := 183) rfl) rfl
set_option maxRecDepth 100000 in
theorem tw760 : Cond.methodLink "FreeLances" 202 ⟨"FreeLances$World", "become", "(LFreeLances$Lance;I)V"⟩ ∈ tbT := sub_3 (List.mem_of_getElem? (i := 184) rfl) rfl
set_option maxRecDepth 100000 in
theorem tw761 : Cond.instanceMethod ⟨"FreeLances$World", "become", "(LFreeLances$Lance;I)V"⟩ ∈ tbT := sub_3 (List.mem_of_getElem? (i := 185) rfl) rfl
set_option maxRecDepth 100000 in
theorem tw762 : Cond.selects "FreeLances$World" ⟨"FreeLances$World", "become", "(LFreeLances$Lance;I)V"⟩ ⟨"FreeLances$World", "become", "(LFreeLances$Lance;I)V"⟩ ∈ tbT := sub_3 (List.mem_of_getElem? (i := 186) rfl) rfl
set_option maxRecDepth 100000 in
theorem tw763 : Cond.code ⟨"FreeLances$World", "become", "(LFreeLances$Lance;I)V"⟩ prog_11_method_7_code 4 none ∈ tbT := sub_3 (List.mem_of_getElem? (i := 187) rfl) rfl
set_option maxRecDepth 100000 in
theorem tw764 : Cond.methodLink "FreeLances$World" 137 ⟨"FreeLances$Company", "part", "(I)V"⟩ ∈ tbT := sub_3 (List.mem_of_getElem? (i := 188) rfl) rfl
set_option maxRecDepth 100000 in
theorem tw765 : Cond.methodLink "FreeLances$World" 141 ⟨"FreeLances$Company", "join", "(I)V"⟩ ∈ tbT := sub_3 (List.mem_of_getElem? (i := 189) rfl) rfl
set_option maxRecDepth 100000 in
theorem tw769 : Cond.code ⟨"FreeLances", "feed", "(JI)I"⟩ prog_1_method_16_code 5 (some .int) ∈ tbT := sub_3 (List.mem_of_getElem? (i := 193) rfl) rfl
set_option maxRecDepth 100000 in
theorem tw773 : Cond.code ⟨"FreeLances", "statute", "(II)I"⟩ prog_1_method_17_code 5 (some .int) ∈ tbT := sub_3 (List.mem_of_getElem? (i := 197) rfl) rfl
set_option maxRecDepth 100000 in
theorem tw774 : Cond.methodLink "FreeLances" 213 ⟨"FreeLances", "isUse", "(I)Z"⟩ ∈ tbT := sub_3 (List.mem_of_getElem? (i := 198) rfl) rfl
set_option maxRecDepth 100000 in
theorem tw775 : Cond.static ⟨"FreeLances", "isUse", "(I)Z"⟩ ∈ tbT := sub_3 (List.mem_of_getElem? (i := 199) rfl) rfl
set_option maxRecDepth 100000 in
theorem tw776 : Cond.code ⟨"FreeLances", "isUse", "(I)Z"⟩ prog_1_method_60_code 1 (some .boolean) ∈ tbT := sub_3 (List.mem_of_getElem? (i := 200) rfl) rfl
set_option maxRecDepth 100000 in
theorem tw777 : Cond.methodLink "FreeLances" 216 ⟨"FreeLances", "isDay", "(I)Z"⟩ ∈ tbT := sub_3 (List.mem_of_getElem? (i := 201) rfl) rfl
set_option maxRecDepth 100000 in
theorem tw778 : Cond.static ⟨"FreeLances", "isDay", "(I)Z"⟩ ∈ tbT := sub_3 (List.mem_of_getElem? (i := 202) rfl) rfl
set_option maxRecDepth 100000 in
theorem tw779 : Cond.code ⟨"FreeLances", "isDay", "(I)Z"⟩ prog_1_method_58_code 1 (some .boolean) ∈ tbT := sub_3 (List.mem_of_getElem? (i := 203) rfl) rfl
set_option maxRecDepth 100000 in
theorem tw780 : Cond.methodLink "FreeLances" 226 ⟨"FreeLances$Reader", "faultOf", "([BII)I"⟩ ∈ tbT := sub_3 (List.mem_of_getElem? (i := 204) rfl) rfl
set_option maxRecDepth 100000 in
theorem tw781 : Cond.instanceMethod ⟨"FreeLances$Reader", "faultOf", "([BII)I"⟩ ∈ tbT := sub_3 (List.mem_of_getElem? (i := 205) rfl) rfl
set_option maxRecDepth 100000 in
theorem tw782 : Cond.selects "FreeLances$Reader" ⟨"FreeLances$Reader", "faultOf", "([BII)I"⟩ ⟨"FreeLances$Reader", "faultOf", "([BII)I"⟩ ∈ tbT := sub_3 (List.mem_of_getElem? (i := 206) rfl) rfl
set_option maxRecDepth 100000 in
theorem tw783 : Cond.code ⟨"FreeLances$Reader", "faultOf", "([BII)I"⟩ prog_6_method_3_code 4 (some .int) ∈ tbT := sub_3 (List.mem_of_getElem? (i := 207) rfl) rfl
set_option maxRecDepth 100000 in
theorem tw784 : Cond.methodLink "FreeLances" 236 ⟨"FreeLances$Statute", "begin", "(II[BI)V"⟩ ∈ tbT := sub_3 (List.mem_of_getElem? (i := 208) rfl) rfl
set_option maxRecDepth 100000 in
theorem tw785 : Cond.instanceMethod ⟨"FreeLances$Statute", "begin", "(II[BI)V"⟩ ∈ tbT := sub_3 (List.mem_of_getElem? (i := 209) rfl) rfl
set_option maxRecDepth 100000 in
theorem tw786 : Cond.selects "FreeLances$Statute" ⟨"FreeLances$Statute", "begin", "(II[BI)V"⟩ ⟨"FreeLances$Statute", "begin", "(II[BI)V"⟩ ∈ tbT := sub_3 (List.mem_of_getElem? (i := 210) rfl) rfl
set_option maxRecDepth 100000 in
theorem tw787 : Cond.code ⟨"FreeLances$Statute", "begin", "(II[BI)V"⟩ prog_8_method_2_code 5 none ∈ tbT := sub_3 (List.mem_of_getElem? (i := 211) rfl) rfl
set_option maxRecDepth 100000 in
theorem tw788 : Cond.methodLink "FreeLances$Statute" 25 ⟨"java/lang/System", "arraycopy", "(Ljava/lang/Object;ILjava/lang/Object;II)V"⟩ ∈ tbT := sub_3 (List.mem_of_getElem? (i := 212) rfl) rfl
set_option maxRecDepth 100000 in
theorem tw789 : Cond.static ⟨"java/lang/System", "arraycopy", "(Ljava/lang/Object;ILjava/lang/Object;II)V"⟩ ∈ tbT := sub_3 (List.mem_of_getElem? (i := 213) rfl) rfl
set_option maxRecDepth 100000 in
theorem tw790 : Cond.native ⟨"java/lang/System", "arraycopy", "(Ljava/lang/Object;ILjava/lang/Object;II)V"⟩ ∈ tbT := sub_3 (List.mem_of_getElem? (i := 214) rfl) rfl
set_option maxRecDepth 100000 in
theorem tw794 : Cond.code ⟨"FreeLances", "force", "(II)I"⟩ prog_1_method_18_code 4 (some .int) ∈ tbT := sub_3 (List.mem_of_getElem? (i := 218) rfl) rfl
set_option maxRecDepth 100000 in
theorem tw795 : Cond.methodLink "FreeLances" 241 ⟨"FreeLances$World", "inForce", "(II)I"⟩ ∈ tbT := sub_3 (List.mem_of_getElem? (i := 219) rfl) rfl
set_option maxRecDepth 100000 in
theorem tw799 : Cond.code ⟨"FreeLances", "says", "(IIII)I"⟩ prog_1_method_19_code 5 (some .int) ∈ tbT := sub_3 (List.mem_of_getElem? (i := 223) rfl) rfl
set_option maxRecDepth 100000 in
theorem tw800 : Cond.methodLink "FreeLances" 244 ⟨"FreeLances$Reader", "workOut", "(LFreeLances$Statute;III)I"⟩ ∈ tbT := sub_3 (List.mem_of_getElem? (i := 224) rfl) rfl
set_option maxRecDepth 100000 in
theorem tw804 : Cond.code ⟨"FreeLances", "contract", "(IIII)I"⟩ prog_1_method_20_code 9 (some .int) ∈ tbT := sub_3 (List.mem_of_getElem? (i := 228) rfl) rfl
set_option maxRecDepth 100000 in
theorem tw805 : Cond.methodLink "FreeLances" 248 ⟨"FreeLances", "areDays", "(II)Z"⟩ ∈ tbT := sub_3 (List.mem_of_getElem? (i := 229) rfl) rfl
set_option maxRecDepth 100000 in
theorem tw806 : Cond.static ⟨"FreeLances", "areDays", "(II)Z"⟩ ∈ tbT := sub_3 (List.mem_of_getElem? (i := 230) rfl) rfl
set_option maxRecDepth 100000 in
theorem tw807 : Cond.code ⟨"FreeLances", "areDays", "(II)Z"⟩ prog_1_method_59_code 2 (some .boolean) ∈ tbT := sub_3 (List.mem_of_getElem? (i := 231) rfl) rfl
set_option maxRecDepth 100000 in
theorem tw808 : Cond.methodLink "FreeLances" 251 ⟨"FreeLances$World", "bondsFull", "()Z"⟩ ∈ tbT := sub_3 (List.mem_of_getElem? (i := 232) rfl) rfl
set_option maxRecDepth 100000 in
theorem tw809 : Cond.instanceMethod ⟨"FreeLances$World", "bondsFull", "()Z"⟩ ∈ tbT := sub_3 (List.mem_of_getElem? (i := 233) rfl) rfl
set_option maxRecDepth 100000 in
theorem tw810 : Cond.selects "FreeLances$World" ⟨"FreeLances$World", "bondsFull", "()Z"⟩ ⟨"FreeLances$World", "bondsFull", "()Z"⟩ ∈ tbT := sub_3 (List.mem_of_getElem? (i := 234) rfl) rfl
set_option maxRecDepth 100000 in
theorem tw811 : Cond.code ⟨"FreeLances$World", "bondsFull", "()Z"⟩ prog_11_method_16_code 1 (some .boolean) ∈ tbT := sub_3 (List.mem_of_getElem? (i := 235) rfl) rfl
set_option maxRecDepth 100000 in
theorem tw812 : Cond.methodLink "FreeLances" 254 ⟨"FreeLances", "newBond", "(III)LFreeLances$Bond;"⟩ ∈ tbT := sub_3 (List.mem_of_getElem? (i := 236) rfl) rfl
set_option maxRecDepth 100000 in
theorem tw814 : Cond.instanceMethod ⟨"FreeLances", "newBond", "(III)LFreeLances$Bond;"⟩ ∈ tbT := sub_3 (List.mem_of_getElem? (i := 238) rfl) rfl
set_option maxRecDepth 100000 in
theorem tw815 : Cond.code ⟨"FreeLances", "newBond", "(III)LFreeLances$Bond;"⟩ prog_1_method_67_code 5 (some (.object "FreeLances$Bond")) ∈ tbT := sub_3 (List.mem_of_getElem? (i := 239) rfl) rfl
set_option maxRecDepth 100000 in
theorem tw816 : Cond.methodLink "FreeLances" 466 ⟨"FreeLances$Bond", "begin", "(III)V"⟩ ∈ tbT := sub_4 (List.mem_of_getElem? (i := 0) rfl) rfl
set_option maxRecDepth 100000 in
theorem tw817 : Cond.instanceMethod ⟨"FreeLances$Bond", "begin", "(III)V"⟩ ∈ tbT := sub_4 (List.mem_of_getElem? (i := 1) rfl) rfl
set_option maxRecDepth 100000 in
theorem tw818 : Cond.selects "FreeLances$Bond" ⟨"FreeLances$Bond", "begin", "(III)V"⟩ ⟨"FreeLances$Bond", "begin", "(III)V"⟩ ∈ tbT := sub_4 (List.mem_of_getElem? (i := 2) rfl) rfl
set_option maxRecDepth 100000 in
theorem tw819 : Cond.code ⟨"FreeLances$Bond", "begin", "(III)V"⟩ prog_2_method_2_code 4 none ∈ tbT := sub_4 (List.mem_of_getElem? (i := 3) rfl) rfl
set_option maxRecDepth 100000 in
theorem tw823 : Cond.code ⟨"FreeLances", "renew", "(III)I"⟩ prog_1_method_21_code 6 (some .int) ∈ tbT := sub_4 (List.mem_of_getElem? (i := 7) rfl) rfl
set_option maxRecDepth 100000 in
theorem tw824 : Cond.methodLink "FreeLances" 273 ⟨"FreeLances", "isBond", "(I)Z"⟩ ∈ tbT := sub_4 (List.mem_of_getElem? (i := 8) rfl) rfl
set_option maxRecDepth 100000 in
theorem tw826 : Cond.instanceMethod ⟨"FreeLances", "isBond", "(I)Z"⟩ ∈ tbT := sub_4 (List.mem_of_getElem? (i := 10) rfl) rfl
set_option maxRecDepth 100000 in
theorem tw827 : Cond.code ⟨"FreeLances", "isBond", "(I)Z"⟩ prog_1_method_66_code 2 (some .boolean) ∈ tbT := sub_4 (List.mem_of_getElem? (i := 11) rfl) rfl
set_option maxRecDepth 100000 in
theorem tw828 : Cond.methodLink "FreeLances" 280 ⟨"FreeLances$Bond", "isContract", "()Z"⟩ ∈ tbT := sub_4 (List.mem_of_getElem? (i := 12) rfl) rfl
set_option maxRecDepth 100000 in
theorem tw832 : Cond.code ⟨"FreeLances", "advance", "(II)I"⟩ prog_1_method_22_code 5 (some .int) ∈ tbT := sub_4 (List.mem_of_getElem? (i := 16) rfl) rfl
set_option maxRecDepth 100000 in
theorem tw833 : Cond.methodLink "FreeLances" 294 ⟨"FreeLances$World", "coinToCompany", "(III)V"⟩ ∈ tbT := sub_4 (List.mem_of_getElem? (i := 17) rfl) rfl
set_option maxRecDepth 100000 in
theorem tw834 : Cond.instanceMethod ⟨"FreeLances$World", "coinToCompany", "(III)V"⟩ ∈ tbT := sub_4 (List.mem_of_getElem? (i := 18) rfl) rfl
set_option maxRecDepth 100000 in
theorem tw835 : Cond.selects "FreeLances$World" ⟨"FreeLances$World", "coinToCompany", "(III)V"⟩ ⟨"FreeLances$World", "coinToCompany", "(III)V"⟩ ∈ tbT := sub_4 (List.mem_of_getElem? (i := 19) rfl) rfl
set_option maxRecDepth 100000 in
theorem tw836 : Cond.code ⟨"FreeLances$World", "coinToCompany", "(III)V"⟩ prog_11_method_8_code 4 none ∈ tbT := sub_4 (List.mem_of_getElem? (i := 20) rfl) rfl
set_option maxRecDepth 100000 in
theorem tw840 : Cond.code ⟨"FreeLances", "truce", "(IIII)I"⟩ prog_1_method_23_code 6 (some .int) ∈ tbT := sub_4 (List.mem_of_getElem? (i := 24) rfl) rfl
set_option maxRecDepth 100000 in
theorem tw844 : Cond.code ⟨"FreeLances", "safe", "(IIIII)I"⟩ prog_1_method_24_code 7 (some .int) ∈ tbT := sub_4 (List.mem_of_getElem? (i := 28) rfl) rfl
set_option maxRecDepth 100000 in
theorem tw848 : Cond.code ⟨"FreeLances", "ransom", "(II)I"⟩ prog_1_method_25_code 5 (some .int) ∈ tbT := sub_4 (List.mem_of_getElem? (i := 32) rfl) rfl
set_option maxRecDepth 100000 in
theorem tw852 : Cond.code ⟨"FreeLances", "as", "(II)I"⟩ prog_1_method_26_code 4 (some .int) ∈ tbT := sub_4 (List.mem_of_getElem? (i := 36) rfl) rfl
set_option maxRecDepth 100000 in
theorem tw853 : Cond.methodLink "FreeLances" 300 ⟨"FreeLances$Bond", "isOf", "(I)Z"⟩ ∈ tbT := sub_4 (List.mem_of_getElem? (i := 37) rfl) rfl
set_option maxRecDepth 100000 in
theorem tw854 : Cond.instanceMethod ⟨"FreeLances$Bond", "isOf", "(I)Z"⟩ ∈ tbT := sub_4 (List.mem_of_getElem? (i := 38) rfl) rfl
set_option maxRecDepth 100000 in
theorem tw855 : Cond.selects "FreeLances$Bond" ⟨"FreeLances$Bond", "isOf", "(I)Z"⟩ ⟨"FreeLances$Bond", "isOf", "(I)Z"⟩ ∈ tbT := sub_4 (List.mem_of_getElem? (i := 39) rfl) rfl
set_option maxRecDepth 100000 in
theorem tw856 : Cond.code ⟨"FreeLances$Bond", "isOf", "(I)Z"⟩ prog_2_method_4_code 4 (some .boolean) ∈ tbT := sub_4 (List.mem_of_getElem? (i := 40) rfl) rfl
set_option maxRecDepth 100000 in
theorem tw857 : Cond.fieldLinkNest "FreeLances$Bond" 49 "FreeLances" "ABOVE" "[I" "FreeLances" ∈ tbT := sub_4 (List.mem_of_getElem? (i := 41) rfl) rfl
set_option maxRecDepth 100000 in
theorem tw862 : Cond.code ⟨"FreeLances", "bondIs", "(II)I"⟩ prog_1_method_27_code 4 (some .int) ∈ tbT := sub_4 (List.mem_of_getElem? (i := 46) rfl) rfl
set_option maxRecDepth 100000 in
theorem tw866 : Cond.code ⟨"FreeLances", "stop", "(II)I"⟩ prog_1_method_28_code 4 (some .int) ∈ tbT := sub_4 (List.mem_of_getElem? (i := 50) rfl) rfl
set_option maxRecDepth 100000 in
theorem tw867 : Cond.methodLink "FreeLances" 312 ⟨"FreeLances$Bond", "oweLess", "(I)V"⟩ ∈ tbT := sub_4 (List.mem_of_getElem? (i := 51) rfl) rfl
set_option maxRecDepth 100000 in
theorem tw868 : Cond.instanceMethod ⟨"FreeLances$Bond", "oweLess", "(I)V"⟩ ∈ tbT := sub_4 (List.mem_of_getElem? (i := 52) rfl) rfl
set_option maxRecDepth 100000 in
theorem tw869 : Cond.selects "FreeLances$Bond" ⟨"FreeLances$Bond", "oweLess", "(I)V"⟩ ⟨"FreeLances$Bond", "oweLess", "(I)V"⟩ ∈ tbT := sub_4 (List.mem_of_getElem? (i := 53) rfl) rfl
set_option maxRecDepth 100000 in
theorem tw870 : Cond.code ⟨"FreeLances$Bond", "oweLess", "(I)V"⟩ prog_2_method_8_code 2 none ∈ tbT := sub_4 (List.mem_of_getElem? (i := 54) rfl) rfl
set_option maxRecDepth 100000 in
theorem tw874 : Cond.code ⟨"FreeLances", "pay", "(II)I"⟩ prog_1_method_29_code 4 (some .int) ∈ tbT := sub_4 (List.mem_of_getElem? (i := 58) rfl) rfl
set_option maxRecDepth 100000 in
theorem tw878 : Cond.code ⟨"FreeLances", "serves", "(II)I"⟩ prog_1_method_30_code 4 (some .int) ∈ tbT := sub_4 (List.mem_of_getElem? (i := 62) rfl) rfl
set_option maxRecDepth 100000 in
theorem tw882 : Cond.code ⟨"FreeLances", "clash", "(II)I"⟩ prog_1_method_31_code 7 (some .int) ∈ tbT := sub_4 (List.mem_of_getElem? (i := 66) rfl) rfl
set_option maxRecDepth 100000 in
theorem tw883 : Cond.methodLink "FreeLances" 315 ⟨"FreeLances$World", "clashDay", "(LFreeLances$Bond;LFreeLances$Bond;)I"⟩ ∈ tbT := sub_4 (List.mem_of_getElem? (i := 67) rfl) rfl
set_option maxRecDepth 100000 in
theorem tw884 : Cond.instanceMethod ⟨"FreeLances$World", "clashDay", "(LFreeLances$Bond;LFreeLances$Bond;)I"⟩ ∈ tbT := sub_4 (List.mem_of_getElem? (i := 68) rfl) rfl
set_option maxRecDepth 100000 in
theorem tw885 : Cond.selects "FreeLances$World" ⟨"FreeLances$World", "clashDay", "(LFreeLances$Bond;LFreeLances$Bond;)I"⟩ ⟨"FreeLances$World", "clashDay", "(LFreeLances$Bond;LFreeLances$Bond;)I"⟩ ∈ tbT := sub_4 (List.mem_of_getElem? (i := 69) rfl) rfl
set_option maxRecDepth 100000 in
theorem tw886 : Cond.code ⟨"FreeLances$World", "clashDay", "(LFreeLances$Bond;LFreeLances$Bond;)I"⟩ prog_11_method_21_code 4 (some .int) ∈ tbT := sub_4 (List.mem_of_getElem? (i := 70) rfl) rfl
set_option maxRecDepth 100000 in
theorem tw887 : Cond.methodLink "FreeLances$World" 195 ⟨"java/lang/Math", "max", "(II)I"⟩ ∈ tbT := sub_4 (List.mem_of_getElem? (i := 71) rfl) rfl
set_option maxRecDepth 100000 in
theorem tw888 : Cond.static ⟨"java/lang/Math", "max", "(II)I"⟩ ∈ tbT := sub_4 (List.mem_of_getElem? (i := 72) rfl) rfl
set_option maxRecDepth 100000 in
theorem tw890 : Cond.methodLink "FreeLances$World" 181 ⟨"FreeLances$Bond", "isContract", "()Z"⟩ ∈ tbT := sub_4 (List.mem_of_getElem? (i := 74) rfl) rfl
set_option maxRecDepth 100000 in
theorem tw891 : Cond.methodLink "FreeLances$World" 248 ⟨"FreeLances$World", "clashOf", "(LFreeLances$Bond;LFreeLances$Bond;)I"⟩ ∈ tbT := sub_4 (List.mem_of_getElem? (i := 75) rfl) rfl
set_option maxRecDepth 100000 in
theorem tw893 : Cond.instanceMethod ⟨"FreeLances$World", "clashOf", "(LFreeLances$Bond;LFreeLances$Bond;)I"⟩ ∈ tbT := sub_4 (List.mem_of_getElem? (i := 77) rfl) rfl
set_option maxRecDepth 100000 in
theorem tw894 : Cond.code ⟨"FreeLances$World", "clashOf", "(LFreeLances$Bond;LFreeLances$Bond;)I"⟩ prog_11_method_22_code 4 (some .int) ∈ tbT := sub_4 (List.mem_of_getElem? (i := 78) rfl) rfl
set_option maxRecDepth 100000 in
theorem tw895 : Cond.methodLink "FreeLances$World" 257 ⟨"FreeLances$World", "truceDay", "(LFreeLances$Bond;LFreeLances$Bond;)I"⟩ ∈ tbT := sub_4 (List.mem_of_getElem? (i := 79) rfl) rfl
set_option maxRecDepth 100000 in
theorem tw897 : Cond.instanceMethod ⟨"FreeLances$World", "truceDay", "(LFreeLances$Bond;LFreeLances$Bond;)I"⟩ ∈ tbT := sub_4 (List.mem_of_getElem? (i := 81) rfl) rfl
set_option maxRecDepth 100000 in
theorem tw898 : Cond.code ⟨"FreeLances$World", "truceDay", "(LFreeLances$Bond;LFreeLances$Bond;)I"⟩ prog_11_method_23_code 12 (some .int) ∈ tbT := sub_4 (List.mem_of_getElem? (i := 82) rfl) rfl
set_option maxRecDepth 100000 in
theorem tw902 : Cond.code ⟨"FreeLances", "free", "(IZ)I"⟩ prog_1_method_32_code 4 (some .int) ∈ tbT := sub_4 (List.mem_of_getElem? (i := 86) rfl) rfl
set_option maxRecDepth 100000 in
theorem tw903 : Cond.methodLink "FreeLances" 319 ⟨"FreeLances$World", "firstFree", "(IZ)I"⟩ ∈ tbT := sub_4 (List.mem_of_getElem? (i := 87) rfl) rfl
set_option maxRecDepth 100000 in
theorem tw904 : Cond.instanceMethod ⟨"FreeLances$World", "firstFree", "(IZ)I"⟩ ∈ tbT := sub_4 (List.mem_of_getElem? (i := 88) rfl) rfl
set_option maxRecDepth 100000 in
theorem tw905 : Cond.selects "FreeLances$World" ⟨"FreeLances$World", "firstFree", "(IZ)I"⟩ ⟨"FreeLances$World", "firstFree", "(IZ)I"⟩ ∈ tbT := sub_4 (List.mem_of_getElem? (i := 89) rfl) rfl
set_option maxRecDepth 100000 in
theorem tw906 : Cond.code ⟨"FreeLances$World", "firstFree", "(IZ)I"⟩ prog_11_method_24_code 6 (some .int) ∈ tbT := sub_4 (List.mem_of_getElem? (i := 90) rfl) rfl
set_option maxRecDepth 100000 in
theorem tw907 : Cond.methodLink "FreeLances$World" 263 ⟨"FreeLances$World", "boundUntil", "(IIZ)I"⟩ ∈ tbT := sub_4 (List.mem_of_getElem? (i := 91) rfl) rfl
set_option maxRecDepth 100000 in
theorem tw909 : Cond.instanceMethod ⟨"FreeLances$World", "boundUntil", "(IIZ)I"⟩ ∈ tbT := sub_4 (List.mem_of_getElem? (i := 93) rfl) rfl
set_option maxRecDepth 100000 in
theorem tw910 : Cond.code ⟨"FreeLances$World", "boundUntil", "(IIZ)I"⟩ prog_11_method_25_code 9 (some .int) ∈ tbT := sub_4 (List.mem_of_getElem? (i := 94) rfl) rfl
set_option maxRecDepth 100000 in
theorem tw914 : Cond.code ⟨"FreeLances", "muster", "(II)I"⟩ prog_1_method_33_code 5 (some .int) ∈ tbT := sub_4 (List.mem_of_getElem? (i := 98) rfl) rfl
set_option maxRecDepth 100000 in
theorem tw915 : Cond.methodLink "FreeLances" 323 ⟨"FreeLances", "isSheet", "(I)Z"⟩ ∈ tbT := sub_4 (List.mem_of_getElem? (i := 99) rfl) rfl
set_option maxRecDepth 100000 in
theorem tw916 : Cond.static ⟨"FreeLances", "isSheet", "(I)Z"⟩ ∈ tbT := sub_4 (List.mem_of_getElem? (i := 100) rfl) rfl
set_option maxRecDepth 100000 in
theorem tw917 : Cond.code ⟨"FreeLances", "isSheet", "(I)Z"⟩ prog_1_method_62_code 1 (some .boolean) ∈ tbT := sub_4 (List.mem_of_getElem? (i := 101) rfl) rfl
set_option maxRecDepth 100000 in
theorem tw918 : Cond.methodLink "FreeLances" 326 ⟨"FreeLances$Sheet", "missing", "()Z"⟩ ∈ tbT := sub_4 (List.mem_of_getElem? (i := 102) rfl) rfl
set_option maxRecDepth 100000 in
theorem tw919 : Cond.instanceMethod ⟨"FreeLances$Sheet", "missing", "()Z"⟩ ∈ tbT := sub_4 (List.mem_of_getElem? (i := 103) rfl) rfl
set_option maxRecDepth 100000 in
theorem tw920 : Cond.selects "FreeLances$Sheet" ⟨"FreeLances$Sheet", "missing", "()Z"⟩ ⟨"FreeLances$Sheet", "missing", "()Z"⟩ ∈ tbT := sub_4 (List.mem_of_getElem? (i := 104) rfl) rfl
set_option maxRecDepth 100000 in
theorem tw921 : Cond.code ⟨"FreeLances$Sheet", "missing", "()Z"⟩ prog_7_method_3_code 1 (some .boolean) ∈ tbT := sub_4 (List.mem_of_getElem? (i := 105) rfl) rfl
set_option maxRecDepth 100000 in
theorem tw922 : Cond.methodLink "FreeLances" 332 ⟨"FreeLances$Sheet", "allWithin", "(II)Z"⟩ ∈ tbT := sub_4 (List.mem_of_getElem? (i := 106) rfl) rfl
set_option maxRecDepth 100000 in
theorem tw923 : Cond.instanceMethod ⟨"FreeLances$Sheet", "allWithin", "(II)Z"⟩ ∈ tbT := sub_4 (List.mem_of_getElem? (i := 107) rfl) rfl
set_option maxRecDepth 100000 in
theorem tw924 : Cond.selects "FreeLances$Sheet" ⟨"FreeLances$Sheet", "allWithin", "(II)Z"⟩ ⟨"FreeLances$Sheet", "allWithin", "(II)Z"⟩ ∈ tbT := sub_4 (List.mem_of_getElem? (i := 108) rfl) rfl
set_option maxRecDepth 100000 in
theorem tw925 : Cond.code ⟨"FreeLances$Sheet", "allWithin", "(II)Z"⟩ prog_7_method_6_code 4 (some .boolean) ∈ tbT := sub_4 (List.mem_of_getElem? (i := 109) rfl) rfl
set_option maxRecDepth 100000 in
theorem tw926 : Cond.methodLinkNest "FreeLances$Sheet" 22 ⟨"FreeLances", "within", "(III)Z"⟩ "FreeLances" ∈ tbT := sub_4 (List.mem_of_getElem? (i := 110) rfl) rfl
set_option maxRecDepth 100000 in
theorem tw927 : Cond.methodLink "FreeLances" 335 ⟨"FreeLances$Company", "show", "(LFreeLances$Sheet;)V"⟩ ∈ tbT := sub_4 (List.mem_of_getElem? (i := 111) rfl) rfl
set_option maxRecDepth 100000 in
theorem tw928 : Cond.instanceMethod ⟨"FreeLances$Company", "show", "(LFreeLances$Sheet;)V"⟩ ∈ tbT := sub_4 (List.mem_of_getElem? (i := 112) rfl) rfl
set_option maxRecDepth 100000 in
theorem tw929 : Cond.selects "FreeLances$Company" ⟨"FreeLances$Company", "show", "(LFreeLances$Sheet;)V"⟩ ⟨"FreeLances$Company", "show", "(LFreeLances$Sheet;)V"⟩ ∈ tbT := sub_4 (List.mem_of_getElem? (i := 113) rfl) rfl
set_option maxRecDepth 100000 in
theorem tw930 : Cond.code ⟨"FreeLances$Company", "show", "(LFreeLances$Sheet;)V"⟩ prog_3_method_8_code 5 none ∈ tbT := sub_4 (List.mem_of_getElem? (i := 114) rfl) rfl
set_option maxRecDepth 100000 in
theorem tw931 : Cond.methodLink "FreeLances$Company" 73 ⟨"java/lang/Math", "min", "(II)I"⟩ ∈ tbT := sub_4 (List.mem_of_getElem? (i := 115) rfl) rfl
set_option maxRecDepth 100000 in
theorem tw932 : Cond.methodLink "FreeLances" 342 ⟨"FreeLances$World", "countShown", "(I)I"⟩ ∈ tbT := sub_4 (List.mem_of_getElem? (i := 116) rfl) rfl
set_option maxRecDepth 100000 in
theorem tw933 : Cond.instanceMethod ⟨"FreeLances$World", "countShown", "(I)I"⟩ ∈ tbT := sub_4 (List.mem_of_getElem? (i := 117) rfl) rfl
set_option maxRecDepth 100000 in
theorem tw934 : Cond.selects "FreeLances$World" ⟨"FreeLances$World", "countShown", "(I)I"⟩ ⟨"FreeLances$World", "countShown", "(I)I"⟩ ∈ tbT := sub_4 (List.mem_of_getElem? (i := 118) rfl) rfl
set_option maxRecDepth 100000 in
theorem tw935 : Cond.code ⟨"FreeLances$World", "countShown", "(I)I"⟩ prog_11_method_26_code 6 (some .int) ∈ tbT := sub_4 (List.mem_of_getElem? (i := 119) rfl) rfl
set_option maxRecDepth 100000 in
theorem tw936 : Cond.methodLink "FreeLances$World" 277 ⟨"FreeLances$Company", "shows", "(II)Z"⟩ ∈ tbT := sub_4 (List.mem_of_getElem? (i := 120) rfl) rfl
set_option maxRecDepth 100000 in
theorem tw937 : Cond.instanceMethod ⟨"FreeLances$Company", "shows", "(II)Z"⟩ ∈ tbT := sub_4 (List.mem_of_getElem? (i := 121) rfl) rfl
set_option maxRecDepth 100000 in
theorem tw938 : Cond.selects "FreeLances$Company" ⟨"FreeLances$Company", "shows", "(II)Z"⟩ ⟨"FreeLances$Company", "shows", "(II)Z"⟩ ∈ tbT := sub_4 (List.mem_of_getElem? (i := 122) rfl) rfl
set_option maxRecDepth 100000 in
theorem tw939 : Cond.code ⟨"FreeLances$Company", "shows", "(II)Z"⟩ prog_3_method_9_code 4 (some .boolean) ∈ tbT := sub_4 (List.mem_of_getElem? (i := 123) rfl) rfl
set_option maxRecDepth 100000 in
theorem tw940 : Cond.methodLink "FreeLances$World" 281 ⟨"FreeLances$World", "leastOf", "(II)I"⟩ ∈ tbT := sub_4 (List.mem_of_getElem? (i := 124) rfl) rfl
set_option maxRecDepth 100000 in
theorem tw942 : Cond.instanceMethod ⟨"FreeLances$World", "leastOf", "(II)I"⟩ ∈ tbT := sub_4 (List.mem_of_getElem? (i := 126) rfl) rfl
set_option maxRecDepth 100000 in
theorem tw943 : Cond.code ⟨"FreeLances$World", "leastOf", "(II)I"⟩ prog_11_method_27_code 5 (some .int) ∈ tbT := sub_4 (List.mem_of_getElem? (i := 127) rfl) rfl
set_option maxRecDepth 100000 in
theorem tw944 : Cond.methodLink "FreeLances$World" 290 ⟨"FreeLances$Lance", "present", "()Z"⟩ ∈ tbT := sub_4 (List.mem_of_getElem? (i := 128) rfl) rfl
set_option maxRecDepth 100000 in
theorem tw945 : Cond.methodLink "FreeLances$World" 284 ⟨"FreeLances$World", "counts", "(I)Z"⟩ ∈ tbT := sub_4 (List.mem_of_getElem? (i := 129) rfl) rfl
set_option maxRecDepth 100000 in
theorem tw947 : Cond.instanceMethod ⟨"FreeLances$World", "counts", "(I)Z"⟩ ∈ tbT := sub_4 (List.mem_of_getElem? (i := 131) rfl) rfl
set_option maxRecDepth 100000 in
theorem tw948 : Cond.code ⟨"FreeLances$World", "counts", "(I)Z"⟩ prog_11_method_28_code 4 (some .boolean) ∈ tbT := sub_4 (List.mem_of_getElem? (i := 132) rfl) rfl
set_option maxRecDepth 100000 in
theorem tw952 : Cond.code ⟨"FreeLances", "twice", "(III)I"⟩ prog_1_method_34_code 7 (some .int) ∈ tbT := sub_4 (List.mem_of_getElem? (i := 136) rfl) rfl
set_option maxRecDepth 100000 in
theorem tw953 : Cond.methodLink "FreeLances" 348 ⟨"FreeLances$Company", "shows", "(II)Z"⟩ ∈ tbT := sub_4 (List.mem_of_getElem? (i := 137) rfl) rfl
set_option maxRecDepth 100000 in
theorem tw954 : Cond.methodLink "FreeLances" 351 ⟨"java/lang/Math", "abs", "(I)I"⟩ ∈ tbT := sub_4 (List.mem_of_getElem? (i := 138) rfl) rfl
set_option maxRecDepth 100000 in
theorem tw955 : Cond.static ⟨"java/lang/Math", "abs", "(I)I"⟩ ∈ tbT := sub_4 (List.mem_of_getElem? (i := 139) rfl) rfl
set_option maxRecDepth 100000 in
theorem tw960 : Cond.code ⟨"FreeLances", "shown", "(I)I"⟩ prog_1_method_35_code 4 (some .int) ∈ tbT := sub_4 (List.mem_of_getElem? (i := 144) rfl) rfl
set_option maxRecDepth 100000 in
theorem tw961 : Cond.methodLink "FreeLances" 356 ⟨"FreeLances$World", "showing", "(I)I"⟩ ∈ tbT := sub_4 (List.mem_of_getElem? (i := 145) rfl) rfl
set_option maxRecDepth 100000 in
theorem tw962 : Cond.instanceMethod ⟨"FreeLances$World", "showing", "(I)I"⟩ ∈ tbT := sub_4 (List.mem_of_getElem? (i := 146) rfl) rfl
set_option maxRecDepth 100000 in
theorem tw963 : Cond.selects "FreeLances$World" ⟨"FreeLances$World", "showing", "(I)I"⟩ ⟨"FreeLances$World", "showing", "(I)I"⟩ ∈ tbT := sub_4 (List.mem_of_getElem? (i := 147) rfl) rfl
set_option maxRecDepth 100000 in
theorem tw964 : Cond.code ⟨"FreeLances$World", "showing", "(I)I"⟩ prog_11_method_29_code 4 (some .int) ∈ tbT := sub_4 (List.mem_of_getElem? (i := 148) rfl) rfl
set_option maxRecDepth 100000 in
theorem tw968 : Cond.code ⟨"FreeLances", "hold", "(IIIZ)I"⟩ prog_1_method_36_code 9 (some .int) ∈ tbT := sub_4 (List.mem_of_getElem? (i := 152) rfl) rfl
set_option maxRecDepth 100000 in
theorem tw969 : Cond.methodLink "FreeLances" 359 ⟨"java/lang/Math", "min", "(II)I"⟩ ∈ tbT := sub_4 (List.mem_of_getElem? (i := 153) rfl) rfl
set_option maxRecDepth 100000 in
theorem tw973 : Cond.code ⟨"FreeLances", "ask", "(III)I"⟩ prog_1_method_37_code 8 (some .int) ∈ tbT := sub_4 (List.mem_of_getElem? (i := 157) rfl) rfl
set_option maxRecDepth 100000 in
theorem tw974 : Cond.methodLink "FreeLances" 362 ⟨"FreeLances$Sheet", "inThrees", "(I)Z"⟩ ∈ tbT := sub_4 (List.mem_of_getElem? (i := 158) rfl) rfl
set_option maxRecDepth 100000 in
theorem tw975 : Cond.instanceMethod ⟨"FreeLances$Sheet", "inThrees", "(I)Z"⟩ ∈ tbT := sub_4 (List.mem_of_getElem? (i := 159) rfl) rfl
set_option maxRecDepth 100000 in
theorem tw976 : Cond.selects "FreeLances$Sheet" ⟨"FreeLances$Sheet", "inThrees", "(I)Z"⟩ ⟨"FreeLances$Sheet", "inThrees", "(I)Z"⟩ ∈ tbT := sub_4 (List.mem_of_getElem? (i := 160) rfl) rfl
set_option maxRecDepth 100000 in
theorem tw977 : Cond.code ⟨"FreeLances$Sheet", "inThrees", "(I)Z"⟩ prog_7_method_7_code 2 (some .boolean) ∈ tbT := sub_4 (List.mem_of_getElem? (i := 161) rfl) rfl
set_option maxRecDepth 100000 in
theorem tw978 : Cond.methodLink "FreeLances$Sheet" 26 ⟨"FreeLances$Sheet", "allWithin", "(II)Z"⟩ ∈ tbT := sub_4 (List.mem_of_getElem? (i := 162) rfl) rfl
set_option maxRecDepth 100000 in
theorem tw979 : Cond.methodLink "FreeLances" 368 ⟨"FreeLances$Plans", "cheapestWay", "([III)I"⟩ ∈ tbT := sub_4 (List.mem_of_getElem? (i := 163) rfl) rfl
set_option maxRecDepth 100000 in
theorem tw980 : Cond.instanceMethod ⟨"FreeLances$Plans", "cheapestWay", "([III)I"⟩ ∈ tbT := sub_4 (List.mem_of_getElem? (i := 164) rfl) rfl
set_option maxRecDepth 100000 in
theorem tw981 : Cond.selects "FreeLances$Plans" ⟨"FreeLances$Plans", "cheapestWay", "([III)I"⟩ ⟨"FreeLances$Plans", "cheapestWay", "([III)I"⟩ ∈ tbT := sub_4 (List.mem_of_getElem? (i := 165) rfl) rfl
set_option maxRecDepth 100000 in
theorem tw982 : Cond.code ⟨"FreeLances$Plans", "cheapestWay", "([III)I"⟩ prog_5_method_2_code 8 (some .int) ∈ tbT := sub_4 (List.mem_of_getElem? (i := 166) rfl) rfl
set_option maxRecDepth 100000 in
theorem tw983 : Cond.methodLink "FreeLances$Plans" 18 ⟨"FreeLances$Plans", "costOfWay", "([IIII)I"⟩ ∈ tbT := sub_4 (List.mem_of_getElem? (i := 167) rfl) rfl
set_option maxRecDepth 100000 in
theorem tw984 : Cond.instanceMethod ⟨"FreeLances$Plans", "costOfWay", "([IIII)I"⟩ ∈ tbT := sub_4 (List.mem_of_getElem? (i := 168) rfl) rfl
set_option maxRecDepth 100000 in
theorem tw985 : Cond.selects "FreeLances$Plans" ⟨"FreeLances$Plans", "costOfWay", "([IIII)I"⟩ ⟨"FreeLances$Plans", "costOfWay", "([IIII)I"⟩ ∈ tbT := sub_4 (List.mem_of_getElem? (i := 169) rfl) rfl
set_option maxRecDepth 100000 in
theorem tw986 : Cond.code ⟨"FreeLances$Plans", "costOfWay", "([IIII)I"⟩ prog_5_method_3_code 9 (some .int) ∈ tbT := sub_4 (List.mem_of_getElem? (i := 170) rfl) rfl
set_option maxRecDepth 100000 in
theorem tw987 : Cond.methodLink "FreeLances" 372 ⟨"FreeLances$Plans", "costOfWay", "([IIII)I"⟩ ∈ tbT := sub_4 (List.mem_of_getElem? (i := 171) rfl) rfl
set_option maxRecDepth 100000 in
theorem tw991 : Cond.code ⟨"FreeLances", "parts", "(III)I"⟩ prog_1_method_38_code 6 (some .int) ∈ tbT := sub_4 (List.mem_of_getElem? (i := 175) rfl) rfl
set_option maxRecDepth 100000 in
theorem tw992 : Cond.methodLink "FreeLances" 376 ⟨"FreeLances$Sheet", "total", "()I"⟩ ∈ tbT := sub_4 (List.mem_of_getElem? (i := 176) rfl) rfl
set_option maxRecDepth 100000 in
theorem tw993 : Cond.instanceMethod ⟨"FreeLances$Sheet", "total", "()I"⟩ ∈ tbT := sub_4 (List.mem_of_getElem? (i := 177) rfl) rfl
set_option maxRecDepth 100000 in
theorem tw994 : Cond.selects "FreeLances$Sheet" ⟨"FreeLances$Sheet", "total", "()I"⟩ ⟨"FreeLances$Sheet", "total", "()I"⟩ ∈ tbT := sub_4 (List.mem_of_getElem? (i := 178) rfl) rfl
set_option maxRecDepth 100000 in
theorem tw995 : Cond.code ⟨"FreeLances$Sheet", "total", "()I"⟩ prog_7_method_8_code 3 (some .int) ∈ tbT := sub_4 (List.mem_of_getElem? (i := 179) rfl) rfl
set_option maxRecDepth 100000 in
theorem tw996 : Cond.methodLink "FreeLances" 380 ⟨"FreeLances$Plans", "partOf", "(ILFreeLances$Sheet;II)I"⟩ ∈ tbT := sub_4 (List.mem_of_getElem? (i := 180) rfl) rfl
set_option maxRecDepth 100000 in
theorem tw997 : Cond.instanceMethod ⟨"FreeLances$Plans", "partOf", "(ILFreeLances$Sheet;II)I"⟩ ∈ tbT := sub_4 (List.mem_of_getElem? (i := 181) rfl) rfl
set_option maxRecDepth 100000 in
theorem tw998 : Cond.selects "FreeLances$Plans" ⟨"FreeLances$Plans", "partOf", "(ILFreeLances$Sheet;II)I"⟩ ⟨"FreeLances$Plans", "partOf", "(ILFreeLances$Sheet;II)I"⟩ ∈ tbT := sub_4 (List.mem_of_getElem? (i := 182) rfl) rfl
set_option maxRecDepth 100000 in
theorem tw999 : Cond.code ⟨"FreeLances$Plans", "partOf", "(ILFreeLances$Sheet;II)I"⟩ prog_5_method_4_code 10 (some .int) ∈ tbT := sub_4 (List.mem_of_getElem? (i := 183) rfl) rfl
set_option maxRecDepth 100000 in
theorem tw1003 : Cond.code ⟨"FreeLances", "share", "(I)I"⟩ prog_1_method_39_code 4 (some .int) ∈ tbT := sub_4 (List.mem_of_getElem? (i := 187) rfl) rfl
set_option maxRecDepth 100000 in
theorem tw1004 : Cond.methodLink "FreeLances" 384 ⟨"java/lang/Math", "max", "(II)I"⟩ ∈ tbT := sub_4 (List.mem_of_getElem? (i := 188) rfl) rfl
set_option maxRecDepth 100000 in
theorem tw1008 : Cond.code ⟨"FreeLances", "winter", "(III)I"⟩ prog_1_method_40_code 6 (some .int) ∈ tbT := sub_4 (List.mem_of_getElem? (i := 192) rfl) rfl
set_option maxRecDepth 100000 in
theorem tw1012 : Cond.code ⟨"FreeLances", "wintering", "(I)I"⟩ prog_1_method_41_code 3 (some .int) ∈ tbT := sub_4 (List.mem_of_getElem? (i := 196) rfl) rfl
set_option maxRecDepth 100000 in
theorem tw1013 : Cond.methodLink "FreeLances" 390 ⟨"FreeLances$Plans", "winterCost", "(LFreeLances$World;)I"⟩ ∈ tbT := sub_4 (List.mem_of_getElem? (i := 197) rfl) rfl
set_option maxRecDepth 100000 in
theorem tw1014 : Cond.instanceMethod ⟨"FreeLances$Plans", "winterCost", "(LFreeLances$World;)I"⟩ ∈ tbT := sub_4 (List.mem_of_getElem? (i := 198) rfl) rfl
set_option maxRecDepth 100000 in
theorem tw1015 : Cond.selects "FreeLances$Plans" ⟨"FreeLances$Plans", "winterCost", "(LFreeLances$World;)I"⟩ ⟨"FreeLances$Plans", "winterCost", "(LFreeLances$World;)I"⟩ ∈ tbT := sub_4 (List.mem_of_getElem? (i := 199) rfl) rfl
set_option maxRecDepth 100000 in
theorem tw1016 : Cond.code ⟨"FreeLances$Plans", "winterCost", "(LFreeLances$World;)I"⟩ prog_5_method_5_code 3 (some .int) ∈ tbT := sub_4 (List.mem_of_getElem? (i := 200) rfl) rfl
set_option maxRecDepth 100000 in
theorem tw1017 : Cond.methodLink "FreeLances$Plans" 36 ⟨"java/lang/Integer", "bitCount", "(I)I"⟩ ∈ tbT := sub_4 (List.mem_of_getElem? (i := 201) rfl) rfl
set_option maxRecDepth 100000 in
theorem tw1018 : Cond.static ⟨"java/lang/Integer", "bitCount", "(I)I"⟩ ∈ tbT := sub_4 (List.mem_of_getElem? (i := 202) rfl) rfl
set_option maxRecDepth 100000 in
theorem tw1019 : Cond.code ⟨"java/lang/Integer", "bitCount", "(I)I"⟩ prog_14_method_49_code 1 (some .int) ∈ tbT := sub_4 (List.mem_of_getElem? (i := 203) rfl) rfl
set_option maxRecDepth 100000 in
theorem tw1020 : Cond.constant "java/lang/Integer" 265 1431655765 ∈ tbT := sub_4 (List.mem_of_getElem? (i := 204) rfl) rfl
set_option maxRecDepth 100000 in
theorem tw1021 : Cond.constant "java/lang/Integer" 266 858993459 ∈ tbT := sub_4 (List.mem_of_getElem? (i := 205) rfl) rfl
set_option maxRecDepth 100000 in
theorem tw1022 : Cond.constant "java/lang/Integer" 267 252645135 ∈ tbT := sub_4 (List.mem_of_getElem? (i := 206) rfl) rfl
set_option maxRecDepth 100000 in
theorem tw1023 : Cond.methodLink "FreeLances$Plans" 45 ⟨"FreeLances$Plans", "winterChoice", "(LFreeLances$World;I)I"⟩ ∈ tbT := sub_4 (List.mem_of_getElem? (i := 207) rfl) rfl
set_option maxRecDepth 100000 in
theorem tw1025 : Cond.instanceMethod ⟨"FreeLances$Plans", "winterChoice", "(LFreeLances$World;I)I"⟩ ∈ tbT := sub_4 (List.mem_of_getElem? (i := 209) rfl) rfl
set_option maxRecDepth 100000 in
theorem tw1026 : Cond.code ⟨"FreeLances$Plans", "winterChoice", "(LFreeLances$World;I)I"⟩ prog_5_method_7_code 7 (some .int) ∈ tbT := sub_4 (List.mem_of_getElem? (i := 210) rfl) rfl
set_option maxRecDepth 100000 in
theorem tw1027 : Cond.constant "FreeLances$Plans" 53 1000000000 ∈ tbT := sub_4 (List.mem_of_getElem? (i := 211) rfl) rfl
set_option maxRecDepth 100000 in
theorem tw1028 : Cond.methodLink "FreeLances$Plans" 49 ⟨"FreeLances$Plans", "winterNext", "(LFreeLances$World;II)I"⟩ ∈ tbT := sub_4 (List.mem_of_getElem? (i := 212) rfl) rfl
set_option maxRecDepth 100000 in
theorem tw1030 : Cond.instanceMethod ⟨"FreeLances$Plans", "winterNext", "(LFreeLances$World;II)I"⟩ ∈ tbT := sub_4 (List.mem_of_getElem? (i := 214) rfl) rfl
set_option maxRecDepth 100000 in
theorem tw1031 : Cond.code ⟨"FreeLances$Plans", "winterNext", "(LFreeLances$World;II)I"⟩ prog_5_method_8_code 5 (some .int) ∈ tbT := sub_4 (List.mem_of_getElem? (i := 215) rfl) rfl
set_option maxRecDepth 100000 in
theorem tw1032 : Cond.methodLink "FreeLances$Plans" 54 ⟨"java/lang/Math", "min", "(II)I"⟩ ∈ tbT := sub_4 (List.mem_of_getElem? (i := 216) rfl) rfl
set_option maxRecDepth 100000 in
theorem tw1033 : Cond.methodLink "FreeLances" 394 ⟨"FreeLances$Plans", "winterTown", "(LFreeLances$World;I)I"⟩ ∈ tbT := sub_4 (List.mem_of_getElem? (i := 217) rfl) rfl
set_option maxRecDepth 100000 in
theorem tw1034 : Cond.instanceMethod ⟨"FreeLances$Plans", "winterTown", "(LFreeLances$World;I)I"⟩ ∈ tbT := sub_4 (List.mem_of_getElem? (i := 218) rfl) rfl
set_option maxRecDepth 100000 in
theorem tw1035 : Cond.selects "FreeLances$Plans" ⟨"FreeLances$Plans", "winterTown", "(LFreeLances$World;I)I"⟩ ⟨"FreeLances$Plans", "winterTown", "(LFreeLances$World;I)I"⟩ ∈ tbT := sub_4 (List.mem_of_getElem? (i := 219) rfl) rfl
set_option maxRecDepth 100000 in
theorem tw1036 : Cond.code ⟨"FreeLances$Plans", "winterTown", "(LFreeLances$World;I)I"⟩ prog_5_method_6_code 6 (some .int) ∈ tbT := sub_4 (List.mem_of_getElem? (i := 220) rfl) rfl
set_option maxRecDepth 100000 in
theorem tw1040 : Cond.code ⟨"FreeLances", "hiring", "(II)I"⟩ prog_1_method_42_code 6 (some .int) ∈ tbT := sub_4 (List.mem_of_getElem? (i := 224) rfl) rfl
set_option maxRecDepth 100000 in
theorem tw1041 : Cond.methodLink "FreeLances" 398 ⟨"FreeLances$Plans", "hireCost", "(LFreeLances$World;[II)I"⟩ ∈ tbT := sub_4 (List.mem_of_getElem? (i := 225) rfl) rfl
set_option maxRecDepth 100000 in
theorem tw1042 : Cond.instanceMethod ⟨"FreeLances$Plans", "hireCost", "(LFreeLances$World;[II)I"⟩ ∈ tbT := sub_4 (List.mem_of_getElem? (i := 226) rfl) rfl
set_option maxRecDepth 100000 in
theorem tw1043 : Cond.selects "FreeLances$Plans" ⟨"FreeLances$Plans", "hireCost", "(LFreeLances$World;[II)I"⟩ ⟨"FreeLances$Plans", "hireCost", "(LFreeLances$World;[II)I"⟩ ∈ tbT := sub_4 (List.mem_of_getElem? (i := 227) rfl) rfl
set_option maxRecDepth 100000 in
theorem tw1044 : Cond.code ⟨"FreeLances$Plans", "hireCost", "(LFreeLances$World;[II)I"⟩ prog_5_method_9_code 7 (some .int) ∈ tbT := sub_4 (List.mem_of_getElem? (i := 228) rfl) rfl
set_option maxRecDepth 100000 in
theorem tw1045 : Cond.methodLink "FreeLances$Plans" 69 ⟨"FreeLances$Plans", "hirePlace", "(II)I"⟩ ∈ tbT := sub_4 (List.mem_of_getElem? (i := 229) rfl) rfl
set_option maxRecDepth 100000 in
theorem tw1046 : Cond.static ⟨"FreeLances$Plans", "hirePlace", "(II)I"⟩ ∈ tbT := sub_4 (List.mem_of_getElem? (i := 230) rfl) rfl
set_option maxRecDepth 100000 in
theorem tw1047 : Cond.code ⟨"FreeLances$Plans", "hirePlace", "(II)I"⟩ prog_5_method_11_code 2 (some .int) ∈ tbT := sub_4 (List.mem_of_getElem? (i := 231) rfl) rfl
set_option maxRecDepth 100000 in
theorem tw1048 : Cond.methodLink "FreeLances$Plans" 72 ⟨"FreeLances$Plans", "hireChoice", "(LFreeLances$World;[III)I"⟩ ∈ tbT := sub_4 (List.mem_of_getElem? (i := 232) rfl) rfl
set_option maxRecDepth 100000 in
theorem tw1050 : Cond.instanceMethod ⟨"FreeLances$Plans", "hireChoice", "(LFreeLances$World;[III)I"⟩ ∈ tbT := sub_4 (List.mem_of_getElem? (i := 234) rfl) rfl
set_option maxRecDepth 100000 in
theorem tw1051 : Cond.code ⟨"FreeLances$Plans", "hireChoice", "(LFreeLances$World;[III)I"⟩ prog_5_method_12_code 9 (some .int) ∈ tbT := sub_4 (List.mem_of_getElem? (i := 235) rfl) rfl
set_option maxRecDepth 100000 in
theorem tw1052 : Cond.methodLink "FreeLances$Plans" 76 ⟨"FreeLances$Plans", "hireNext", "(LFreeLances$World;[IIII)I"⟩ ∈ tbT := sub_4 (List.mem_of_getElem? (i := 236) rfl) rfl
set_option maxRecDepth 100000 in
theorem tw1054 : Cond.instanceMethod ⟨"FreeLances$Plans", "hireNext", "(LFreeLances$World;[IIII)I"⟩ ∈ tbT := sub_4 (List.mem_of_getElem? (i := 238) rfl) rfl
set_option maxRecDepth 100000 in
theorem tw1055 : Cond.code ⟨"FreeLances$Plans", "hireNext", "(LFreeLances$World;[IIII)I"⟩ prog_5_method_13_code 8 (some .int) ∈ tbT := sub_4 (List.mem_of_getElem? (i := 239) rfl) rfl
set_option maxRecDepth 100000 in
theorem tw1056 : Cond.methodLink "FreeLances" 402 ⟨"FreeLances$Plans", "hiredIn", "(LFreeLances$World;[III)I"⟩ ∈ tbT := sub_5 (List.mem_of_getElem? (i := 0) rfl) rfl
set_option maxRecDepth 100000 in
theorem tw1057 : Cond.instanceMethod ⟨"FreeLances$Plans", "hiredIn", "(LFreeLances$World;[III)I"⟩ ∈ tbT := sub_5 (List.mem_of_getElem? (i := 1) rfl) rfl
set_option maxRecDepth 100000 in
theorem tw1058 : Cond.selects "FreeLances$Plans" ⟨"FreeLances$Plans", "hiredIn", "(LFreeLances$World;[III)I"⟩ ⟨"FreeLances$Plans", "hiredIn", "(LFreeLances$World;[III)I"⟩ ∈ tbT := sub_5 (List.mem_of_getElem? (i := 2) rfl) rfl
set_option maxRecDepth 100000 in
theorem tw1059 : Cond.code ⟨"FreeLances$Plans", "hiredIn", "(LFreeLances$World;[III)I"⟩ prog_5_method_10_code 7 (some .int) ∈ tbT := sub_5 (List.mem_of_getElem? (i := 3) rfl) rfl
set_option maxRecDepth 100000 in
theorem tw1063 : Cond.code ⟨"FreeLances", "days", "(I)I"⟩ prog_1_method_43_code 3 (some .int) ∈ tbT := sub_5 (List.mem_of_getElem? (i := 7) rfl) rfl
set_option maxRecDepth 100000 in
theorem tw1064 : Cond.methodLink "FreeLances" 406 ⟨"FreeLances$World", "endDay", "()V"⟩ ∈ tbT := sub_5 (List.mem_of_getElem? (i := 8) rfl) rfl
set_option maxRecDepth 100000 in
theorem tw1065 : Cond.instanceMethod ⟨"FreeLances$World", "endDay", "()V"⟩ ∈ tbT := sub_5 (List.mem_of_getElem? (i := 9) rfl) rfl
set_option maxRecDepth 100000 in
theorem tw1066 : Cond.selects "FreeLances$World" ⟨"FreeLances$World", "endDay", "()V"⟩ ⟨"FreeLances$World", "endDay", "()V"⟩ ∈ tbT := sub_5 (List.mem_of_getElem? (i := 10) rfl) rfl
set_option maxRecDepth 100000 in
theorem tw1067 : Cond.code ⟨"FreeLances$World", "endDay", "()V"⟩ prog_11_method_9_code 2 none ∈ tbT := sub_5 (List.mem_of_getElem? (i := 11) rfl) rfl
set_option maxRecDepth 100000 in
theorem tw1068 : Cond.methodLink "FreeLances$World" 148 ⟨"FreeLances$Company", "arriveOn", "(I)V"⟩ ∈ tbT := sub_5 (List.mem_of_getElem? (i := 12) rfl) rfl
set_option maxRecDepth 100000 in
theorem tw1069 : Cond.instanceMethod ⟨"FreeLances$Company", "arriveOn", "(I)V"⟩ ∈ tbT := sub_5 (List.mem_of_getElem? (i := 13) rfl) rfl
set_option maxRecDepth 100000 in
theorem tw1070 : Cond.selects "FreeLances$Company" ⟨"FreeLances$Company", "arriveOn", "(I)V"⟩ ⟨"FreeLances$Company", "arriveOn", "(I)V"⟩ ∈ tbT := sub_5 (List.mem_of_getElem? (i := 14) rfl) rfl
set_option maxRecDepth 100000 in
theorem tw1071 : Cond.code ⟨"FreeLances$Company", "arriveOn", "(I)V"⟩ prog_3_method_7_code 2 none ∈ tbT := sub_5 (List.mem_of_getElem? (i := 15) rfl) rfl
set_option maxRecDepth 100000 in
theorem tw1072 : Cond.methodLink "FreeLances$Company" 61 ⟨"FreeLances$Company", "marches", "()Z"⟩ ∈ tbT := sub_5 (List.mem_of_getElem? (i := 16) rfl) rfl
set_option maxRecDepth 100000 in
theorem tw1073 : Cond.methodLink "FreeLances$World" 151 ⟨"FreeLances$World", "eat", "(LFreeLances$Company;)V"⟩ ∈ tbT := sub_5 (List.mem_of_getElem? (i := 17) rfl) rfl
set_option maxRecDepth 100000 in
theorem tw1075 : Cond.instanceMethod ⟨"FreeLances$World", "eat", "(LFreeLances$Company;)V"⟩ ∈ tbT := sub_5 (List.mem_of_getElem? (i := 19) rfl) rfl
set_option maxRecDepth 100000 in
theorem tw1076 : Cond.code ⟨"FreeLances$World", "eat", "(LFreeLances$Company;)V"⟩ prog_11_method_10_code 6 none ∈ tbT := sub_5 (List.mem_of_getElem? (i := 20) rfl) rfl
set_option maxRecDepth 100000 in
theorem tw1077 : Cond.methodLink "FreeLances$World" 154 ⟨"FreeLances$World", "ail", "(I)V"⟩ ∈ tbT := sub_5 (List.mem_of_getElem? (i := 21) rfl) rfl
set_option maxRecDepth 100000 in
theorem tw1079 : Cond.instanceMethod ⟨"FreeLances$World", "ail", "(I)V"⟩ ∈ tbT := sub_5 (List.mem_of_getElem? (i := 23) rfl) rfl
set_option maxRecDepth 100000 in
theorem tw1080 : Cond.code ⟨"FreeLances$World", "ail", "(I)V"⟩ prog_11_method_11_code 3 none ∈ tbT := sub_5 (List.mem_of_getElem? (i := 24) rfl) rfl
set_option maxRecDepth 100000 in
theorem tw1081 : Cond.methodLink "FreeLances$World" 173 ⟨"FreeLances$World", "turnLeast", "(III)V"⟩ ∈ tbT := sub_5 (List.mem_of_getElem? (i := 25) rfl) rfl
set_option maxRecDepth 100000 in
theorem tw1083 : Cond.instanceMethod ⟨"FreeLances$World", "turnLeast", "(III)V"⟩ ∈ tbT := sub_5 (List.mem_of_getElem? (i := 27) rfl) rfl
set_option maxRecDepth 100000 in
theorem tw1084 : Cond.code ⟨"FreeLances$World", "turnLeast", "(III)V"⟩ prog_11_method_12_code 5 none ∈ tbT := sub_5 (List.mem_of_getElem? (i := 28) rfl) rfl
set_option maxRecDepth 100000 in
theorem tw1085 : Cond.methodLink "FreeLances$World" 177 ⟨"FreeLances$World", "become", "(LFreeLances$Lance;I)V"⟩ ∈ tbT := sub_5 (List.mem_of_getElem? (i := 29) rfl) rfl
set_option maxRecDepth 100000 in
theorem tw1086 : Cond.methodLink "FreeLances$World" 157 ⟨"FreeLances$World", "settle", "(LFreeLances$Bond;)V"⟩ ∈ tbT := sub_5 (List.mem_of_getElem? (i := 30) rfl) rfl
set_option maxRecDepth 100000 in
theorem tw1088 : Cond.instanceMethod ⟨"FreeLances$World", "settle", "(LFreeLances$Bond;)V"⟩ ∈ tbT := sub_5 (List.mem_of_getElem? (i := 32) rfl) rfl
set_option maxRecDepth 100000 in
theorem tw1089 : Cond.code ⟨"FreeLances$World", "settle", "(LFreeLances$Bond;)V"⟩ prog_11_method_13_code 4 none ∈ tbT := sub_5 (List.mem_of_getElem? (i := 33) rfl) rfl
set_option maxRecDepth 100000 in
theorem tw1090 : Cond.methodLink "FreeLances$World" 201 ⟨"FreeLances$World", "due", "(II)I"⟩ ∈ tbT := sub_5 (List.mem_of_getElem? (i := 34) rfl) rfl
set_option maxRecDepth 100000 in
theorem tw1092 : Cond.instanceMethod ⟨"FreeLances$World", "due", "(II)I"⟩ ∈ tbT := sub_5 (List.mem_of_getElem? (i := 36) rfl) rfl
set_option maxRecDepth 100000 in
theorem tw1093 : Cond.code ⟨"FreeLances$World", "due", "(II)I"⟩ prog_11_method_14_code 5 (some .int) ∈ tbT := sub_5 (List.mem_of_getElem? (i := 37) rfl) rfl
set_option maxRecDepth 100000 in
theorem tw1094 : Cond.constant "FreeLances$World" 221 99999 ∈ tbT := sub_5 (List.mem_of_getElem? (i := 38) rfl) rfl
set_option maxRecDepth 100000 in
theorem tw1095 : Cond.methodLink "FreeLances$World" 208 ⟨"FreeLances$World", "coinToCompany", "(III)V"⟩ ∈ tbT := sub_5 (List.mem_of_getElem? (i := 39) rfl) rfl
set_option maxRecDepth 100000 in
theorem tw1099 : Cond.code ⟨"FreeLances", "ahead", "(III)I"⟩ prog_1_method_44_code 6 (some .int) ∈ tbT := sub_5 (List.mem_of_getElem? (i := 43) rfl) rfl
set_option maxRecDepth 100000 in
theorem tw1100 : Cond.methodLink "FreeLances" 409 ⟨"FreeLances$World", "copy", "(LFreeLances$World;)V"⟩ ∈ tbT := sub_5 (List.mem_of_getElem? (i := 44) rfl) rfl
set_option maxRecDepth 100000 in
theorem tw1101 : Cond.instanceMethod ⟨"FreeLances$World", "copy", "(LFreeLances$World;)V"⟩ ∈ tbT := sub_5 (List.mem_of_getElem? (i := 45) rfl) rfl
set_option maxRecDepth 100000 in
theorem tw1102 : Cond.selects "FreeLances$World" ⟨"FreeLances$World", "copy", "(LFreeLances$World;)V"⟩ ⟨"FreeLances$World", "copy", "(LFreeLances$World;)V"⟩ ∈ tbT := sub_5 (List.mem_of_getElem? (i := 46) rfl) rfl
set_option maxRecDepth 100000 in
theorem tw1103 : Cond.code ⟨"FreeLances$World", "copy", "(LFreeLances$World;)V"⟩ prog_11_method_2_code 3 none ∈ tbT := sub_5 (List.mem_of_getElem? (i := 47) rfl) rfl
set_option maxRecDepth 100000 in
theorem tw1104 : Cond.methodLink "FreeLances$World" 93 ⟨"java/lang/System", "arraycopy", "(Ljava/lang/Object;ILjava/lang/Object;II)V"⟩ ∈ tbT := sub_5 (List.mem_of_getElem? (i := 48) rfl) rfl
set_option maxRecDepth 100000 in
theorem tw1105 : Cond.methodLink "FreeLances$World" 99 ⟨"FreeLances$Town", "copy", "(LFreeLances$Town;)V"⟩ ∈ tbT := sub_5 (List.mem_of_getElem? (i := 49) rfl) rfl
set_option maxRecDepth 100000 in
theorem tw1106 : Cond.instanceMethod ⟨"FreeLances$Town", "copy", "(LFreeLances$Town;)V"⟩ ∈ tbT := sub_5 (List.mem_of_getElem? (i := 50) rfl) rfl
set_option maxRecDepth 100000 in
theorem tw1107 : Cond.selects "FreeLances$Town" ⟨"FreeLances$Town", "copy", "(LFreeLances$Town;)V"⟩ ⟨"FreeLances$Town", "copy", "(LFreeLances$Town;)V"⟩ ∈ tbT := sub_5 (List.mem_of_getElem? (i := 51) rfl) rfl
set_option maxRecDepth 100000 in
theorem tw1108 : Cond.code ⟨"FreeLances$Town", "copy", "(LFreeLances$Town;)V"⟩ prog_9_method_3_code 2 none ∈ tbT := sub_5 (List.mem_of_getElem? (i := 52) rfl) rfl
set_option maxRecDepth 100000 in
theorem tw1109 : Cond.methodLink "FreeLances$World" 103 ⟨"FreeLances$Company", "copy", "(LFreeLances$Company;)V"⟩ ∈ tbT := sub_5 (List.mem_of_getElem? (i := 53) rfl) rfl
set_option maxRecDepth 100000 in
theorem tw1110 : Cond.instanceMethod ⟨"FreeLances$Company", "copy", "(LFreeLances$Company;)V"⟩ ∈ tbT := sub_5 (List.mem_of_getElem? (i := 54) rfl) rfl
set_option maxRecDepth 100000 in
theorem tw1111 : Cond.selects "FreeLances$Company" ⟨"FreeLances$Company", "copy", "(LFreeLances$Company;)V"⟩ ⟨"FreeLances$Company", "copy", "(LFreeLances$Company;)V"⟩ ∈ tbT := sub_5 (List.mem_of_getElem? (i := 55) rfl) rfl
set_option maxRecDepth 100000 in
theorem tw1112 : Cond.code ⟨"FreeLances$Company", "copy", "(LFreeLances$Company;)V"⟩ prog_3_method_3_code 2 none ∈ tbT := sub_5 (List.mem_of_getElem? (i := 56) rfl) rfl
set_option maxRecDepth 100000 in
theorem tw1113 : Cond.methodLink "FreeLances$Company" 55 ⟨"java/lang/System", "arraycopy", "(Ljava/lang/Object;ILjava/lang/Object;II)V"⟩ ∈ tbT := sub_5 (List.mem_of_getElem? (i := 57) rfl) rfl
set_option maxRecDepth 100000 in
theorem tw1114 : Cond.methodLink "FreeLances$World" 106 ⟨"FreeLances$Lance", "copy", "(LFreeLances$Lance;)V"⟩ ∈ tbT := sub_5 (List.mem_of_getElem? (i := 58) rfl) rfl
set_option maxRecDepth 100000 in
theorem tw1115 : Cond.instanceMethod ⟨"FreeLances$Lance", "copy", "(LFreeLances$Lance;)V"⟩ ∈ tbT := sub_5 (List.mem_of_getElem? (i := 59) rfl) rfl
set_option maxRecDepth 100000 in
theorem tw1116 : Cond.selects "FreeLances$Lance" ⟨"FreeLances$Lance", "copy", "(LFreeLances$Lance;)V"⟩ ⟨"FreeLances$Lance", "copy", "(LFreeLances$Lance;)V"⟩ ∈ tbT := sub_5 (List.mem_of_getElem? (i := 60) rfl) rfl
set_option maxRecDepth 100000 in
theorem tw1117 : Cond.code ⟨"FreeLances$Lance", "copy", "(LFreeLances$Lance;)V"⟩ prog_4_method_3_code 2 none ∈ tbT := sub_5 (List.mem_of_getElem? (i := 61) rfl) rfl
set_option maxRecDepth 100000 in
theorem tw1118 : Cond.methodLink "FreeLances$World" 109 ⟨"FreeLances$Statute", "copy", "(LFreeLances$Statute;)V"⟩ ∈ tbT := sub_5 (List.mem_of_getElem? (i := 62) rfl) rfl
set_option maxRecDepth 100000 in
theorem tw1119 : Cond.instanceMethod ⟨"FreeLances$Statute", "copy", "(LFreeLances$Statute;)V"⟩ ∈ tbT := sub_5 (List.mem_of_getElem? (i := 63) rfl) rfl
set_option maxRecDepth 100000 in
theorem tw1120 : Cond.selects "FreeLances$Statute" ⟨"FreeLances$Statute", "copy", "(LFreeLances$Statute;)V"⟩ ⟨"FreeLances$Statute", "copy", "(LFreeLances$Statute;)V"⟩ ∈ tbT := sub_5 (List.mem_of_getElem? (i := 64) rfl) rfl
set_option maxRecDepth 100000 in
theorem tw1121 : Cond.code ⟨"FreeLances$Statute", "copy", "(LFreeLances$Statute;)V"⟩ prog_8_method_3_code 2 none ∈ tbT := sub_5 (List.mem_of_getElem? (i := 65) rfl) rfl
set_option maxRecDepth 100000 in
theorem tw1122 : Cond.methodLink "FreeLances$Statute" 31 ⟨"FreeLances$Statute", "begin", "(II[BI)V"⟩ ∈ tbT := sub_5 (List.mem_of_getElem? (i := 66) rfl) rfl
set_option maxRecDepth 100000 in
theorem tw1123 : Cond.methodLink "FreeLances$World" 112 ⟨"FreeLances$Bond", "copy", "(LFreeLances$Bond;)V"⟩ ∈ tbT := sub_5 (List.mem_of_getElem? (i := 67) rfl) rfl
set_option maxRecDepth 100000 in
theorem tw1124 : Cond.instanceMethod ⟨"FreeLances$Bond", "copy", "(LFreeLances$Bond;)V"⟩ ∈ tbT := sub_5 (List.mem_of_getElem? (i := 68) rfl) rfl
set_option maxRecDepth 100000 in
theorem tw1125 : Cond.selects "FreeLances$Bond" ⟨"FreeLances$Bond", "copy", "(LFreeLances$Bond;)V"⟩ ⟨"FreeLances$Bond", "copy", "(LFreeLances$Bond;)V"⟩ ∈ tbT := sub_5 (List.mem_of_getElem? (i := 69) rfl) rfl
set_option maxRecDepth 100000 in
theorem tw1126 : Cond.code ⟨"FreeLances$Bond", "copy", "(LFreeLances$Bond;)V"⟩ prog_2_method_3_code 2 none ∈ tbT := sub_5 (List.mem_of_getElem? (i := 70) rfl) rfl
set_option maxRecDepth 100000 in
theorem tw1130 : Cond.code ⟨"FreeLances", "voice", "(III)I"⟩ prog_1_method_45_code 5 (some .int) ∈ tbT := sub_5 (List.mem_of_getElem? (i := 74) rfl) rfl
set_option maxRecDepth 100000 in
theorem tw1131 : Cond.methodLink "FreeLances" 413 ⟨"FreeLances$Voices", "speak", "(IIIII)I"⟩ ∈ tbT := sub_5 (List.mem_of_getElem? (i := 75) rfl) rfl
set_option maxRecDepth 100000 in
theorem tw1132 : Cond.instanceMethod ⟨"FreeLances$Voices", "speak", "(IIIII)I"⟩ ∈ tbT := sub_5 (List.mem_of_getElem? (i := 76) rfl) rfl
set_option maxRecDepth 100000 in
theorem tw1133 : Cond.selects "FreeLances$Voices" ⟨"FreeLances$Voices", "speak", "(IIIII)I"⟩ ⟨"FreeLances$Voices", "speak", "(IIIII)I"⟩ ∈ tbT := sub_5 (List.mem_of_getElem? (i := 77) rfl) rfl
set_option maxRecDepth 100000 in
theorem tw1134 : Cond.code ⟨"FreeLances$Voices", "speak", "(IIIII)I"⟩ prog_10_method_2_code 6 (some .int) ∈ tbT := sub_5 (List.mem_of_getElem? (i := 78) rfl) rfl
set_option maxRecDepth 100000 in
theorem tw1135 : Cond.methodLink "FreeLances$Voices" 28 ⟨"FreeLances$Voices", "own", "(III)I"⟩ ∈ tbT := sub_5 (List.mem_of_getElem? (i := 79) rfl) rfl
set_option maxRecDepth 100000 in
theorem tw1137 : Cond.instanceMethod ⟨"FreeLances$Voices", "own", "(III)I"⟩ ∈ tbT := sub_5 (List.mem_of_getElem? (i := 81) rfl) rfl
set_option maxRecDepth 100000 in
theorem tw1138 : Cond.code ⟨"FreeLances$Voices", "own", "(III)I"⟩ prog_10_method_3_code 4 (some .int) ∈ tbT := sub_5 (List.mem_of_getElem? (i := 82) rfl) rfl
set_option maxRecDepth 100000 in
theorem tw1139 : Cond.methodLink "FreeLances$Voices" 32 ⟨"FreeLances$Voices", "from", "(IIII)I"⟩ ∈ tbT := sub_5 (List.mem_of_getElem? (i := 83) rfl) rfl
set_option maxRecDepth 100000 in
theorem tw1141 : Cond.instanceMethod ⟨"FreeLances$Voices", "from", "(IIII)I"⟩ ∈ tbT := sub_5 (List.mem_of_getElem? (i := 85) rfl) rfl
set_option maxRecDepth 100000 in
theorem tw1142 : Cond.code ⟨"FreeLances$Voices", "from", "(IIII)I"⟩ prog_10_method_5_code 7 (some .int) ∈ tbT := sub_5 (List.mem_of_getElem? (i := 86) rfl) rfl
set_option maxRecDepth 100000 in
theorem tw1143 : Cond.fieldLinkNest "FreeLances$Voices" 39 "FreeLances" "BODIES" "[I" "FreeLances" ∈ tbT := sub_5 (List.mem_of_getElem? (i := 87) rfl) rfl
set_option maxRecDepth 100000 in
theorem tw1145 : Cond.fieldLinkNest "FreeLances$Voices" 36 "FreeLances" "ABOVE" "[I" "FreeLances" ∈ tbT := sub_5 (List.mem_of_getElem? (i := 89) rfl) rfl
set_option maxRecDepth 100000 in
theorem tw1146 : Cond.methodLink "FreeLances$Voices" 42 ⟨"FreeLances$Voices", "work", "(III)I"⟩ ∈ tbT := sub_5 (List.mem_of_getElem? (i := 90) rfl) rfl
set_option maxRecDepth 100000 in
theorem tw1148 : Cond.instanceMethod ⟨"FreeLances$Voices", "work", "(III)I"⟩ ∈ tbT := sub_5 (List.mem_of_getElem? (i := 92) rfl) rfl
set_option maxRecDepth 100000 in
theorem tw1149 : Cond.code ⟨"FreeLances$Voices", "work", "(III)I"⟩ prog_10_method_6_code 4 (some .int) ∈ tbT := sub_5 (List.mem_of_getElem? (i := 93) rfl) rfl
set_option maxRecDepth 100000 in
theorem tw1150 : Cond.methodLink "FreeLances$Voices" 45 ⟨"FreeLances$Voices", "above", "(IIII)I"⟩ ∈ tbT := sub_5 (List.mem_of_getElem? (i := 94) rfl) rfl
set_option maxRecDepth 100000 in
theorem tw1152 : Cond.instanceMethod ⟨"FreeLances$Voices", "above", "(IIII)I"⟩ ∈ tbT := sub_5 (List.mem_of_getElem? (i := 96) rfl) rfl
set_option maxRecDepth 100000 in
theorem tw1153 : Cond.code ⟨"FreeLances$Voices", "above", "(IIII)I"⟩ prog_10_method_4_code 5 (some .int) ∈ tbT := sub_5 (List.mem_of_getElem? (i := 97) rfl) rfl
set_option maxRecDepth 100000 in
theorem tw1157 : Cond.code ⟨"FreeLances", "trace", "(I)I"⟩ prog_1_method_46_code 2 (some .int) ∈ tbT := sub_5 (List.mem_of_getElem? (i := 101) rfl) rfl
set_option maxRecDepth 100000 in
theorem tw1161 : Cond.code ⟨"FreeLances", "sheet", "(III)I"⟩ prog_1_method_47_code 4 (some .int) ∈ tbT := sub_5 (List.mem_of_getElem? (i := 105) rfl) rfl
set_option maxRecDepth 100000 in
theorem tw1162 : Cond.methodLink "FreeLances" 421 ⟨"FreeLances$Sheet", "begin", "(II)V"⟩ ∈ tbT := sub_5 (List.mem_of_getElem? (i := 106) rfl) rfl
set_option maxRecDepth 100000 in
theorem tw1163 : Cond.instanceMethod ⟨"FreeLances$Sheet", "begin", "(II)V"⟩ ∈ tbT := sub_5 (List.mem_of_getElem? (i := 107) rfl) rfl
set_option maxRecDepth 100000 in
theorem tw1164 : Cond.selects "FreeLances$Sheet" ⟨"FreeLances$Sheet", "begin", "(II)V"⟩ ⟨"FreeLances$Sheet", "begin", "(II)V"⟩ ∈ tbT := sub_5 (List.mem_of_getElem? (i := 108) rfl) rfl
set_option maxRecDepth 100000 in
theorem tw1165 : Cond.code ⟨"FreeLances$Sheet", "begin", "(II)V"⟩ prog_7_method_2_code 4 none ∈ tbT := sub_5 (List.mem_of_getElem? (i := 109) rfl) rfl
set_option maxRecDepth 100000 in
theorem tw1169 : Cond.code ⟨"FreeLances", "put", "(III)I"⟩ prog_1_method_48_code 5 (some .int) ∈ tbT := sub_5 (List.mem_of_getElem? (i := 113) rfl) rfl
set_option maxRecDepth 100000 in
theorem tw1170 : Cond.methodLink "FreeLances" 422 ⟨"FreeLances$Sheet", "cut", "(I)I"⟩ ∈ tbT := sub_5 (List.mem_of_getElem? (i := 114) rfl) rfl
set_option maxRecDepth 100000 in
theorem tw1171 : Cond.instanceMethod ⟨"FreeLances$Sheet", "cut", "(I)I"⟩ ∈ tbT := sub_5 (List.mem_of_getElem? (i := 115) rfl) rfl
set_option maxRecDepth 100000 in
theorem tw1172 : Cond.selects "FreeLances$Sheet" ⟨"FreeLances$Sheet", "cut", "(I)I"⟩ ⟨"FreeLances$Sheet", "cut", "(I)I"⟩ ∈ tbT := sub_5 (List.mem_of_getElem? (i := 116) rfl) rfl
set_option maxRecDepth 100000 in
theorem tw1173 : Cond.code ⟨"FreeLances$Sheet", "cut", "(I)I"⟩ prog_7_method_4_code 2 (some .int) ∈ tbT := sub_5 (List.mem_of_getElem? (i := 117) rfl) rfl
set_option maxRecDepth 100000 in
theorem tw1177 : Cond.code ⟨"FreeLances", "move", "(IIIII)I"⟩ prog_1_method_49_code 8 (some .int) ∈ tbT := sub_5 (List.mem_of_getElem? (i := 121) rfl) rfl
set_option maxRecDepth 100000 in
theorem tw1178 : Cond.methodLink "FreeLances" 428 ⟨"FreeLances$Sheet", "stand", "(II)Z"⟩ ∈ tbT := sub_5 (List.mem_of_getElem? (i := 122) rfl) rfl
set_option maxRecDepth 100000 in
theorem tw1179 : Cond.instanceMethod ⟨"FreeLances$Sheet", "stand", "(II)Z"⟩ ∈ tbT := sub_5 (List.mem_of_getElem? (i := 123) rfl) rfl
set_option maxRecDepth 100000 in
theorem tw1180 : Cond.selects "FreeLances$Sheet" ⟨"FreeLances$Sheet", "stand", "(II)Z"⟩ ⟨"FreeLances$Sheet", "stand", "(II)Z"⟩ ∈ tbT := sub_5 (List.mem_of_getElem? (i := 124) rfl) rfl
set_option maxRecDepth 100000 in
theorem tw1181 : Cond.code ⟨"FreeLances$Sheet", "stand", "(II)Z"⟩ prog_7_method_5_code 3 (some .boolean) ∈ tbT := sub_5 (List.mem_of_getElem? (i := 125) rfl) rfl
set_option maxRecDepth 100000 in
theorem tw1182 : Cond.methodLink "FreeLances" 431 ⟨"java/lang/System", "arraycopy", "(Ljava/lang/Object;ILjava/lang/Object;II)V"⟩ ∈ tbT := sub_5 (List.mem_of_getElem? (i := 126) rfl) rfl
set_option maxRecDepth 100000 in
theorem tw1186 : Cond.code ⟨"FreeLances", "image", "()I"⟩ prog_1_method_50_code 1 (some .int) ∈ tbT := sub_5 (List.mem_of_getElem? (i := 130) rfl) rfl
set_option maxRecDepth 100000 in
theorem tw1190 : Cond.code ⟨"FreeLances", "restore", "()I"⟩ prog_1_method_51_code 1 (some .int) ∈ tbT := sub_5 (List.mem_of_getElem? (i := 134) rfl) rfl
set_option maxRecDepth 100000 in
theorem tw1194 : Cond.code ⟨"FreeLances", "tell", "(I)I"⟩ prog_1_method_52_code 2 (some .int) ∈ tbT := sub_5 (List.mem_of_getElem? (i := 138) rfl) rfl
set_option maxRecDepth 100000 in
theorem tw1198 : Cond.code ⟨"FreeLances", "judge", "()I"⟩ prog_1_method_53_code 2 (some .int) ∈ tbT := sub_5 (List.mem_of_getElem? (i := 142) rfl) rfl
set_option maxRecDepth 100000 in
theorem tw1199 : Cond.methodLink "FreeLances" 443 ⟨"FreeLances$World", "townRowAboveZero", "()Z"⟩ ∈ tbT := sub_5 (List.mem_of_getElem? (i := 143) rfl) rfl
set_option maxRecDepth 100000 in
theorem tw1200 : Cond.instanceMethod ⟨"FreeLances$World", "townRowAboveZero", "()Z"⟩ ∈ tbT := sub_5 (List.mem_of_getElem? (i := 144) rfl) rfl
set_option maxRecDepth 100000 in
theorem tw1201 : Cond.selects "FreeLances$World" ⟨"FreeLances$World", "townRowAboveZero", "()Z"⟩ ⟨"FreeLances$World", "townRowAboveZero", "()Z"⟩ ∈ tbT := sub_5 (List.mem_of_getElem? (i := 145) rfl) rfl
set_option maxRecDepth 100000 in
theorem tw1202 : Cond.code ⟨"FreeLances$World", "townRowAboveZero", "()Z"⟩ prog_11_method_30_code 2 (some .boolean) ∈ tbT := sub_5 (List.mem_of_getElem? (i := 146) rfl) rfl
set_option maxRecDepth 100000 in
theorem tw1203 : Cond.methodLink "FreeLances" 446 ⟨"FreeLances$World", "rowsAboveCost", "()Z"⟩ ∈ tbT := sub_5 (List.mem_of_getElem? (i := 147) rfl) rfl
set_option maxRecDepth 100000 in
theorem tw1204 : Cond.instanceMethod ⟨"FreeLances$World", "rowsAboveCost", "()Z"⟩ ∈ tbT := sub_5 (List.mem_of_getElem? (i := 148) rfl) rfl
set_option maxRecDepth 100000 in
theorem tw1205 : Cond.selects "FreeLances$World" ⟨"FreeLances$World", "rowsAboveCost", "()Z"⟩ ⟨"FreeLances$World", "rowsAboveCost", "()Z"⟩ ∈ tbT := sub_5 (List.mem_of_getElem? (i := 149) rfl) rfl
set_option maxRecDepth 100000 in
theorem tw1206 : Cond.code ⟨"FreeLances$World", "rowsAboveCost", "()Z"⟩ prog_11_method_31_code 5 (some .boolean) ∈ tbT := sub_5 (List.mem_of_getElem? (i := 150) rfl) rfl
set_option maxRecDepth 100000 in
theorem tw1207 : Cond.methodLink "FreeLances" 449 ⟨"FreeLances$World", "rowsTogether", "()J"⟩ ∈ tbT := sub_5 (List.mem_of_getElem? (i := 151) rfl) rfl
set_option maxRecDepth 100000 in
theorem tw1208 : Cond.instanceMethod ⟨"FreeLances$World", "rowsTogether", "()J"⟩ ∈ tbT := sub_5 (List.mem_of_getElem? (i := 152) rfl) rfl
set_option maxRecDepth 100000 in
theorem tw1209 : Cond.selects "FreeLances$World" ⟨"FreeLances$World", "rowsTogether", "()J"⟩ ⟨"FreeLances$World", "rowsTogether", "()J"⟩ ∈ tbT := sub_5 (List.mem_of_getElem? (i := 153) rfl) rfl
set_option maxRecDepth 100000 in
theorem tw1210 : Cond.code ⟨"FreeLances$World", "rowsTogether", "()J"⟩ prog_11_method_32_code 4 (some .long) ∈ tbT := sub_5 (List.mem_of_getElem? (i := 154) rfl) rfl
set_option maxRecDepth 100000 in
theorem tw1214 : Cond.code ⟨"FreeLances", "count", "(I)I"⟩ prog_1_method_54_code 2 (some .int) ∈ tbT := sub_5 (List.mem_of_getElem? (i := 158) rfl) rfl
set_option maxRecDepth 100000 in
theorem tw1215 : Cond.methodLink "FreeLances" 453 ⟨"FreeLances$World", "allCoin", "()I"⟩ ∈ tbT := sub_5 (List.mem_of_getElem? (i := 159) rfl) rfl
set_option maxRecDepth 100000 in
theorem tw1216 : Cond.instanceMethod ⟨"FreeLances$World", "allCoin", "()I"⟩ ∈ tbT := sub_5 (List.mem_of_getElem? (i := 160) rfl) rfl
set_option maxRecDepth 100000 in
theorem tw1217 : Cond.selects "FreeLances$World" ⟨"FreeLances$World", "allCoin", "()I"⟩ ⟨"FreeLances$World", "allCoin", "()I"⟩ ∈ tbT := sub_5 (List.mem_of_getElem? (i := 161) rfl) rfl
set_option maxRecDepth 100000 in
theorem tw1218 : Cond.code ⟨"FreeLances$World", "allCoin", "()I"⟩ prog_11_method_33_code 3 (some .int) ∈ tbT := sub_5 (List.mem_of_getElem? (i := 162) rfl) rfl
set_option maxRecDepth 100000 in
theorem tw1219 : Cond.methodLink "FreeLances" 456 ⟨"FreeLances$World", "allFit", "()I"⟩ ∈ tbT := sub_5 (List.mem_of_getElem? (i := 163) rfl) rfl
set_option maxRecDepth 100000 in
theorem tw1220 : Cond.instanceMethod ⟨"FreeLances$World", "allFit", "()I"⟩ ∈ tbT := sub_5 (List.mem_of_getElem? (i := 164) rfl) rfl
set_option maxRecDepth 100000 in
theorem tw1221 : Cond.selects "FreeLances$World" ⟨"FreeLances$World", "allFit", "()I"⟩ ⟨"FreeLances$World", "allFit", "()I"⟩ ∈ tbT := sub_5 (List.mem_of_getElem? (i := 165) rfl) rfl
set_option maxRecDepth 100000 in
theorem tw1222 : Cond.code ⟨"FreeLances$World", "allFit", "()I"⟩ prog_11_method_34_code 3 (some .int) ∈ tbT := sub_5 (List.mem_of_getElem? (i := 166) rfl) rfl
set_option maxRecDepth 100000 in
theorem tw1223 : Cond.methodLink "FreeLances" 459 ⟨"FreeLances$World", "clashes", "()I"⟩ ∈ tbT := sub_5 (List.mem_of_getElem? (i := 167) rfl) rfl
set_option maxRecDepth 100000 in
theorem tw1224 : Cond.instanceMethod ⟨"FreeLances$World", "clashes", "()I"⟩ ∈ tbT := sub_5 (List.mem_of_getElem? (i := 168) rfl) rfl
set_option maxRecDepth 100000 in
theorem tw1225 : Cond.selects "FreeLances$World" ⟨"FreeLances$World", "clashes", "()I"⟩ ⟨"FreeLances$World", "clashes", "()I"⟩ ∈ tbT := sub_5 (List.mem_of_getElem? (i := 169) rfl) rfl
set_option maxRecDepth 100000 in
theorem tw1226 : Cond.code ⟨"FreeLances$World", "clashes", "()I"⟩ prog_11_method_20_code 4 (some .int) ∈ tbT := sub_5 (List.mem_of_getElem? (i := 170) rfl) rfl
set_option maxRecDepth 100000 in
theorem tw1227 : Cond.methodLink "FreeLances$World" 238 ⟨"FreeLances$World", "clashDay", "(LFreeLances$Bond;LFreeLances$Bond;)I"⟩ ∈ tbT := sub_5 (List.mem_of_getElem? (i := 171) rfl) rfl
set_option maxRecDepth 100000 in
theorem tw1228 : Cond.methodLink "FreeLances" 462 ⟨"FreeLances$World", "allOwed", "()I"⟩ ∈ tbT := sub_5 (List.mem_of_getElem? (i := 172) rfl) rfl
set_option maxRecDepth 100000 in
theorem tw1229 : Cond.instanceMethod ⟨"FreeLances$World", "allOwed", "()I"⟩ ∈ tbT := sub_5 (List.mem_of_getElem? (i := 173) rfl) rfl
set_option maxRecDepth 100000 in
theorem tw1230 : Cond.selects "FreeLances$World" ⟨"FreeLances$World", "allOwed", "()I"⟩ ⟨"FreeLances$World", "allOwed", "()I"⟩ ∈ tbT := sub_5 (List.mem_of_getElem? (i := 174) rfl) rfl
set_option maxRecDepth 100000 in
theorem tw1231 : Cond.code ⟨"FreeLances$World", "allOwed", "()I"⟩ prog_11_method_35_code 3 (some .int) ∈ tbT := sub_5 (List.mem_of_getElem? (i := 175) rfl) rfl
set_option maxRecDepth 100000 in
theorem tw1235 : Cond.code ⟨"FreeLances", "found", "(I)I"⟩ prog_1_method_55_code 2 (some .int) ∈ tbT := sub_5 (List.mem_of_getElem? (i := 179) rfl) rfl
set_option maxRecDepth 100000 in
theorem tw1242 : Cond.fieldLink "FreeLancesModel" 7 "FreeLancesModel" "now" "[I" ∈ tbT := sub_5 (List.mem_of_getElem? (i := 186) rfl) rfl
set_option maxRecDepth 100000 in
theorem tw1243 : Cond.fieldLink "FreeLancesModel" 13 "FreeLancesModel" "kept" "[I" ∈ tbT := sub_5 (List.mem_of_getElem? (i := 187) rfl) rfl
set_option maxRecDepth 100000 in
theorem tw1244 : Cond.fieldLink "FreeLancesModel" 16 "FreeLancesModel" "was" "[I" ∈ tbT := sub_5 (List.mem_of_getElem? (i := 188) rfl) rfl
set_option maxRecDepth 100000 in
theorem tw1245 : Cond.fieldLink "FreeLancesModel" 19 "FreeLancesModel" "found" "[I" ∈ tbT := sub_5 (List.mem_of_getElem? (i := 189) rfl) rfl
set_option maxRecDepth 100000 in
theorem tw1246 : Cond.fieldLink "FreeLancesModel" 311 "FreeLancesModel" "images" "I" ∈ tbT := sub_5 (List.mem_of_getElem? (i := 190) rfl) rfl
set_option maxRecDepth 100000 in
theorem tw1247 : Cond.fieldLink "FreeLancesModel" 22 "FreeLancesModel" "fars" "[I" ∈ tbT := sub_5 (List.mem_of_getElem? (i := 191) rfl) rfl
set_option maxRecDepth 100000 in
theorem tw1248 : Cond.fieldLink "FreeLancesModel" 25 "FreeLancesModel" "acts" "[I" ∈ tbT := sub_5 (List.mem_of_getElem? (i := 192) rfl) rfl
set_option maxRecDepth 100000 in
theorem tw1249 : Cond.fieldLink "FreeLancesModel" 28 "FreeLancesModel" "waits" "[I" ∈ tbT := sub_5 (List.mem_of_getElem? (i := 193) rfl) rfl
set_option maxRecDepth 100000 in
theorem tw1250 : Cond.fieldLink "FreeLancesModel" 31 "FreeLancesModel" "row" "[I" ∈ tbT := sub_5 (List.mem_of_getElem? (i := 194) rfl) rfl
set_option maxRecDepth 100000 in
theorem tw1251 : Cond.fieldLink "FreeLancesModel" 34 "FreeLancesModel" "names" "[I" ∈ tbT := sub_5 (List.mem_of_getElem? (i := 195) rfl) rfl
set_option maxRecDepth 100000 in
theorem tw1252 : Cond.fieldLink "FreeLancesModel" 140 "FreeLancesModel" "acted" "I" ∈ tbT := sub_5 (List.mem_of_getElem? (i := 196) rfl) rfl
set_option maxRecDepth 100000 in
theorem tw1253 : Cond.fieldLink "FreeLancesModel" 144 "FreeLancesModel" "waiting" "I" ∈ tbT := sub_5 (List.mem_of_getElem? (i := 197) rfl) rfl
set_option maxRecDepth 100000 in
theorem tw1254 : Cond.fieldLink "FreeLancesModel" 154 "FreeLancesModel" "place" "I" ∈ tbT := sub_5 (List.mem_of_getElem? (i := 198) rfl) rfl
set_option maxRecDepth 100000 in
theorem tw1255 : Cond.fieldLink "FreeLancesModel" 37 "FreeLancesModel" "places" "[I" ∈ tbT := sub_5 (List.mem_of_getElem? (i := 199) rfl) rfl
set_option maxRecDepth 100000 in
theorem tw1256 : Cond.fieldLink "FreeLancesModel" 40 "FreeLancesModel" "bestPlaces" "[I" ∈ tbT := sub_5 (List.mem_of_getElem? (i := 200) rfl) rfl
set_option maxRecDepth 100000 in
theorem tw1257 : Cond.fieldLink "FreeLancesModel" 245 "FreeLancesModel" "leastCost" "I" ∈ tbT := sub_5 (List.mem_of_getElem? (i := 201) rfl) rfl
set_option maxRecDepth 100000 in
theorem tw1258 : Cond.fieldLink "FreeLancesModel" 43 "FreeLancesModel" "hired" "[I" ∈ tbT := sub_5 (List.mem_of_getElem? (i := 202) rfl) rfl
set_option maxRecDepth 100000 in
theorem tw1259 : Cond.fieldLink "FreeLancesModel" 46 "FreeLancesModel" "bestHired" "[I" ∈ tbT := sub_5 (List.mem_of_getElem? (i := 203) rfl) rfl
set_option maxRecDepth 100000 in
theorem tw1260 : Cond.fieldLink "FreeLancesModel" 49 "FreeLancesModel" "fitOf" "[I" ∈ tbT := sub_5 (List.mem_of_getElem? (i := 204) rfl) rfl
set_option maxRecDepth 100000 in
theorem tw1261 : Cond.fieldLink "FreeLancesModel" 257 "FreeLancesModel" "hireSheet" "I" ∈ tbT := sub_5 (List.mem_of_getElem? (i := 205) rfl) rfl
set_option maxRecDepth 100000 in
theorem tw1262 : Cond.fieldLink "FreeLancesModel" 254 "FreeLancesModel" "leastPaid" "I" ∈ tbT := sub_5 (List.mem_of_getElem? (i := 206) rfl) rfl
set_option maxRecDepth 100000 in
theorem tw1263 : Cond.fieldLink "FreeLancesModel" 52 "FreeLancesModel" "trace" "[I" ∈ tbT := sub_5 (List.mem_of_getElem? (i := 207) rfl) rfl
set_option maxRecDepth 100000 in
theorem tw1264 : Cond.fieldLink "FreeLancesModel" 278 "FreeLancesModel" "traced" "I" ∈ tbT := sub_5 (List.mem_of_getElem? (i := 208) rfl) rfl
set_option maxRecDepth 100000 in
theorem tw1265 : Cond.fieldLink "FreeLancesModel" 55 "FreeLancesModel" "bitsOf" "[I" ∈ tbT := sub_5 (List.mem_of_getElem? (i := 209) rfl) rfl
set_option maxRecDepth 100000 in
theorem tw1266 : Cond.fieldLink "FreeLancesModel" 58 "FreeLancesModel" "sizeOf" "[I" ∈ tbT := sub_5 (List.mem_of_getElem? (i := 210) rfl) rfl
set_option maxRecDepth 100000 in
theorem tw1267 : Cond.fieldLink "FreeLancesModel" 61 "FreeLancesModel" "sheets" "[I" ∈ tbT := sub_5 (List.mem_of_getElem? (i := 211) rfl) rfl
set_option maxRecDepth 100000 in
theorem tw1268 : Cond.fieldLink "FreeLancesModel" 64 "FreeLancesModel" "carried" "[I" ∈ tbT := sub_5 (List.mem_of_getElem? (i := 212) rfl) rfl
set_option maxRecDepth 100000 in
theorem tw1327 : Cond.code ⟨"FreeLancesModel", "town", "(II)I"⟩ prog_13_method_19_code 4 (some .int) ∈ tbT := sub_6 (List.mem_of_getElem? (i := 31) rfl) rfl
set_option maxRecDepth 100000 in
theorem tw1328 : Cond.constant "FreeLancesModel" 72 99999 ∈ tbT := sub_6 (List.mem_of_getElem? (i := 32) rfl) rfl
set_option maxRecDepth 100000 in
theorem tw1329 : Cond.methodLink "FreeLancesModel" 68 ⟨"FreeLancesModel", "in", "(III)Z"⟩ ∈ tbT := sub_6 (List.mem_of_getElem? (i := 33) rfl) rfl
set_option maxRecDepth 100000 in
theorem tw1330 : Cond.static ⟨"FreeLancesModel", "in", "(III)Z"⟩ ∈ tbT := sub_6 (List.mem_of_getElem? (i := 34) rfl) rfl
set_option maxRecDepth 100000 in
theorem tw1331 : Cond.code ⟨"FreeLancesModel", "in", "(III)Z"⟩ prog_13_method_3_code 3 (some .boolean) ∈ tbT := sub_6 (List.mem_of_getElem? (i := 35) rfl) rfl
set_option maxRecDepth 100000 in
theorem tw1332 : Cond.methodLink "FreeLancesModel" 73 ⟨"FreeLancesModel", "finds", "(I)I"⟩ ∈ tbT := sub_6 (List.mem_of_getElem? (i := 36) rfl) rfl
set_option maxRecDepth 100000 in
theorem tw1334 : Cond.instanceMethod ⟨"FreeLancesModel", "finds", "(I)I"⟩ ∈ tbT := sub_6 (List.mem_of_getElem? (i := 38) rfl) rfl
set_option maxRecDepth 100000 in
theorem tw1335 : Cond.code ⟨"FreeLancesModel", "finds", "(I)I"⟩ prog_13_method_4_code 2 (some .int) ∈ tbT := sub_6 (List.mem_of_getElem? (i := 39) rfl) rfl
set_option maxRecDepth 100000 in
theorem tw1336 : Cond.constant "FreeLancesModel" 67 (-1000000) ∈ tbT := sub_6 (List.mem_of_getElem? (i := 40) rfl) rfl
set_option maxRecDepth 100000 in
theorem tw1340 : Cond.code ⟨"FreeLancesModel", "road", "(III)I"⟩ prog_13_method_20_code 5 (some .int) ∈ tbT := sub_6 (List.mem_of_getElem? (i := 44) rfl) rfl
set_option maxRecDepth 100000 in
theorem tw1341 : Cond.methodLink "FreeLancesModel" 77 ⟨"FreeLancesModel", "isTown", "(I)Z"⟩ ∈ tbT := sub_6 (List.mem_of_getElem? (i := 45) rfl) rfl
set_option maxRecDepth 100000 in
theorem tw1343 : Cond.instanceMethod ⟨"FreeLancesModel", "isTown", "(I)Z"⟩ ∈ tbT := sub_6 (List.mem_of_getElem? (i := 47) rfl) rfl
set_option maxRecDepth 100000 in
theorem tw1344 : Cond.code ⟨"FreeLancesModel", "isTown", "(I)Z"⟩ prog_13_method_5_code 2 (some .boolean) ∈ tbT := sub_6 (List.mem_of_getElem? (i := 48) rfl) rfl
set_option maxRecDepth 100000 in
theorem tw1348 : Cond.code ⟨"FreeLancesModel", "far", "(II)I"⟩ prog_13_method_21_code 4 (some .int) ∈ tbT := sub_6 (List.mem_of_getElem? (i := 52) rfl) rfl
set_option maxRecDepth 100000 in
theorem tw1349 : Cond.methodLink "FreeLancesModel" 81 ⟨"FreeLancesModel", "farOf", "(II)I"⟩ ∈ tbT := sub_6 (List.mem_of_getElem? (i := 53) rfl) rfl
set_option maxRecDepth 100000 in
theorem tw1351 : Cond.instanceMethod ⟨"FreeLancesModel", "farOf", "(II)I"⟩ ∈ tbT := sub_6 (List.mem_of_getElem? (i := 55) rfl) rfl
set_option maxRecDepth 100000 in
theorem tw1352 : Cond.code ⟨"FreeLancesModel", "farOf", "(II)I"⟩ prog_13_method_18_code 9 (some .int) ∈ tbT := sub_6 (List.mem_of_getElem? (i := 56) rfl) rfl
set_option maxRecDepth 100000 in
theorem tw1356 : Cond.code ⟨"FreeLancesModel", "townIs", "(II)I"⟩ prog_13_method_22_code 5 (some .int) ∈ tbT := sub_6 (List.mem_of_getElem? (i := 60) rfl) rfl
set_option maxRecDepth 100000 in
theorem tw1357 : Cond.methodLink "FreeLancesModel" 85 ⟨"FreeLancesModel", "ofTown", "(II)I"⟩ ∈ tbT := sub_6 (List.mem_of_getElem? (i := 61) rfl) rfl
set_option maxRecDepth 100000 in
theorem tw1359 : Cond.instanceMethod ⟨"FreeLancesModel", "ofTown", "(II)I"⟩ ∈ tbT := sub_6 (List.mem_of_getElem? (i := 63) rfl) rfl
set_option maxRecDepth 100000 in
theorem tw1360 : Cond.code ⟨"FreeLancesModel", "ofTown", "(II)I"⟩ prog_13_method_10_code 3 (some .int) ∈ tbT := sub_6 (List.mem_of_getElem? (i := 64) rfl) rfl
set_option maxRecDepth 100000 in
theorem tw1361 : Cond.methodLink "FreeLancesModel" 88 ⟨"FreeLancesModel", "own", "(II)I"⟩ ∈ tbT := sub_6 (List.mem_of_getElem? (i := 65) rfl) rfl
set_option maxRecDepth 100000 in
theorem tw1363 : Cond.instanceMethod ⟨"FreeLancesModel", "own", "(II)I"⟩ ∈ tbT := sub_6 (List.mem_of_getElem? (i := 67) rfl) rfl
set_option maxRecDepth 100000 in
theorem tw1364 : Cond.code ⟨"FreeLancesModel", "own", "(II)I"⟩ prog_13_method_12_code 3 (some .int) ∈ tbT := sub_6 (List.mem_of_getElem? (i := 68) rfl) rfl
set_option maxRecDepth 100000 in
theorem tw1368 : Cond.code ⟨"FreeLancesModel", "wall", "(III)I"⟩ prog_13_method_23_code 4 (some .int) ∈ tbT := sub_6 (List.mem_of_getElem? (i := 72) rfl) rfl
set_option maxRecDepth 100000 in
theorem tw1372 : Cond.code ⟨"FreeLancesModel", "harvest", "(II)I"⟩ prog_13_method_24_code 3 (some .int) ∈ tbT := sub_6 (List.mem_of_getElem? (i := 76) rfl) rfl
set_option maxRecDepth 100000 in
theorem tw1373 : Cond.constant "FreeLancesModel" 91 999999 ∈ tbT := sub_6 (List.mem_of_getElem? (i := 77) rfl) rfl
set_option maxRecDepth 100000 in
theorem tw1374 : Cond.methodLink "FreeLancesModel" 92 ⟨"FreeLancesModel", "townGets", "(III)V"⟩ ∈ tbT := sub_6 (List.mem_of_getElem? (i := 78) rfl) rfl
set_option maxRecDepth 100000 in
theorem tw1376 : Cond.instanceMethod ⟨"FreeLancesModel", "townGets", "(III)V"⟩ ∈ tbT := sub_6 (List.mem_of_getElem? (i := 80) rfl) rfl
set_option maxRecDepth 100000 in
theorem tw1377 : Cond.code ⟨"FreeLancesModel", "townGets", "(III)V"⟩ prog_13_method_11_code 4 none ∈ tbT := sub_6 (List.mem_of_getElem? (i := 81) rfl) rfl
set_option maxRecDepth 100000 in
theorem tw1381 : Cond.code ⟨"FreeLancesModel", "company", "(III)I"⟩ prog_13_method_25_code 6 (some .int) ∈ tbT := sub_6 (List.mem_of_getElem? (i := 85) rfl) rfl
set_option maxRecDepth 100000 in
theorem tw1382 : Cond.methodLink "FreeLancesModel" 96 ⟨"FreeLancesModel", "sets", "(III)V"⟩ ∈ tbT := sub_6 (List.mem_of_getElem? (i := 86) rfl) rfl
set_option maxRecDepth 100000 in
theorem tw1384 : Cond.instanceMethod ⟨"FreeLancesModel", "sets", "(III)V"⟩ ∈ tbT := sub_6 (List.mem_of_getElem? (i := 88) rfl) rfl
set_option maxRecDepth 100000 in
theorem tw1385 : Cond.code ⟨"FreeLancesModel", "sets", "(III)V"⟩ prog_13_method_13_code 4 none ∈ tbT := sub_6 (List.mem_of_getElem? (i := 89) rfl) rfl
set_option maxRecDepth 100000 in
theorem tw1389 : Cond.code ⟨"FreeLancesModel", "march", "(II)I"⟩ prog_13_method_26_code 4 (some .int) ∈ tbT := sub_6 (List.mem_of_getElem? (i := 93) rfl) rfl
set_option maxRecDepth 100000 in
theorem tw1390 : Cond.methodLink "FreeLancesModel" 99 ⟨"FreeLancesModel", "isCompany", "(I)Z"⟩ ∈ tbT := sub_6 (List.mem_of_getElem? (i := 94) rfl) rfl
set_option maxRecDepth 100000 in
theorem tw1392 : Cond.instanceMethod ⟨"FreeLancesModel", "isCompany", "(I)Z"⟩ ∈ tbT := sub_6 (List.mem_of_getElem? (i := 96) rfl) rfl
set_option maxRecDepth 100000 in
theorem tw1393 : Cond.code ⟨"FreeLancesModel", "isCompany", "(I)Z"⟩ prog_13_method_6_code 2 (some .boolean) ∈ tbT := sub_6 (List.mem_of_getElem? (i := 97) rfl) rfl
set_option maxRecDepth 100000 in
theorem tw1397 : Cond.code ⟨"FreeLancesModel", "buy", "(II)I"⟩ prog_13_method_27_code 4 (some .int) ∈ tbT := sub_6 (List.mem_of_getElem? (i := 101) rfl) rfl
set_option maxRecDepth 100000 in
theorem tw1401 : Cond.code ⟨"FreeLancesModel", "about", "(II)I"⟩ prog_13_method_32_code 3 (some .int) ∈ tbT := sub_6 (List.mem_of_getElem? (i := 105) rfl) rfl
set_option maxRecDepth 100000 in
theorem tw1402 : Cond.methodLink "FreeLancesModel" 115 ⟨"FreeLancesModel", "manySo", "(II)I"⟩ ∈ tbT := sub_6 (List.mem_of_getElem? (i := 106) rfl) rfl
set_option maxRecDepth 100000 in
theorem tw1404 : Cond.instanceMethod ⟨"FreeLancesModel", "manySo", "(II)I"⟩ ∈ tbT := sub_6 (List.mem_of_getElem? (i := 108) rfl) rfl
set_option maxRecDepth 100000 in
theorem tw1405 : Cond.code ⟨"FreeLancesModel", "manySo", "(II)I"⟩ prog_13_method_28_code 5 (some .int) ∈ tbT := sub_6 (List.mem_of_getElem? (i := 109) rfl) rfl
set_option maxRecDepth 100000 in
theorem tw1406 : Cond.methodLink "FreeLancesModel" 102 ⟨"FreeLancesModel", "its", "(II)I"⟩ ∈ tbT := sub_6 (List.mem_of_getElem? (i := 110) rfl) rfl
set_option maxRecDepth 100000 in
theorem tw1408 : Cond.instanceMethod ⟨"FreeLancesModel", "its", "(II)I"⟩ ∈ tbT := sub_6 (List.mem_of_getElem? (i := 112) rfl) rfl
set_option maxRecDepth 100000 in
theorem tw1409 : Cond.code ⟨"FreeLancesModel", "its", "(II)I"⟩ prog_13_method_14_code 3 (some .int) ∈ tbT := sub_6 (List.mem_of_getElem? (i := 113) rfl) rfl
set_option maxRecDepth 100000 in
theorem tw1410 : Cond.methodLink "FreeLancesModel" 118 ⟨"FreeLancesModel", "servedOn", "(II)I"⟩ ∈ tbT := sub_6 (List.mem_of_getElem? (i := 114) rfl) rfl
set_option maxRecDepth 100000 in
theorem tw1412 : Cond.instanceMethod ⟨"FreeLancesModel", "servedOn", "(II)I"⟩ ∈ tbT := sub_6 (List.mem_of_getElem? (i := 116) rfl) rfl
set_option maxRecDepth 100000 in
theorem tw1413 : Cond.code ⟨"FreeLancesModel", "servedOn", "(II)I"⟩ prog_13_method_31_code 4 (some .int) ∈ tbT := sub_6 (List.mem_of_getElem? (i := 117) rfl) rfl
set_option maxRecDepth 100000 in
theorem tw1414 : Cond.methodLink "FreeLancesModel" 108 ⟨"FreeLancesModel", "isContract", "(I)Z"⟩ ∈ tbT := sub_6 (List.mem_of_getElem? (i := 118) rfl) rfl
set_option maxRecDepth 100000 in
theorem tw1416 : Cond.instanceMethod ⟨"FreeLancesModel", "isContract", "(I)Z"⟩ ∈ tbT := sub_6 (List.mem_of_getElem? (i := 120) rfl) rfl
set_option maxRecDepth 100000 in
theorem tw1417 : Cond.code ⟨"FreeLancesModel", "isContract", "(I)Z"⟩ prog_13_method_29_code 2 (some .boolean) ∈ tbT := sub_6 (List.mem_of_getElem? (i := 121) rfl) rfl
set_option maxRecDepth 100000 in
theorem tw1418 : Cond.methodLink "FreeLancesModel" 105 ⟨"FreeLancesModel", "bond", "(II)I"⟩ ∈ tbT := sub_6 (List.mem_of_getElem? (i := 122) rfl) rfl
set_option maxRecDepth 100000 in
theorem tw1420 : Cond.instanceMethod ⟨"FreeLancesModel", "bond", "(II)I"⟩ ∈ tbT := sub_6 (List.mem_of_getElem? (i := 124) rfl) rfl
set_option maxRecDepth 100000 in
theorem tw1421 : Cond.code ⟨"FreeLancesModel", "bond", "(II)I"⟩ prog_13_method_16_code 3 (some .int) ∈ tbT := sub_6 (List.mem_of_getElem? (i := 125) rfl) rfl
set_option maxRecDepth 100000 in
theorem tw1422 : Cond.methodLink "FreeLancesModel" 111 ⟨"FreeLancesModel", "isIn", "(II)Z"⟩ ∈ tbT := sub_6 (List.mem_of_getElem? (i := 126) rfl) rfl
set_option maxRecDepth 100000 in
theorem tw1424 : Cond.instanceMethod ⟨"FreeLancesModel", "isIn", "(II)Z"⟩ ∈ tbT := sub_6 (List.mem_of_getElem? (i := 128) rfl) rfl
set_option maxRecDepth 100000 in
theorem tw1425 : Cond.code ⟨"FreeLancesModel", "isIn", "(II)Z"⟩ prog_13_method_30_code 3 (some .boolean) ∈ tbT := sub_6 (List.mem_of_getElem? (i := 129) rfl) rfl
set_option maxRecDepth 100000 in
theorem tw1429 : Cond.code ⟨"FreeLancesModel", "lance", "(III)I"⟩ prog_13_method_33_code 5 (some .int) ∈ tbT := sub_6 (List.mem_of_getElem? (i := 133) rfl) rfl
set_option maxRecDepth 100000 in
theorem tw1433 : Cond.code ⟨"FreeLancesModel", "lanceIs", "(II)I"⟩ prog_13_method_34_code 3 (some .int) ∈ tbT := sub_6 (List.mem_of_getElem? (i := 137) rfl) rfl
set_option maxRecDepth 100000 in
theorem tw1434 : Cond.methodLink "FreeLancesModel" 121 ⟨"FreeLancesModel", "isLance", "(I)Z"⟩ ∈ tbT := sub_6 (List.mem_of_getElem? (i := 138) rfl) rfl
set_option maxRecDepth 100000 in
theorem tw1436 : Cond.instanceMethod ⟨"FreeLancesModel", "isLance", "(I)Z"⟩ ∈ tbT := sub_6 (List.mem_of_getElem? (i := 140) rfl) rfl
set_option maxRecDepth 100000 in
theorem tw1437 : Cond.code ⟨"FreeLancesModel", "isLance", "(I)Z"⟩ prog_13_method_7_code 2 (some .boolean) ∈ tbT := sub_6 (List.mem_of_getElem? (i := 141) rfl) rfl
set_option maxRecDepth 100000 in
theorem tw1441 : Cond.code ⟨"FreeLancesModel", "over", "(II)I"⟩ prog_13_method_36_code 4 (some .int) ∈ tbT := sub_6 (List.mem_of_getElem? (i := 145) rfl) rfl
set_option maxRecDepth 100000 in
theorem tw1442 : Cond.methodLink "FreeLancesModel" 131 ⟨"FreeLancesModel", "mayLeave", "(I)Z"⟩ ∈ tbT := sub_6 (List.mem_of_getElem? (i := 146) rfl) rfl
set_option maxRecDepth 100000 in
theorem tw1444 : Cond.instanceMethod ⟨"FreeLancesModel", "mayLeave", "(I)Z"⟩ ∈ tbT := sub_6 (List.mem_of_getElem? (i := 148) rfl) rfl
set_option maxRecDepth 100000 in
theorem tw1445 : Cond.code ⟨"FreeLancesModel", "mayLeave", "(I)Z"⟩ prog_13_method_35_code 5 (some .boolean) ∈ tbT := sub_6 (List.mem_of_getElem? (i := 149) rfl) rfl
set_option maxRecDepth 100000 in
theorem tw1446 : Cond.methodLink "FreeLancesModel" 124 ⟨"FreeLancesModel", "inForce", "(II)I"⟩ ∈ tbT := sub_6 (List.mem_of_getElem? (i := 150) rfl) rfl
set_option maxRecDepth 100000 in
theorem tw1448 : Cond.instanceMethod ⟨"FreeLancesModel", "inForce", "(II)I"⟩ ∈ tbT := sub_6 (List.mem_of_getElem? (i := 152) rfl) rfl
set_option maxRecDepth 100000 in
theorem tw1449 : Cond.code ⟨"FreeLancesModel", "inForce", "(II)I"⟩ prog_13_method_51_code 5 (some .int) ∈ tbT := sub_6 (List.mem_of_getElem? (i := 153) rfl) rfl
set_option maxRecDepth 100000 in
theorem tw1450 : Cond.methodLink "FreeLancesModel" 127 ⟨"FreeLancesModel", "comesTo", "(IIII)I"⟩ ∈ tbT := sub_6 (List.mem_of_getElem? (i := 154) rfl) rfl
set_option maxRecDepth 100000 in
theorem tw1452 : Cond.instanceMethod ⟨"FreeLancesModel", "comesTo", "(IIII)I"⟩ ∈ tbT := sub_6 (List.mem_of_getElem? (i := 156) rfl) rfl
set_option maxRecDepth 100000 in
theorem tw1453 : Cond.code ⟨"FreeLancesModel", "comesTo", "(IIII)I"⟩ prog_13_method_54_code 9 (some .int) ∈ tbT := sub_6 (List.mem_of_getElem? (i := 157) rfl) rfl
set_option maxRecDepth 100000 in
theorem tw1454 : Cond.methodLink "FreeLancesModel" 189 ⟨"FreeLancesModel", "done", "(III)I"⟩ ∈ tbT := sub_6 (List.mem_of_getElem? (i := 158) rfl) rfl
set_option maxRecDepth 100000 in
theorem tw1455 : Cond.static ⟨"FreeLancesModel", "done", "(III)I"⟩ ∈ tbT := sub_6 (List.mem_of_getElem? (i := 159) rfl) rfl
set_option maxRecDepth 100000 in
theorem tw1456 : Cond.code ⟨"FreeLancesModel", "done", "(III)I"⟩ prog_13_method_53_code 3 (some .int) ∈ tbT := sub_6 (List.mem_of_getElem? (i := 160) rfl) rfl
set_option maxRecDepth 100000 in
theorem tw1460 : Cond.code ⟨"FreeLancesModel", "take", "(II)I"⟩ prog_13_method_37_code 3 (some .int) ∈ tbT := sub_6 (List.mem_of_getElem? (i := 164) rfl) rfl
set_option maxRecDepth 100000 in
theorem tw1461 : Cond.methodLink "FreeLancesModel" 134 ⟨"FreeLancesModel", "turns", "(II)V"⟩ ∈ tbT := sub_6 (List.mem_of_getElem? (i := 165) rfl) rfl
set_option maxRecDepth 100000 in
theorem tw1463 : Cond.instanceMethod ⟨"FreeLancesModel", "turns", "(II)V"⟩ ∈ tbT := sub_6 (List.mem_of_getElem? (i := 167) rfl) rfl
set_option maxRecDepth 100000 in
theorem tw1464 : Cond.code ⟨"FreeLancesModel", "turns", "(II)V"⟩ prog_13_method_15_code 3 none ∈ tbT := sub_6 (List.mem_of_getElem? (i := 168) rfl) rfl
set_option maxRecDepth 100000 in
theorem tw1468 : Cond.code ⟨"FreeLancesModel", "feed", "(JI)I"⟩ prog_13_method_38_code 5 (some .int) ∈ tbT := sub_6 (List.mem_of_getElem? (i := 172) rfl) rfl
set_option maxRecDepth 100000 in
theorem tw1469 : Cond.constantLong "FreeLancesModel" 138 255 ∈ tbT := sub_6 (List.mem_of_getElem? (i := 173) rfl) rfl
set_option maxRecDepth 100000 in
theorem tw1473 : Cond.code ⟨"FreeLancesModel", "statute", "(II)I"⟩ prog_13_method_50_code 7 (some .int) ∈ tbT := sub_6 (List.mem_of_getElem? (i := 177) rfl) rfl
set_option maxRecDepth 100000 in
theorem tw1474 : Cond.methodLink "FreeLancesModel" 183 ⟨"FreeLancesModel", "isDay", "(I)Z"⟩ ∈ tbT := sub_6 (List.mem_of_getElem? (i := 178) rfl) rfl
set_option maxRecDepth 100000 in
theorem tw1475 : Cond.static ⟨"FreeLancesModel", "isDay", "(I)Z"⟩ ∈ tbT := sub_6 (List.mem_of_getElem? (i := 179) rfl) rfl
set_option maxRecDepth 100000 in
theorem tw1476 : Cond.code ⟨"FreeLancesModel", "isDay", "(I)Z"⟩ prog_13_method_9_code 1 (some .boolean) ∈ tbT := sub_6 (List.mem_of_getElem? (i := 180) rfl) rfl
set_option maxRecDepth 100000 in
theorem tw1477 : Cond.methodLink "FreeLancesModel" 186 ⟨"FreeLancesModel", "reads", "(I)Z"⟩ ∈ tbT := sub_6 (List.mem_of_getElem? (i := 181) rfl) rfl
set_option maxRecDepth 100000 in
theorem tw1479 : Cond.instanceMethod ⟨"FreeLancesModel", "reads", "(I)Z"⟩ ∈ tbT := sub_6 (List.mem_of_getElem? (i := 183) rfl) rfl
set_option maxRecDepth 100000 in
theorem tw1480 : Cond.code ⟨"FreeLancesModel", "reads", "(I)Z"⟩ prog_13_method_49_code 5 (some .boolean) ∈ tbT := sub_6 (List.mem_of_getElem? (i := 184) rfl) rfl
set_option maxRecDepth 100000 in
theorem tw1481 : Cond.methodLink "FreeLancesModel" 157 ⟨"FreeLancesModel", "byteAt", "(I)I"⟩ ∈ tbT := sub_6 (List.mem_of_getElem? (i := 185) rfl) rfl
set_option maxRecDepth 100000 in
theorem tw1483 : Cond.instanceMethod ⟨"FreeLancesModel", "byteAt", "(I)I"⟩ ∈ tbT := sub_6 (List.mem_of_getElem? (i := 187) rfl) rfl
set_option maxRecDepth 100000 in
theorem tw1484 : Cond.code ⟨"FreeLancesModel", "byteAt", "(I)I"⟩ prog_13_method_39_code 2 (some .int) ∈ tbT := sub_6 (List.mem_of_getElem? (i := 188) rfl) rfl
set_option maxRecDepth 100000 in
theorem tw1485 : Cond.methodLink "FreeLancesModel" 170 ⟨"FreeLancesModel", "readsOne", "(I)I"⟩ ∈ tbT := sub_6 (List.mem_of_getElem? (i := 189) rfl) rfl
set_option maxRecDepth 100000 in
theorem tw1487 : Cond.instanceMethod ⟨"FreeLancesModel", "readsOne", "(I)I"⟩ ∈ tbT := sub_6 (List.mem_of_getElem? (i := 191) rfl) rfl
set_option maxRecDepth 100000 in
theorem tw1488 : Cond.code ⟨"FreeLancesModel", "readsOne", "(I)I"⟩ prog_13_method_48_code 5 (some .int) ∈ tbT := sub_6 (List.mem_of_getElem? (i := 192) rfl) rfl
set_option maxRecDepth 100000 in
theorem tw1489 : Cond.methodLink "FreeLancesModel" 160 ⟨"FreeLancesModel", "openMany", "()I"⟩ ∈ tbT := sub_6 (List.mem_of_getElem? (i := 193) rfl) rfl
set_option maxRecDepth 100000 in
theorem tw1491 : Cond.instanceMethod ⟨"FreeLancesModel", "openMany", "()I"⟩ ∈ tbT := sub_6 (List.mem_of_getElem? (i := 195) rfl) rfl
set_option maxRecDepth 100000 in
theorem tw1492 : Cond.code ⟨"FreeLancesModel", "openMany", "()I"⟩ prog_13_method_45_code 3 (some .int) ∈ tbT := sub_6 (List.mem_of_getElem? (i := 196) rfl) rfl
set_option maxRecDepth 100000 in
theorem tw1493 : Cond.methodLink "FreeLancesModel" 164 ⟨"FreeLancesModel", "nameOf", "(II)I"⟩ ∈ tbT := sub_6 (List.mem_of_getElem? (i := 197) rfl) rfl
set_option maxRecDepth 100000 in
theorem tw1494 : Cond.static ⟨"FreeLancesModel", "nameOf", "(II)I"⟩ ∈ tbT := sub_6 (List.mem_of_getElem? (i := 198) rfl) rfl
set_option maxRecDepth 100000 in
theorem tw1495 : Cond.code ⟨"FreeLancesModel", "nameOf", "(II)I"⟩ prog_13_method_41_code 2 (some .int) ∈ tbT := sub_6 (List.mem_of_getElem? (i := 199) rfl) rfl
set_option maxRecDepth 100000 in
theorem tw1496 : Cond.methodLink "FreeLancesModel" 150 ⟨"FreeLancesModel", "lays", "(I)V"⟩ ∈ tbT := sub_6 (List.mem_of_getElem? (i := 200) rfl) rfl
set_option maxRecDepth 100000 in
theorem tw1498 : Cond.instanceMethod ⟨"FreeLancesModel", "lays", "(I)V"⟩ ∈ tbT := sub_6 (List.mem_of_getElem? (i := 202) rfl) rfl
set_option maxRecDepth 100000 in
theorem tw1499 : Cond.code ⟨"FreeLancesModel", "lays", "(I)V"⟩ prog_13_method_43_code 2 none ∈ tbT := sub_6 (List.mem_of_getElem? (i := 203) rfl) rfl
set_option maxRecDepth 100000 in
theorem tw1500 : Cond.methodLink "FreeLancesModel" 167 ⟨"FreeLancesModel", "isDigit", "(I)Z"⟩ ∈ tbT := sub_6 (List.mem_of_getElem? (i := 204) rfl) rfl
set_option maxRecDepth 100000 in
theorem tw1501 : Cond.static ⟨"FreeLancesModel", "isDigit", "(I)Z"⟩ ∈ tbT := sub_6 (List.mem_of_getElem? (i := 205) rfl) rfl
set_option maxRecDepth 100000 in
theorem tw1502 : Cond.code ⟨"FreeLancesModel", "isDigit", "(I)Z"⟩ prog_13_method_40_code 1 (some .boolean) ∈ tbT := sub_6 (List.mem_of_getElem? (i := 206) rfl) rfl
set_option maxRecDepth 100000 in
theorem tw1503 : Cond.methodLink "FreeLancesModel" 173 ⟨"FreeLancesModel", "settles", "(I)V"⟩ ∈ tbT := sub_6 (List.mem_of_getElem? (i := 207) rfl) rfl
set_option maxRecDepth 100000 in
theorem tw1505 : Cond.instanceMethod ⟨"FreeLancesModel", "settles", "(I)V"⟩ ∈ tbT := sub_6 (List.mem_of_getElem? (i := 209) rfl) rfl
set_option maxRecDepth 100000 in
theorem tw1506 : Cond.code ⟨"FreeLancesModel", "settles", "(I)V"⟩ prog_13_method_44_code 2 none ∈ tbT := sub_6 (List.mem_of_getElem? (i := 210) rfl) rfl
set_option maxRecDepth 100000 in
theorem tw1507 : Cond.methodLink "FreeLancesModel" 147 ⟨"FreeLancesModel", "rankOf", "(I)I"⟩ ∈ tbT := sub_6 (List.mem_of_getElem? (i := 211) rfl) rfl
set_option maxRecDepth 100000 in
theorem tw1508 : Cond.static ⟨"FreeLancesModel", "rankOf", "(I)I"⟩ ∈ tbT := sub_6 (List.mem_of_getElem? (i := 212) rfl) rfl
set_option maxRecDepth 100000 in
theorem tw1509 : Cond.code ⟨"FreeLancesModel", "rankOf", "(I)I"⟩ prog_13_method_42_code 1 (some .int) ∈ tbT := sub_6 (List.mem_of_getElem? (i := 213) rfl) rfl
set_option maxRecDepth 100000 in
theorem tw1510 : Cond.methodLink "FreeLancesModel" 176 ⟨"FreeLancesModel", "hasOpen", "()Z"⟩ ∈ tbT := sub_6 (List.mem_of_getElem? (i := 214) rfl) rfl
set_option maxRecDepth 100000 in
theorem tw1512 : Cond.instanceMethod ⟨"FreeLancesModel", "hasOpen", "()Z"⟩ ∈ tbT := sub_6 (List.mem_of_getElem? (i := 216) rfl) rfl
set_option maxRecDepth 100000 in
theorem tw1513 : Cond.code ⟨"FreeLancesModel", "hasOpen", "()Z"⟩ prog_13_method_47_code 2 (some .boolean) ∈ tbT := sub_6 (List.mem_of_getElem? (i := 217) rfl) rfl
set_option maxRecDepth 100000 in
theorem tw1514 : Cond.methodLink "FreeLancesModel" 180 ⟨"FreeLancesModel", "isTested", "()Z"⟩ ∈ tbT := sub_6 (List.mem_of_getElem? (i := 218) rfl) rfl
set_option maxRecDepth 100000 in
theorem tw1516 : Cond.instanceMethod ⟨"FreeLancesModel", "isTested", "()Z"⟩ ∈ tbT := sub_6 (List.mem_of_getElem? (i := 220) rfl) rfl
set_option maxRecDepth 100000 in
theorem tw1517 : Cond.code ⟨"FreeLancesModel", "isTested", "()Z"⟩ prog_13_method_46_code 2 (some .boolean) ∈ tbT := sub_6 (List.mem_of_getElem? (i := 221) rfl) rfl
set_option maxRecDepth 100000 in
theorem tw1521 : Cond.code ⟨"FreeLancesModel", "force", "(II)I"⟩ prog_13_method_52_code 4 (some .int) ∈ tbT := sub_6 (List.mem_of_getElem? (i := 225) rfl) rfl
set_option maxRecDepth 100000 in
theorem tw1525 : Cond.code ⟨"FreeLancesModel", "says", "(IIII)I"⟩ prog_13_method_55_code 5 (some .int) ∈ tbT := sub_6 (List.mem_of_getElem? (i := 229) rfl) rfl
set_option maxRecDepth 100000 in
theorem tw1529 : Cond.code ⟨"FreeLancesModel", "contract", "(IIII)I"⟩ prog_13_method_59_code 8 (some .int) ∈ tbT := sub_6 (List.mem_of_getElem? (i := 233) rfl) rfl
set_option maxRecDepth 100000 in
theorem tw1530 : Cond.methodLink "FreeLancesModel" 196 ⟨"FreeLancesModel", "areDays", "(II)Z"⟩ ∈ tbT := sub_6 (List.mem_of_getElem? (i := 234) rfl) rfl
set_option maxRecDepth 100000 in
theorem tw1531 : Cond.static ⟨"FreeLancesModel", "areDays", "(II)Z"⟩ ∈ tbT := sub_6 (List.mem_of_getElem? (i := 235) rfl) rfl
set_option maxRecDepth 100000 in
theorem tw1532 : Cond.code ⟨"FreeLancesModel", "areDays", "(II)Z"⟩ prog_13_method_56_code 2 (some .boolean) ∈ tbT := sub_6 (List.mem_of_getElem? (i := 236) rfl) rfl
set_option maxRecDepth 100000 in
theorem tw1533 : Cond.methodLink "FreeLancesModel" 199 ⟨"FreeLancesModel", "isFull", "()Z"⟩ ∈ tbT := sub_6 (List.mem_of_getElem? (i := 237) rfl) rfl
set_option maxRecDepth 100000 in
theorem tw1535 : Cond.instanceMethod ⟨"FreeLancesModel", "isFull", "()Z"⟩ ∈ tbT := sub_6 (List.mem_of_getElem? (i := 239) rfl) rfl
set_option maxRecDepth 100000 in
theorem tw1536 : Cond.code ⟨"FreeLancesModel", "isFull", "()Z"⟩ prog_13_method_58_code 1 (some .boolean) ∈ tbT := sub_7 (List.mem_of_getElem? (i := 0) rfl) rfl
set_option maxRecDepth 100000 in
theorem tw1537 : Cond.methodLink "FreeLancesModel" 202 ⟨"FreeLancesModel", "newBond", "(IIIIIIII)I"⟩ ∈ tbT := sub_7 (List.mem_of_getElem? (i := 1) rfl) rfl
set_option maxRecDepth 100000 in
theorem tw1539 : Cond.instanceMethod ⟨"FreeLancesModel", "newBond", "(IIIIIIII)I"⟩ ∈ tbT := sub_7 (List.mem_of_getElem? (i := 3) rfl) rfl
set_option maxRecDepth 100000 in
theorem tw1540 : Cond.code ⟨"FreeLancesModel", "newBond", "(IIIIIIII)I"⟩ prog_13_method_57_code 10 (some .int) ∈ tbT := sub_7 (List.mem_of_getElem? (i := 4) rfl) rfl
set_option maxRecDepth 100000 in
theorem tw1541 : Cond.methodLink "FreeLancesModel" 193 ⟨"FreeLancesModel", "writes", "(III)V"⟩ ∈ tbT := sub_7 (List.mem_of_getElem? (i := 5) rfl) rfl
set_option maxRecDepth 100000 in
theorem tw1543 : Cond.instanceMethod ⟨"FreeLancesModel", "writes", "(III)V"⟩ ∈ tbT := sub_7 (List.mem_of_getElem? (i := 7) rfl) rfl
set_option maxRecDepth 100000 in
theorem tw1544 : Cond.code ⟨"FreeLancesModel", "writes", "(III)V"⟩ prog_13_method_17_code 4 none ∈ tbT := sub_7 (List.mem_of_getElem? (i := 8) rfl) rfl
set_option maxRecDepth 100000 in
theorem tw1548 : Cond.code ⟨"FreeLancesModel", "renew", "(III)I"⟩ prog_13_method_60_code 4 (some .int) ∈ tbT := sub_7 (List.mem_of_getElem? (i := 12) rfl) rfl
set_option maxRecDepth 100000 in
theorem tw1549 : Cond.methodLink "FreeLancesModel" 206 ⟨"FreeLancesModel", "isBond", "(I)Z"⟩ ∈ tbT := sub_7 (List.mem_of_getElem? (i := 13) rfl) rfl
set_option maxRecDepth 100000 in
theorem tw1551 : Cond.instanceMethod ⟨"FreeLancesModel", "isBond", "(I)Z"⟩ ∈ tbT := sub_7 (List.mem_of_getElem? (i := 15) rfl) rfl
set_option maxRecDepth 100000 in
theorem tw1552 : Cond.code ⟨"FreeLancesModel", "isBond", "(I)Z"⟩ prog_13_method_8_code 2 (some .boolean) ∈ tbT := sub_7 (List.mem_of_getElem? (i := 16) rfl) rfl
set_option maxRecDepth 100000 in
theorem tw1556 : Cond.code ⟨"FreeLancesModel", "advance", "(II)I"⟩ prog_13_method_62_code 3 (some .int) ∈ tbT := sub_7 (List.mem_of_getElem? (i := 20) rfl) rfl
set_option maxRecDepth 100000 in
theorem tw1557 : Cond.methodLink "FreeLancesModel" 209 ⟨"FreeLancesModel", "gives", "(III)V"⟩ ∈ tbT := sub_7 (List.mem_of_getElem? (i := 21) rfl) rfl
set_option maxRecDepth 100000 in
theorem tw1559 : Cond.instanceMethod ⟨"FreeLancesModel", "gives", "(III)V"⟩ ∈ tbT := sub_7 (List.mem_of_getElem? (i := 23) rfl) rfl
set_option maxRecDepth 100000 in
theorem tw1560 : Cond.code ⟨"FreeLancesModel", "gives", "(III)V"⟩ prog_13_method_61_code 4 none ∈ tbT := sub_7 (List.mem_of_getElem? (i := 24) rfl) rfl
set_option maxRecDepth 100000 in
theorem tw1564 : Cond.code ⟨"FreeLancesModel", "truce", "(IIII)I"⟩ prog_13_method_63_code 5 (some .int) ∈ tbT := sub_7 (List.mem_of_getElem? (i := 28) rfl) rfl
set_option maxRecDepth 100000 in
theorem tw1568 : Cond.code ⟨"FreeLancesModel", "safe", "(IIIII)I"⟩ prog_13_method_64_code 6 (some .int) ∈ tbT := sub_7 (List.mem_of_getElem? (i := 32) rfl) rfl
set_option maxRecDepth 100000 in
theorem tw1572 : Cond.code ⟨"FreeLancesModel", "ransom", "(II)I"⟩ prog_13_method_65_code 5 (some .int) ∈ tbT := sub_7 (List.mem_of_getElem? (i := 36) rfl) rfl
set_option maxRecDepth 100000 in
theorem tw1576 : Cond.code ⟨"FreeLancesModel", "as", "(II)I"⟩ prog_13_method_66_code 4 (some .int) ∈ tbT := sub_7 (List.mem_of_getElem? (i := 40) rfl) rfl
set_option maxRecDepth 100000 in
theorem tw1580 : Cond.code ⟨"FreeLancesModel", "bondIs", "(II)I"⟩ prog_13_method_67_code 3 (some .int) ∈ tbT := sub_7 (List.mem_of_getElem? (i := 44) rfl) rfl
set_option maxRecDepth 100000 in
theorem tw1584 : Cond.code ⟨"FreeLancesModel", "stop", "(II)I"⟩ prog_13_method_69_code 3 (some .int) ∈ tbT := sub_7 (List.mem_of_getElem? (i := 48) rfl) rfl
set_option maxRecDepth 100000 in
theorem tw1585 : Cond.methodLink "FreeLancesModel" 212 ⟨"FreeLancesModel", "owes", "(II)V"⟩ ∈ tbT := sub_7 (List.mem_of_getElem? (i := 49) rfl) rfl
set_option maxRecDepth 100000 in
theorem tw1587 : Cond.instanceMethod ⟨"FreeLancesModel", "owes", "(II)V"⟩ ∈ tbT := sub_7 (List.mem_of_getElem? (i := 51) rfl) rfl
set_option maxRecDepth 100000 in
theorem tw1588 : Cond.code ⟨"FreeLancesModel", "owes", "(II)V"⟩ prog_13_method_68_code 3 none ∈ tbT := sub_7 (List.mem_of_getElem? (i := 52) rfl) rfl
set_option maxRecDepth 100000 in
theorem tw1592 : Cond.code ⟨"FreeLancesModel", "pay", "(II)I"⟩ prog_13_method_70_code 3 (some .int) ∈ tbT := sub_7 (List.mem_of_getElem? (i := 56) rfl) rfl
set_option maxRecDepth 100000 in
theorem tw1596 : Cond.code ⟨"FreeLancesModel", "serves", "(II)I"⟩ prog_13_method_71_code 4 (some .int) ∈ tbT := sub_7 (List.mem_of_getElem? (i := 60) rfl) rfl
set_option maxRecDepth 100000 in
theorem tw1600 : Cond.code ⟨"FreeLancesModel", "clash", "(II)I"⟩ prog_13_method_76_code 7 (some .int) ∈ tbT := sub_7 (List.mem_of_getElem? (i := 64) rfl) rfl
set_option maxRecDepth 100000 in
theorem tw1601 : Cond.methodLink "FreeLancesModel" 224 ⟨"FreeLancesModel", "clashOf", "(II)I"⟩ ∈ tbT := sub_7 (List.mem_of_getElem? (i := 65) rfl) rfl
set_option maxRecDepth 100000 in
theorem tw1603 : Cond.instanceMethod ⟨"FreeLancesModel", "clashOf", "(II)I"⟩ ∈ tbT := sub_7 (List.mem_of_getElem? (i := 67) rfl) rfl
set_option maxRecDepth 100000 in
theorem tw1604 : Cond.code ⟨"FreeLancesModel", "clashOf", "(II)I"⟩ prog_13_method_75_code 3 (some .int) ∈ tbT := sub_7 (List.mem_of_getElem? (i := 68) rfl) rfl
set_option maxRecDepth 100000 in
theorem tw1605 : Cond.methodLink "FreeLancesModel" 218 ⟨"FreeLancesModel", "both", "(II)I"⟩ ∈ tbT := sub_7 (List.mem_of_getElem? (i := 69) rfl) rfl
set_option maxRecDepth 100000 in
theorem tw1607 : Cond.instanceMethod ⟨"FreeLancesModel", "both", "(II)I"⟩ ∈ tbT := sub_7 (List.mem_of_getElem? (i := 71) rfl) rfl
set_option maxRecDepth 100000 in
theorem tw1608 : Cond.code ⟨"FreeLancesModel", "both", "(II)I"⟩ prog_13_method_73_code 4 (some .int) ∈ tbT := sub_7 (List.mem_of_getElem? (i := 72) rfl) rfl
set_option maxRecDepth 100000 in
theorem tw1609 : Cond.methodLink "FreeLancesModel" 215 ⟨"FreeLancesModel", "greater", "(II)I"⟩ ∈ tbT := sub_7 (List.mem_of_getElem? (i := 73) rfl) rfl
set_option maxRecDepth 100000 in
theorem tw1610 : Cond.static ⟨"FreeLancesModel", "greater", "(II)I"⟩ ∈ tbT := sub_7 (List.mem_of_getElem? (i := 74) rfl) rfl
set_option maxRecDepth 100000 in
theorem tw1611 : Cond.code ⟨"FreeLancesModel", "greater", "(II)I"⟩ prog_13_method_72_code 2 (some .int) ∈ tbT := sub_7 (List.mem_of_getElem? (i := 75) rfl) rfl
set_option maxRecDepth 100000 in
theorem tw1612 : Cond.methodLink "FreeLancesModel" 221 ⟨"FreeLancesModel", "clashes", "(II)I"⟩ ∈ tbT := sub_7 (List.mem_of_getElem? (i := 76) rfl) rfl
set_option maxRecDepth 100000 in
theorem tw1614 : Cond.instanceMethod ⟨"FreeLancesModel", "clashes", "(II)I"⟩ ∈ tbT := sub_7 (List.mem_of_getElem? (i := 78) rfl) rfl
set_option maxRecDepth 100000 in
theorem tw1615 : Cond.code ⟨"FreeLancesModel", "clashes", "(II)I"⟩ prog_13_method_74_code 10 (some .int) ∈ tbT := sub_7 (List.mem_of_getElem? (i := 79) rfl) rfl
set_option maxRecDepth 100000 in
theorem tw1619 : Cond.code ⟨"FreeLancesModel", "free", "(IZ)I"⟩ prog_13_method_77_code 8 (some .int) ∈ tbT := sub_7 (List.mem_of_getElem? (i := 83) rfl) rfl
set_option maxRecDepth 100000 in
theorem tw1623 : Cond.code ⟨"FreeLancesModel", "muster", "(II)I"⟩ prog_13_method_80_code 9 (some .int) ∈ tbT := sub_7 (List.mem_of_getElem? (i := 87) rfl) rfl
set_option maxRecDepth 100000 in
theorem tw1624 : Cond.methodLink "FreeLancesModel" 227 ⟨"FreeLancesModel", "isSheet", "(I)Z"⟩ ∈ tbT := sub_7 (List.mem_of_getElem? (i := 88) rfl) rfl
set_option maxRecDepth 100000 in
theorem tw1625 : Cond.static ⟨"FreeLancesModel", "isSheet", "(I)Z"⟩ ∈ tbT := sub_7 (List.mem_of_getElem? (i := 89) rfl) rfl
set_option maxRecDepth 100000 in
theorem tw1626 : Cond.code ⟨"FreeLancesModel", "isSheet", "(I)Z"⟩ prog_13_method_115_code 1 (some .boolean) ∈ tbT := sub_7 (List.mem_of_getElem? (i := 90) rfl) rfl
set_option maxRecDepth 100000 in
theorem tw1627 : Cond.methodLink "FreeLancesModel" 230 ⟨"FreeLancesModel", "marked", "(II)I"⟩ ∈ tbT := sub_7 (List.mem_of_getElem? (i := 91) rfl) rfl
set_option maxRecDepth 100000 in
theorem tw1629 : Cond.instanceMethod ⟨"FreeLancesModel", "marked", "(II)I"⟩ ∈ tbT := sub_7 (List.mem_of_getElem? (i := 93) rfl) rfl
set_option maxRecDepth 100000 in
theorem tw1630 : Cond.code ⟨"FreeLancesModel", "marked", "(II)I"⟩ prog_13_method_79_code 4 (some .int) ∈ tbT := sub_7 (List.mem_of_getElem? (i := 94) rfl) rfl
set_option maxRecDepth 100000 in
theorem tw1631 : Cond.methodLink "FreeLancesModel" 233 ⟨"FreeLancesModel", "counts", "(I)Z"⟩ ∈ tbT := sub_7 (List.mem_of_getElem? (i := 95) rfl) rfl
set_option maxRecDepth 100000 in
theorem tw1633 : Cond.instanceMethod ⟨"FreeLancesModel", "counts", "(I)Z"⟩ ∈ tbT := sub_7 (List.mem_of_getElem? (i := 97) rfl) rfl
set_option maxRecDepth 100000 in
theorem tw1634 : Cond.code ⟨"FreeLancesModel", "counts", "(I)Z"⟩ prog_13_method_78_code 3 (some .boolean) ∈ tbT := sub_7 (List.mem_of_getElem? (i := 98) rfl) rfl
set_option maxRecDepth 100000 in
theorem tw1638 : Cond.code ⟨"FreeLancesModel", "twice", "(III)I"⟩ prog_13_method_83_code 4 (some .int) ∈ tbT := sub_7 (List.mem_of_getElem? (i := 102) rfl) rfl
set_option maxRecDepth 100000 in
theorem tw1639 : Cond.methodLink "FreeLancesModel" 239 ⟨"FreeLancesModel", "twiceOf", "(III)I"⟩ ∈ tbT := sub_7 (List.mem_of_getElem? (i := 103) rfl) rfl
set_option maxRecDepth 100000 in
theorem tw1641 : Cond.instanceMethod ⟨"FreeLancesModel", "twiceOf", "(III)I"⟩ ∈ tbT := sub_7 (List.mem_of_getElem? (i := 105) rfl) rfl
set_option maxRecDepth 100000 in
theorem tw1642 : Cond.code ⟨"FreeLancesModel", "twiceOf", "(III)I"⟩ prog_13_method_82_code 6 (some .int) ∈ tbT := sub_7 (List.mem_of_getElem? (i := 106) rfl) rfl
set_option maxRecDepth 100000 in
theorem tw1643 : Cond.methodLink "FreeLancesModel" 236 ⟨"FreeLancesModel", "isShown", "(II)Z"⟩ ∈ tbT := sub_7 (List.mem_of_getElem? (i := 107) rfl) rfl
set_option maxRecDepth 100000 in
theorem tw1645 : Cond.instanceMethod ⟨"FreeLancesModel", "isShown", "(II)Z"⟩ ∈ tbT := sub_7 (List.mem_of_getElem? (i := 109) rfl) rfl
set_option maxRecDepth 100000 in
theorem tw1646 : Cond.code ⟨"FreeLancesModel", "isShown", "(II)Z"⟩ prog_13_method_81_code 4 (some .boolean) ∈ tbT := sub_7 (List.mem_of_getElem? (i := 110) rfl) rfl
set_option maxRecDepth 100000 in
theorem tw1650 : Cond.code ⟨"FreeLancesModel", "shown", "(I)I"⟩ prog_13_method_84_code 6 (some .int) ∈ tbT := sub_7 (List.mem_of_getElem? (i := 114) rfl) rfl
set_option maxRecDepth 100000 in
theorem tw1654 : Cond.code ⟨"FreeLancesModel", "hold", "(IIIZ)I"⟩ prog_13_method_85_code 8 (some .int) ∈ tbT := sub_7 (List.mem_of_getElem? (i := 118) rfl) rfl
set_option maxRecDepth 100000 in
theorem tw1658 : Cond.code ⟨"FreeLancesModel", "ask", "(III)I"⟩ prog_13_method_87_code 13 (some .int) ∈ tbT := sub_7 (List.mem_of_getElem? (i := 122) rfl) rfl
set_option maxRecDepth 100000 in
theorem tw1659 : Cond.methodLink "FreeLancesModel" 242 ⟨"FreeLancesModel", "isOfThrees", "(II)Z"⟩ ∈ tbT := sub_7 (List.mem_of_getElem? (i := 123) rfl) rfl
set_option maxRecDepth 100000 in
theorem tw1661 : Cond.instanceMethod ⟨"FreeLancesModel", "isOfThrees", "(II)Z"⟩ ∈ tbT := sub_7 (List.mem_of_getElem? (i := 125) rfl) rfl
set_option maxRecDepth 100000 in
theorem tw1662 : Cond.code ⟨"FreeLancesModel", "isOfThrees", "(II)Z"⟩ prog_13_method_86_code 5 (some .boolean) ∈ tbT := sub_7 (List.mem_of_getElem? (i := 126) rfl) rfl
set_option maxRecDepth 100000 in
theorem tw1666 : Cond.code ⟨"FreeLancesModel", "parts", "(III)I"⟩ prog_13_method_88_code 11 (some .int) ∈ tbT := sub_7 (List.mem_of_getElem? (i := 130) rfl) rfl
set_option maxRecDepth 100000 in
theorem tw1670 : Cond.code ⟨"FreeLancesModel", "share", "(I)I"⟩ prog_13_method_89_code 4 (some .int) ∈ tbT := sub_7 (List.mem_of_getElem? (i := 134) rfl) rfl
set_option maxRecDepth 100000 in
theorem tw1674 : Cond.code ⟨"FreeLancesModel", "winter", "(III)I"⟩ prog_13_method_90_code 5 (some .int) ∈ tbT := sub_7 (List.mem_of_getElem? (i := 138) rfl) rfl
set_option maxRecDepth 100000 in
theorem tw1678 : Cond.code ⟨"FreeLancesModel", "wintering", "(I)I"⟩ prog_13_method_93_code 2 (some .int) ∈ tbT := sub_7 (List.mem_of_getElem? (i := 142) rfl) rfl
set_option maxRecDepth 100000 in
theorem tw1679 : Cond.methodLink "FreeLancesModel" 251 ⟨"FreeLancesModel", "findWinter", "()V"⟩ ∈ tbT := sub_7 (List.mem_of_getElem? (i := 143) rfl) rfl
set_option maxRecDepth 100000 in
theorem tw1681 : Cond.instanceMethod ⟨"FreeLancesModel", "findWinter", "()V"⟩ ∈ tbT := sub_7 (List.mem_of_getElem? (i := 145) rfl) rfl
set_option maxRecDepth 100000 in
theorem tw1682 : Cond.code ⟨"FreeLancesModel", "findWinter", "()V"⟩ prog_13_method_92_code 1 none ∈ tbT := sub_7 (List.mem_of_getElem? (i := 146) rfl) rfl
set_option maxRecDepth 100000 in
theorem tw1683 : Cond.methodLink "FreeLancesModel" 248 ⟨"FreeLancesModel", "settle", "(III)V"⟩ ∈ tbT := sub_7 (List.mem_of_getElem? (i := 147) rfl) rfl
set_option maxRecDepth 100000 in
theorem tw1685 : Cond.instanceMethod ⟨"FreeLancesModel", "settle", "(III)V"⟩ ∈ tbT := sub_7 (List.mem_of_getElem? (i := 149) rfl) rfl
set_option maxRecDepth 100000 in
theorem tw1686 : Cond.code ⟨"FreeLancesModel", "settle", "(III)V"⟩ prog_13_method_91_code 5 none ∈ tbT := sub_7 (List.mem_of_getElem? (i := 150) rfl) rfl
set_option maxRecDepth 100000 in
theorem tw1690 : Cond.code ⟨"FreeLancesModel", "hiring", "(II)I"⟩ prog_13_method_95_code 4 (some .int) ∈ tbT := sub_7 (List.mem_of_getElem? (i := 154) rfl) rfl
set_option maxRecDepth 100000 in
theorem tw1691 : Cond.methodLink "FreeLancesModel" 260 ⟨"FreeLancesModel", "hires", "(III)V"⟩ ∈ tbT := sub_7 (List.mem_of_getElem? (i := 155) rfl) rfl
set_option maxRecDepth 100000 in
theorem tw1693 : Cond.instanceMethod ⟨"FreeLancesModel", "hires", "(III)V"⟩ ∈ tbT := sub_7 (List.mem_of_getElem? (i := 157) rfl) rfl
set_option maxRecDepth 100000 in
theorem tw1694 : Cond.code ⟨"FreeLancesModel", "hires", "(III)V"⟩ prog_13_method_94_code 8 none ∈ tbT := sub_7 (List.mem_of_getElem? (i := 158) rfl) rfl
set_option maxRecDepth 100000 in
theorem tw1698 : Cond.code ⟨"FreeLancesModel", "days", "(I)I"⟩ prog_13_method_100_code 2 (some .int) ∈ tbT := sub_7 (List.mem_of_getElem? (i := 162) rfl) rfl
set_option maxRecDepth 100000 in
theorem tw1699 : Cond.methodLink "FreeLancesModel" 272 ⟨"FreeLancesModel", "run", "(I)V"⟩ ∈ tbT := sub_7 (List.mem_of_getElem? (i := 163) rfl) rfl
set_option maxRecDepth 100000 in
theorem tw1701 : Cond.instanceMethod ⟨"FreeLancesModel", "run", "(I)V"⟩ ∈ tbT := sub_7 (List.mem_of_getElem? (i := 165) rfl) rfl
set_option maxRecDepth 100000 in
theorem tw1702 : Cond.code ⟨"FreeLancesModel", "run", "(I)V"⟩ prog_13_method_99_code 4 none ∈ tbT := sub_7 (List.mem_of_getElem? (i := 166) rfl) rfl
set_option maxRecDepth 100000 in
theorem tw1703 : Cond.methodLink "FreeLancesModel" 266 ⟨"FreeLancesModel", "eats", "(I)V"⟩ ∈ tbT := sub_7 (List.mem_of_getElem? (i := 167) rfl) rfl
set_option maxRecDepth 100000 in
theorem tw1705 : Cond.instanceMethod ⟨"FreeLancesModel", "eats", "(I)V"⟩ ∈ tbT := sub_7 (List.mem_of_getElem? (i := 169) rfl) rfl
set_option maxRecDepth 100000 in
theorem tw1706 : Cond.code ⟨"FreeLancesModel", "eats", "(I)V"⟩ prog_13_method_96_code 7 none ∈ tbT := sub_7 (List.mem_of_getElem? (i := 170) rfl) rfl
set_option maxRecDepth 100000 in
theorem tw1707 : Cond.methodLink "FreeLancesModel" 263 ⟨"FreeLancesModel", "changes", "(III)V"⟩ ∈ tbT := sub_7 (List.mem_of_getElem? (i := 171) rfl) rfl
set_option maxRecDepth 100000 in
theorem tw1709 : Cond.instanceMethod ⟨"FreeLancesModel", "changes", "(III)V"⟩ ∈ tbT := sub_7 (List.mem_of_getElem? (i := 173) rfl) rfl
set_option maxRecDepth 100000 in
theorem tw1710 : Cond.code ⟨"FreeLancesModel", "changes", "(III)V"⟩ prog_13_method_97_code 5 none ∈ tbT := sub_7 (List.mem_of_getElem? (i := 174) rfl) rfl
set_option maxRecDepth 100000 in
theorem tw1711 : Cond.methodLink "FreeLancesModel" 269 ⟨"FreeLancesModel", "month", "(I)V"⟩ ∈ tbT := sub_7 (List.mem_of_getElem? (i := 175) rfl) rfl
set_option maxRecDepth 100000 in
theorem tw1713 : Cond.instanceMethod ⟨"FreeLancesModel", "month", "(I)V"⟩ ∈ tbT := sub_7 (List.mem_of_getElem? (i := 177) rfl) rfl
set_option maxRecDepth 100000 in
theorem tw1714 : Cond.code ⟨"FreeLancesModel", "month", "(I)V"⟩ prog_13_method_98_code 9 none ∈ tbT := sub_7 (List.mem_of_getElem? (i := 178) rfl) rfl
set_option maxRecDepth 100000 in
theorem tw1718 : Cond.code ⟨"FreeLancesModel", "ahead", "(III)I"⟩ prog_13_method_102_code 7 (some .int) ∈ tbT := sub_7 (List.mem_of_getElem? (i := 182) rfl) rfl
set_option maxRecDepth 100000 in
theorem tw1719 : Cond.methodLink "FreeLancesModel" 275 ⟨"FreeLancesModel", "seen", "(II)I"⟩ ∈ tbT := sub_7 (List.mem_of_getElem? (i := 183) rfl) rfl
set_option maxRecDepth 100000 in
theorem tw1721 : Cond.instanceMethod ⟨"FreeLancesModel", "seen", "(II)I"⟩ ∈ tbT := sub_7 (List.mem_of_getElem? (i := 185) rfl) rfl
set_option maxRecDepth 100000 in
theorem tw1722 : Cond.code ⟨"FreeLancesModel", "seen", "(II)I"⟩ prog_13_method_101_code 3 (some .int) ∈ tbT := sub_7 (List.mem_of_getElem? (i := 186) rfl) rfl
set_option maxRecDepth 100000 in
theorem tw1726 : Cond.code ⟨"FreeLancesModel", "voice", "(III)I"⟩ prog_13_method_113_code 4 (some .int) ∈ tbT := sub_7 (List.mem_of_getElem? (i := 190) rfl) rfl
set_option maxRecDepth 100000 in
theorem tw1727 : Cond.methodLink "FreeLancesModel" 287 ⟨"FreeLancesModel", "bindsOf", "(II)I"⟩ ∈ tbT := sub_7 (List.mem_of_getElem? (i := 191) rfl) rfl
set_option maxRecDepth 100000 in
theorem tw1729 : Cond.instanceMethod ⟨"FreeLancesModel", "bindsOf", "(II)I"⟩ ∈ tbT := sub_7 (List.mem_of_getElem? (i := 193) rfl) rfl
set_option maxRecDepth 100000 in
theorem tw1730 : Cond.code ⟨"FreeLancesModel", "bindsOf", "(II)I"⟩ prog_13_method_105_code 3 (some .int) ∈ tbT := sub_7 (List.mem_of_getElem? (i := 194) rfl) rfl
set_option maxRecDepth 100000 in
theorem tw1731 : Cond.methodLink "FreeLancesModel" 281 ⟨"FreeLancesModel", "ran", "(I)V"⟩ ∈ tbT := sub_7 (List.mem_of_getElem? (i := 195) rfl) rfl
set_option maxRecDepth 100000 in
theorem tw1733 : Cond.instanceMethod ⟨"FreeLancesModel", "ran", "(I)V"⟩ ∈ tbT := sub_7 (List.mem_of_getElem? (i := 197) rfl) rfl
set_option maxRecDepth 100000 in
theorem tw1734 : Cond.code ⟨"FreeLancesModel", "ran", "(I)V"⟩ prog_13_method_103_code 2 none ∈ tbT := sub_7 (List.mem_of_getElem? (i := 198) rfl) rfl
set_option maxRecDepth 100000 in
theorem tw1735 : Cond.methodLink "FreeLancesModel" 284 ⟨"FreeLancesModel", "bindsBond", "(II)I"⟩ ∈ tbT := sub_7 (List.mem_of_getElem? (i := 199) rfl) rfl
set_option maxRecDepth 100000 in
theorem tw1737 : Cond.instanceMethod ⟨"FreeLancesModel", "bindsBond", "(II)I"⟩ ∈ tbT := sub_7 (List.mem_of_getElem? (i := 201) rfl) rfl
set_option maxRecDepth 100000 in
theorem tw1738 : Cond.code ⟨"FreeLancesModel", "bindsBond", "(II)I"⟩ prog_13_method_104_code 3 (some .int) ∈ tbT := sub_7 (List.mem_of_getElem? (i := 202) rfl) rfl
set_option maxRecDepth 100000 in
theorem tw1739 : Cond.methodLink "FreeLancesModel" 299 ⟨"FreeLancesModel", "paysOf", "(II)I"⟩ ∈ tbT := sub_7 (List.mem_of_getElem? (i := 203) rfl) rfl
set_option maxRecDepth 100000 in
theorem tw1741 : Cond.instanceMethod ⟨"FreeLancesModel", "paysOf", "(II)I"⟩ ∈ tbT := sub_7 (List.mem_of_getElem? (i := 205) rfl) rfl
set_option maxRecDepth 100000 in
theorem tw1742 : Cond.code ⟨"FreeLancesModel", "paysOf", "(II)I"⟩ prog_13_method_107_code 3 (some .int) ∈ tbT := sub_7 (List.mem_of_getElem? (i := 206) rfl) rfl
set_option maxRecDepth 100000 in
theorem tw1743 : Cond.methodLink "FreeLancesModel" 290 ⟨"FreeLancesModel", "paysBond", "(II)I"⟩ ∈ tbT := sub_7 (List.mem_of_getElem? (i := 207) rfl) rfl
set_option maxRecDepth 100000 in
theorem tw1745 : Cond.instanceMethod ⟨"FreeLancesModel", "paysBond", "(II)I"⟩ ∈ tbT := sub_7 (List.mem_of_getElem? (i := 209) rfl) rfl
set_option maxRecDepth 100000 in
theorem tw1746 : Cond.code ⟨"FreeLancesModel", "paysBond", "(II)I"⟩ prog_13_method_106_code 3 (some .int) ∈ tbT := sub_7 (List.mem_of_getElem? (i := 210) rfl) rfl
set_option maxRecDepth 100000 in
theorem tw1747 : Cond.methodLink "FreeLancesModel" 302 ⟨"FreeLancesModel", "endsOf", "(II)I"⟩ ∈ tbT := sub_7 (List.mem_of_getElem? (i := 211) rfl) rfl
set_option maxRecDepth 100000 in
theorem tw1749 : Cond.instanceMethod ⟨"FreeLancesModel", "endsOf", "(II)I"⟩ ∈ tbT := sub_7 (List.mem_of_getElem? (i := 213) rfl) rfl
set_option maxRecDepth 100000 in
theorem tw1750 : Cond.code ⟨"FreeLancesModel", "endsOf", "(II)I"⟩ prog_13_method_110_code 5 (some .int) ∈ tbT := sub_7 (List.mem_of_getElem? (i := 214) rfl) rfl
set_option maxRecDepth 100000 in
theorem tw1751 : Cond.methodLink "FreeLancesModel" 296 ⟨"FreeLancesModel", "endsContract", "(II)I"⟩ ∈ tbT := sub_7 (List.mem_of_getElem? (i := 215) rfl) rfl
set_option maxRecDepth 100000 in
theorem tw1753 : Cond.instanceMethod ⟨"FreeLancesModel", "endsContract", "(II)I"⟩ ∈ tbT := sub_7 (List.mem_of_getElem? (i := 217) rfl) rfl
set_option maxRecDepth 100000 in
theorem tw1754 : Cond.code ⟨"FreeLancesModel", "endsContract", "(II)I"⟩ prog_13_method_109_code 3 (some .int) ∈ tbT := sub_7 (List.mem_of_getElem? (i := 218) rfl) rfl
set_option maxRecDepth 100000 in
theorem tw1755 : Cond.methodLink "FreeLancesModel" 293 ⟨"FreeLancesModel", "endsBond", "(II)I"⟩ ∈ tbT := sub_7 (List.mem_of_getElem? (i := 219) rfl) rfl
set_option maxRecDepth 100000 in
theorem tw1757 : Cond.instanceMethod ⟨"FreeLancesModel", "endsBond", "(II)I"⟩ ∈ tbT := sub_7 (List.mem_of_getElem? (i := 221) rfl) rfl
set_option maxRecDepth 100000 in
theorem tw1758 : Cond.code ⟨"FreeLancesModel", "endsBond", "(II)I"⟩ prog_13_method_108_code 3 (some .int) ∈ tbT := sub_7 (List.mem_of_getElem? (i := 222) rfl) rfl
set_option maxRecDepth 100000 in
theorem tw1759 : Cond.methodLink "FreeLancesModel" 308 ⟨"FreeLancesModel", "tellsOf", "(II)I"⟩ ∈ tbT := sub_7 (List.mem_of_getElem? (i := 223) rfl) rfl
set_option maxRecDepth 100000 in
theorem tw1761 : Cond.instanceMethod ⟨"FreeLancesModel", "tellsOf", "(II)I"⟩ ∈ tbT := sub_7 (List.mem_of_getElem? (i := 225) rfl) rfl
set_option maxRecDepth 100000 in
theorem tw1762 : Cond.code ⟨"FreeLancesModel", "tellsOf", "(II)I"⟩ prog_13_method_112_code 4 (some .int) ∈ tbT := sub_7 (List.mem_of_getElem? (i := 226) rfl) rfl
set_option maxRecDepth 100000 in
theorem tw1763 : Cond.methodLink "FreeLancesModel" 305 ⟨"FreeLancesModel", "tellsBond", "(II)I"⟩ ∈ tbT := sub_7 (List.mem_of_getElem? (i := 227) rfl) rfl
set_option maxRecDepth 100000 in
theorem tw1765 : Cond.instanceMethod ⟨"FreeLancesModel", "tellsBond", "(II)I"⟩ ∈ tbT := sub_7 (List.mem_of_getElem? (i := 229) rfl) rfl
set_option maxRecDepth 100000 in
theorem tw1766 : Cond.code ⟨"FreeLancesModel", "tellsBond", "(II)I"⟩ prog_13_method_111_code 4 (some .int) ∈ tbT := sub_7 (List.mem_of_getElem? (i := 230) rfl) rfl
set_option maxRecDepth 100000 in
theorem tw1770 : Cond.code ⟨"FreeLancesModel", "trace", "(I)I"⟩ prog_13_method_114_code 2 (some .int) ∈ tbT := sub_7 (List.mem_of_getElem? (i := 234) rfl) rfl
set_option maxRecDepth 100000 in
theorem tw1774 : Cond.code ⟨"FreeLancesModel", "sheet", "(III)I"⟩ prog_13_method_116_code 5 (some .int) ∈ tbT := sub_7 (List.mem_of_getElem? (i := 238) rfl) rfl
set_option maxRecDepth 100000 in
theorem tw1778 : Cond.code ⟨"FreeLancesModel", "put", "(III)I"⟩ prog_13_method_117_code 4 (some .int) ∈ tbT := sub_8 (List.mem_of_getElem? (i := 2) rfl) rfl
set_option maxRecDepth 100000 in
theorem tw1782 : Cond.code ⟨"FreeLancesModel", "move", "(IIIII)I"⟩ prog_13_method_118_code 7 (some .int) ∈ tbT := sub_8 (List.mem_of_getElem? (i := 6) rfl) rfl
set_option maxRecDepth 100000 in
theorem tw1786 : Cond.code ⟨"FreeLancesModel", "image", "()I"⟩ prog_13_method_119_code 2 (some .int) ∈ tbT := sub_8 (List.mem_of_getElem? (i := 10) rfl) rfl
set_option maxRecDepth 100000 in
theorem tw1790 : Cond.code ⟨"FreeLancesModel", "restore", "()I"⟩ prog_13_method_120_code 2 (some .int) ∈ tbT := sub_8 (List.mem_of_getElem? (i := 14) rfl) rfl
set_option maxRecDepth 100000 in
theorem tw1794 : Cond.code ⟨"FreeLancesModel", "tell", "(I)I"⟩ prog_13_method_121_code 2 (some .int) ∈ tbT := sub_8 (List.mem_of_getElem? (i := 18) rfl) rfl
set_option maxRecDepth 100000 in
theorem tw1798 : Cond.code ⟨"FreeLancesModel", "judge", "()I"⟩ prog_13_method_122_code 7 (some .int) ∈ tbT := sub_8 (List.mem_of_getElem? (i := 22) rfl) rfl
set_option maxRecDepth 100000 in
theorem tw1802 : Cond.code ⟨"FreeLancesModel", "count", "(I)I"⟩ prog_13_method_123_code 5 (some .int) ∈ tbT := sub_8 (List.mem_of_getElem? (i := 26) rfl) rfl
set_option maxRecDepth 100000 in
theorem tw1806 : Cond.code ⟨"FreeLancesModel", "found", "(I)I"⟩ prog_13_method_124_code 2 (some .int) ∈ tbT := sub_8 (List.mem_of_getElem? (i := 30) rfl) rfl
