-- ===== PART A: goes FIRST, ahead of the names: the tables' words, and 'selects' of the private methods out of them =====
/-- a private method of a class that the tables say can be made, by its rows of tables_1 -/
def lw_okq (q : MethodName × Nat) : Prop := (q.1.cls ≠ "java/lang/invoke/MethodHandle" ∧ q.1.cls ≠ "java/lang/invoke/VarHandle") ∧ Cond.instantiable q.1.cls q.2 ∈ tables_1 ∧ Cond.privateMethod q.1 ∈ tables_1 ∧ Cond.instanceMethod q.1 ∈ tables_1
theorem lw_p0 : lw_okq (⟨"FreeLances", "finding", "(I)I"⟩, 8) := ⟨⟨by decide +kernel, by decide +kernel⟩, List.mem_of_getElem? (i := 17) (by decide +kernel), List.mem_of_getElem? (i := 460) (by decide +kernel), List.mem_of_getElem? (i := 461) (by decide +kernel)⟩
theorem lw_p1 : lw_okq (⟨"FreeLances", "isTown", "(I)Z"⟩, 8) := ⟨⟨by decide +kernel, by decide +kernel⟩, List.mem_of_getElem? (i := 17) (by decide +kernel), List.mem_of_getElem? (i := 473) (by decide +kernel), List.mem_of_getElem? (i := 474) (by decide +kernel)⟩
theorem lw_p2 : lw_okq (⟨"FreeLances", "isCompany", "(I)Z"⟩, 8) := ⟨⟨by decide +kernel, by decide +kernel⟩, List.mem_of_getElem? (i := 17) (by decide +kernel), List.mem_of_getElem? (i := 523) (by decide +kernel), List.mem_of_getElem? (i := 524) (by decide +kernel)⟩
theorem lw_p3 : lw_okq (⟨"FreeLances", "isLance", "(I)Z"⟩, 8) := ⟨⟨by decide +kernel, by decide +kernel⟩, List.mem_of_getElem? (i := 17) (by decide +kernel), List.mem_of_getElem? (i := 570) (by decide +kernel), List.mem_of_getElem? (i := 571) (by decide +kernel)⟩
theorem lw_p4 : lw_okq (⟨"FreeLances$World", "letsGo", "(LFreeLances$Bond;)Z"⟩, 18) := ⟨⟨by decide +kernel, by decide +kernel⟩, List.mem_of_getElem? (i := 25) (by decide +kernel), List.mem_of_getElem? (i := 587) (by decide +kernel), List.mem_of_getElem? (i := 588) (by decide +kernel)⟩
theorem lw_p5 : lw_okq (⟨"FreeLances$Reader", "begin", "([BII)V"⟩, 8) := ⟨⟨by decide +kernel, by decide +kernel⟩, List.mem_of_getElem? (i := 41) (by decide +kernel), List.mem_of_getElem? (i := 599) (by decide +kernel), List.mem_of_getElem? (i := 600) (by decide +kernel)⟩
theorem lw_p6 : lw_okq (⟨"FreeLances$Reader", "either", "(I)I"⟩, 8) := ⟨⟨by decide +kernel, by decide +kernel⟩, List.mem_of_getElem? (i := 41) (by decide +kernel), List.mem_of_getElem? (i := 604) (by decide +kernel), List.mem_of_getElem? (i := 605) (by decide +kernel)⟩
theorem lw_p7 : lw_okq (⟨"FreeLances$Reader", "both", "(I)I"⟩, 8) := ⟨⟨by decide +kernel, by decide +kernel⟩, List.mem_of_getElem? (i := 41) (by decide +kernel), List.mem_of_getElem? (i := 608) (by decide +kernel), List.mem_of_getElem? (i := 609) (by decide +kernel)⟩
theorem lw_p8 : lw_okq (⟨"FreeLances$Reader", "compared", "(I)I"⟩, 8) := ⟨⟨by decide +kernel, by decide +kernel⟩, List.mem_of_getElem? (i := 41) (by decide +kernel), List.mem_of_getElem? (i := 612) (by decide +kernel), List.mem_of_getElem? (i := 613) (by decide +kernel)⟩
theorem lw_p9 : lw_okq (⟨"FreeLances$Reader", "added", "(I)I"⟩, 8) := ⟨⟨by decide +kernel, by decide +kernel⟩, List.mem_of_getElem? (i := 41) (by decide +kernel), List.mem_of_getElem? (i := 616) (by decide +kernel), List.mem_of_getElem? (i := 617) (by decide +kernel)⟩
theorem lw_p10 : lw_okq (⟨"FreeLances$Reader", "multiplied", "(I)I"⟩, 8) := ⟨⟨by decide +kernel, by decide +kernel⟩, List.mem_of_getElem? (i := 41) (by decide +kernel), List.mem_of_getElem? (i := 620) (by decide +kernel), List.mem_of_getElem? (i := 621) (by decide +kernel)⟩
theorem lw_p11 : lw_okq (⟨"FreeLances$Reader", "single", "(I)I"⟩, 8) := ⟨⟨by decide +kernel, by decide +kernel⟩, List.mem_of_getElem? (i := 41) (by decide +kernel), List.mem_of_getElem? (i := 624) (by decide +kernel), List.mem_of_getElem? (i := 625) (by decide +kernel)⟩
theorem lw_p12 : lw_okq (⟨"FreeLances$Reader", "sign", "()I"⟩, 8) := ⟨⟨by decide +kernel, by decide +kernel⟩, List.mem_of_getElem? (i := 41) (by decide +kernel), List.mem_of_getElem? (i := 628) (by decide +kernel), List.mem_of_getElem? (i := 629) (by decide +kernel)⟩
theorem lw_p13 : lw_okq (⟨"FreeLances$Reader", "number", "()I"⟩, 8) := ⟨⟨by decide +kernel, by decide +kernel⟩, List.mem_of_getElem? (i := 41) (by decide +kernel), List.mem_of_getElem? (i := 632) (by decide +kernel), List.mem_of_getElem? (i := 633) (by decide +kernel)⟩
theorem lw_p14 : lw_okq (⟨"FreeLances$Reader", "opened", "(II)I"⟩, 8) := ⟨⟨by decide +kernel, by decide +kernel⟩, List.mem_of_getElem? (i := 41) (by decide +kernel), List.mem_of_getElem? (i := 636) (by decide +kernel), List.mem_of_getElem? (i := 637) (by decide +kernel)⟩
theorem lw_p15 : lw_okq (⟨"FreeLances$Reader", "nameOf", "(I)I"⟩, 8) := ⟨⟨by decide +kernel, by decide +kernel⟩, List.mem_of_getElem? (i := 41) (by decide +kernel), List.mem_of_getElem? (i := 640) (by decide +kernel), List.mem_of_getElem? (i := 641) (by decide +kernel)⟩
def lw_privs_1 : List (MethodName × Nat) := [(⟨"FreeLances", "finding", "(I)I"⟩, 8), (⟨"FreeLances", "isTown", "(I)Z"⟩, 8), (⟨"FreeLances", "isCompany", "(I)Z"⟩, 8), (⟨"FreeLances", "isLance", "(I)Z"⟩, 8), (⟨"FreeLances$World", "letsGo", "(LFreeLances$Bond;)Z"⟩, 18), (⟨"FreeLances$Reader", "begin", "([BII)V"⟩, 8), (⟨"FreeLances$Reader", "either", "(I)I"⟩, 8), (⟨"FreeLances$Reader", "both", "(I)I"⟩, 8), (⟨"FreeLances$Reader", "compared", "(I)I"⟩, 8), (⟨"FreeLances$Reader", "added", "(I)I"⟩, 8), (⟨"FreeLances$Reader", "multiplied", "(I)I"⟩, 8), (⟨"FreeLances$Reader", "single", "(I)I"⟩, 8), (⟨"FreeLances$Reader", "sign", "()I"⟩, 8), (⟨"FreeLances$Reader", "number", "()I"⟩, 8), (⟨"FreeLances$Reader", "opened", "(II)I"⟩, 8), (⟨"FreeLances$Reader", "nameOf", "(I)I"⟩, 8)]
theorem lw_r1 : ∀ q ∈ lw_privs_1, lw_okq q := List.forall_mem_cons.mpr ⟨lw_p0, List.forall_mem_cons.mpr ⟨lw_p1, List.forall_mem_cons.mpr ⟨lw_p2, List.forall_mem_cons.mpr ⟨lw_p3, List.forall_mem_cons.mpr ⟨lw_p4, List.forall_mem_cons.mpr ⟨lw_p5, List.forall_mem_cons.mpr ⟨lw_p6, List.forall_mem_cons.mpr ⟨lw_p7, List.forall_mem_cons.mpr ⟨lw_p8, List.forall_mem_cons.mpr ⟨lw_p9, List.forall_mem_cons.mpr ⟨lw_p10, List.forall_mem_cons.mpr ⟨lw_p11, List.forall_mem_cons.mpr ⟨lw_p12, List.forall_mem_cons.mpr ⟨lw_p13, List.forall_mem_cons.mpr ⟨lw_p14, List.forall_mem_cons.mpr ⟨lw_p15, fun _ h => absurd h List.not_mem_nil⟩⟩⟩⟩⟩⟩⟩⟩⟩⟩⟩⟩⟩⟩⟩⟩
theorem lw_p16 : lw_okq (⟨"FreeLances$Reader", "goesOnWith", "(II)Z"⟩, 8) := ⟨⟨by decide +kernel, by decide +kernel⟩, List.mem_of_getElem? (i := 41) (by decide +kernel), List.mem_of_getElem? (i := 644) (by decide +kernel), List.mem_of_getElem? (i := 645) (by decide +kernel)⟩
theorem lw_p17 : lw_okq (⟨"FreeLances", "newBond", "(III)LFreeLances$Bond;"⟩, 8) := ⟨⟨by decide +kernel, by decide +kernel⟩, List.mem_of_getElem? (i := 17) (by decide +kernel), List.mem_of_getElem? (i := 717) (by decide +kernel), List.mem_of_getElem? (i := 718) (by decide +kernel)⟩
theorem lw_p18 : lw_okq (⟨"FreeLances", "isBond", "(I)Z"⟩, 8) := ⟨⟨by decide +kernel, by decide +kernel⟩, List.mem_of_getElem? (i := 17) (by decide +kernel), List.mem_of_getElem? (i := 729) (by decide +kernel), List.mem_of_getElem? (i := 730) (by decide +kernel)⟩
theorem lw_p19 : lw_okq (⟨"FreeLances$World", "clashOf", "(LFreeLances$Bond;LFreeLances$Bond;)I"⟩, 18) := ⟨⟨by decide +kernel, by decide +kernel⟩, List.mem_of_getElem? (i := 25) (by decide +kernel), List.mem_of_getElem? (i := 796) (by decide +kernel), List.mem_of_getElem? (i := 797) (by decide +kernel)⟩
theorem lw_p20 : lw_okq (⟨"FreeLances$World", "truceDay", "(LFreeLances$Bond;LFreeLances$Bond;)I"⟩, 18) := ⟨⟨by decide +kernel, by decide +kernel⟩, List.mem_of_getElem? (i := 25) (by decide +kernel), List.mem_of_getElem? (i := 800) (by decide +kernel), List.mem_of_getElem? (i := 801) (by decide +kernel)⟩
theorem lw_p21 : lw_okq (⟨"FreeLances$World", "boundUntil", "(IIZ)I"⟩, 18) := ⟨⟨by decide +kernel, by decide +kernel⟩, List.mem_of_getElem? (i := 25) (by decide +kernel), List.mem_of_getElem? (i := 812) (by decide +kernel), List.mem_of_getElem? (i := 813) (by decide +kernel)⟩
theorem lw_p22 : lw_okq (⟨"FreeLances$World", "leastOf", "(II)I"⟩, 18) := ⟨⟨by decide +kernel, by decide +kernel⟩, List.mem_of_getElem? (i := 25) (by decide +kernel), List.mem_of_getElem? (i := 845) (by decide +kernel), List.mem_of_getElem? (i := 846) (by decide +kernel)⟩
theorem lw_p23 : lw_okq (⟨"FreeLances$World", "counts", "(I)Z"⟩, 18) := ⟨⟨by decide +kernel, by decide +kernel⟩, List.mem_of_getElem? (i := 25) (by decide +kernel), List.mem_of_getElem? (i := 850) (by decide +kernel), List.mem_of_getElem? (i := 851) (by decide +kernel)⟩
theorem lw_p24 : lw_okq (⟨"FreeLances$Plans", "winterChoice", "(LFreeLances$World;I)I"⟩, 2) := ⟨⟨by decide +kernel, by decide +kernel⟩, List.mem_of_getElem? (i := 414) (by decide +kernel), List.mem_of_getElem? (i := 928) (by decide +kernel), List.mem_of_getElem? (i := 929) (by decide +kernel)⟩
theorem lw_p25 : lw_okq (⟨"FreeLances$Plans", "winterNext", "(LFreeLances$World;II)I"⟩, 2) := ⟨⟨by decide +kernel, by decide +kernel⟩, List.mem_of_getElem? (i := 414) (by decide +kernel), List.mem_of_getElem? (i := 933) (by decide +kernel), List.mem_of_getElem? (i := 934) (by decide +kernel)⟩
theorem lw_p26 : lw_okq (⟨"FreeLances$Plans", "hireChoice", "(LFreeLances$World;[III)I"⟩, 2) := ⟨⟨by decide +kernel, by decide +kernel⟩, List.mem_of_getElem? (i := 414) (by decide +kernel), List.mem_of_getElem? (i := 953) (by decide +kernel), List.mem_of_getElem? (i := 954) (by decide +kernel)⟩
theorem lw_p27 : lw_okq (⟨"FreeLances$Plans", "hireNext", "(LFreeLances$World;[IIII)I"⟩, 2) := ⟨⟨by decide +kernel, by decide +kernel⟩, List.mem_of_getElem? (i := 414) (by decide +kernel), List.mem_of_getElem? (i := 957) (by decide +kernel), List.mem_of_getElem? (i := 958) (by decide +kernel)⟩
theorem lw_p28 : lw_okq (⟨"FreeLances$World", "eat", "(LFreeLances$Company;)V"⟩, 18) := ⟨⟨by decide +kernel, by decide +kernel⟩, List.mem_of_getElem? (i := 25) (by decide +kernel), List.mem_of_getElem? (i := 978) (by decide +kernel), List.mem_of_getElem? (i := 979) (by decide +kernel)⟩
theorem lw_p29 : lw_okq (⟨"FreeLances$World", "ail", "(I)V"⟩, 18) := ⟨⟨by decide +kernel, by decide +kernel⟩, List.mem_of_getElem? (i := 25) (by decide +kernel), List.mem_of_getElem? (i := 982) (by decide +kernel), List.mem_of_getElem? (i := 983) (by decide +kernel)⟩
theorem lw_p30 : lw_okq (⟨"FreeLances$World", "turnLeast", "(III)V"⟩, 18) := ⟨⟨by decide +kernel, by decide +kernel⟩, List.mem_of_getElem? (i := 25) (by decide +kernel), List.mem_of_getElem? (i := 986) (by decide +kernel), List.mem_of_getElem? (i := 987) (by decide +kernel)⟩
theorem lw_p31 : lw_okq (⟨"FreeLances$World", "settle", "(LFreeLances$Bond;)V"⟩, 18) := ⟨⟨by decide +kernel, by decide +kernel⟩, List.mem_of_getElem? (i := 25) (by decide +kernel), List.mem_of_getElem? (i := 991) (by decide +kernel), List.mem_of_getElem? (i := 992) (by decide +kernel)⟩
def lw_privs_2 : List (MethodName × Nat) := [(⟨"FreeLances$Reader", "goesOnWith", "(II)Z"⟩, 8), (⟨"FreeLances", "newBond", "(III)LFreeLances$Bond;"⟩, 8), (⟨"FreeLances", "isBond", "(I)Z"⟩, 8), (⟨"FreeLances$World", "clashOf", "(LFreeLances$Bond;LFreeLances$Bond;)I"⟩, 18), (⟨"FreeLances$World", "truceDay", "(LFreeLances$Bond;LFreeLances$Bond;)I"⟩, 18), (⟨"FreeLances$World", "boundUntil", "(IIZ)I"⟩, 18), (⟨"FreeLances$World", "leastOf", "(II)I"⟩, 18), (⟨"FreeLances$World", "counts", "(I)Z"⟩, 18), (⟨"FreeLances$Plans", "winterChoice", "(LFreeLances$World;I)I"⟩, 2), (⟨"FreeLances$Plans", "winterNext", "(LFreeLances$World;II)I"⟩, 2), (⟨"FreeLances$Plans", "hireChoice", "(LFreeLances$World;[III)I"⟩, 2), (⟨"FreeLances$Plans", "hireNext", "(LFreeLances$World;[IIII)I"⟩, 2), (⟨"FreeLances$World", "eat", "(LFreeLances$Company;)V"⟩, 18), (⟨"FreeLances$World", "ail", "(I)V"⟩, 18), (⟨"FreeLances$World", "turnLeast", "(III)V"⟩, 18), (⟨"FreeLances$World", "settle", "(LFreeLances$Bond;)V"⟩, 18)]
theorem lw_r2 : ∀ q ∈ lw_privs_2, lw_okq q := List.forall_mem_cons.mpr ⟨lw_p16, List.forall_mem_cons.mpr ⟨lw_p17, List.forall_mem_cons.mpr ⟨lw_p18, List.forall_mem_cons.mpr ⟨lw_p19, List.forall_mem_cons.mpr ⟨lw_p20, List.forall_mem_cons.mpr ⟨lw_p21, List.forall_mem_cons.mpr ⟨lw_p22, List.forall_mem_cons.mpr ⟨lw_p23, List.forall_mem_cons.mpr ⟨lw_p24, List.forall_mem_cons.mpr ⟨lw_p25, List.forall_mem_cons.mpr ⟨lw_p26, List.forall_mem_cons.mpr ⟨lw_p27, List.forall_mem_cons.mpr ⟨lw_p28, List.forall_mem_cons.mpr ⟨lw_p29, List.forall_mem_cons.mpr ⟨lw_p30, List.forall_mem_cons.mpr ⟨lw_p31, fun _ h => absurd h List.not_mem_nil⟩⟩⟩⟩⟩⟩⟩⟩⟩⟩⟩⟩⟩⟩⟩⟩
theorem lw_p32 : lw_okq (⟨"FreeLances$World", "due", "(II)I"⟩, 18) := ⟨⟨by decide +kernel, by decide +kernel⟩, List.mem_of_getElem? (i := 25) (by decide +kernel), List.mem_of_getElem? (i := 995) (by decide +kernel), List.mem_of_getElem? (i := 996) (by decide +kernel)⟩
theorem lw_p33 : lw_okq (⟨"FreeLances$Voices", "own", "(III)I"⟩, 5) := ⟨⟨by decide +kernel, by decide +kernel⟩, List.mem_of_getElem? (i := 390) (by decide +kernel), List.mem_of_getElem? (i := 1040) (by decide +kernel), List.mem_of_getElem? (i := 1041) (by decide +kernel)⟩
theorem lw_p34 : lw_okq (⟨"FreeLances$Voices", "from", "(IIII)I"⟩, 5) := ⟨⟨by decide +kernel, by decide +kernel⟩, List.mem_of_getElem? (i := 390) (by decide +kernel), List.mem_of_getElem? (i := 1044) (by decide +kernel), List.mem_of_getElem? (i := 1045) (by decide +kernel)⟩
theorem lw_p35 : lw_okq (⟨"FreeLances$Voices", "work", "(III)I"⟩, 5) := ⟨⟨by decide +kernel, by decide +kernel⟩, List.mem_of_getElem? (i := 390) (by decide +kernel), List.mem_of_getElem? (i := 1051) (by decide +kernel), List.mem_of_getElem? (i := 1052) (by decide +kernel)⟩
theorem lw_p36 : lw_okq (⟨"FreeLances$Voices", "above", "(IIII)I"⟩, 5) := ⟨⟨by decide +kernel, by decide +kernel⟩, List.mem_of_getElem? (i := 390) (by decide +kernel), List.mem_of_getElem? (i := 1055) (by decide +kernel), List.mem_of_getElem? (i := 1056) (by decide +kernel)⟩
theorem lw_p37 : lw_okq (⟨"FreeLancesModel", "finds", "(I)I"⟩, 27) := ⟨⟨by decide +kernel, by decide +kernel⟩, List.mem_of_getElem? (i := 1141) (by decide +kernel), List.mem_of_getElem? (i := 1237) (by decide +kernel), List.mem_of_getElem? (i := 1238) (by decide +kernel)⟩
theorem lw_p38 : lw_okq (⟨"FreeLancesModel", "isTown", "(I)Z"⟩, 27) := ⟨⟨by decide +kernel, by decide +kernel⟩, List.mem_of_getElem? (i := 1141) (by decide +kernel), List.mem_of_getElem? (i := 1246) (by decide +kernel), List.mem_of_getElem? (i := 1247) (by decide +kernel)⟩
theorem lw_p39 : lw_okq (⟨"FreeLancesModel", "farOf", "(II)I"⟩, 27) := ⟨⟨by decide +kernel, by decide +kernel⟩, List.mem_of_getElem? (i := 1141) (by decide +kernel), List.mem_of_getElem? (i := 1254) (by decide +kernel), List.mem_of_getElem? (i := 1255) (by decide +kernel)⟩
theorem lw_p40 : lw_okq (⟨"FreeLancesModel", "ofTown", "(II)I"⟩, 27) := ⟨⟨by decide +kernel, by decide +kernel⟩, List.mem_of_getElem? (i := 1141) (by decide +kernel), List.mem_of_getElem? (i := 1262) (by decide +kernel), List.mem_of_getElem? (i := 1263) (by decide +kernel)⟩
theorem lw_p41 : lw_okq (⟨"FreeLancesModel", "own", "(II)I"⟩, 27) := ⟨⟨by decide +kernel, by decide +kernel⟩, List.mem_of_getElem? (i := 1141) (by decide +kernel), List.mem_of_getElem? (i := 1266) (by decide +kernel), List.mem_of_getElem? (i := 1267) (by decide +kernel)⟩
theorem lw_p42 : lw_okq (⟨"FreeLancesModel", "townGets", "(III)V"⟩, 27) := ⟨⟨by decide +kernel, by decide +kernel⟩, List.mem_of_getElem? (i := 1141) (by decide +kernel), List.mem_of_getElem? (i := 1279) (by decide +kernel), List.mem_of_getElem? (i := 1280) (by decide +kernel)⟩
theorem lw_p43 : lw_okq (⟨"FreeLancesModel", "sets", "(III)V"⟩, 27) := ⟨⟨by decide +kernel, by decide +kernel⟩, List.mem_of_getElem? (i := 1141) (by decide +kernel), List.mem_of_getElem? (i := 1287) (by decide +kernel), List.mem_of_getElem? (i := 1288) (by decide +kernel)⟩
theorem lw_p44 : lw_okq (⟨"FreeLancesModel", "isCompany", "(I)Z"⟩, 27) := ⟨⟨by decide +kernel, by decide +kernel⟩, List.mem_of_getElem? (i := 1141) (by decide +kernel), List.mem_of_getElem? (i := 1295) (by decide +kernel), List.mem_of_getElem? (i := 1296) (by decide +kernel)⟩
theorem lw_p45 : lw_okq (⟨"FreeLancesModel", "manySo", "(II)I"⟩, 27) := ⟨⟨by decide +kernel, by decide +kernel⟩, List.mem_of_getElem? (i := 1141) (by decide +kernel), List.mem_of_getElem? (i := 1307) (by decide +kernel), List.mem_of_getElem? (i := 1308) (by decide +kernel)⟩
theorem lw_p46 : lw_okq (⟨"FreeLancesModel", "its", "(II)I"⟩, 27) := ⟨⟨by decide +kernel, by decide +kernel⟩, List.mem_of_getElem? (i := 1141) (by decide +kernel), List.mem_of_getElem? (i := 1311) (by decide +kernel), List.mem_of_getElem? (i := 1312) (by decide +kernel)⟩
theorem lw_p47 : lw_okq (⟨"FreeLancesModel", "servedOn", "(II)I"⟩, 27) := ⟨⟨by decide +kernel, by decide +kernel⟩, List.mem_of_getElem? (i := 1141) (by decide +kernel), List.mem_of_getElem? (i := 1315) (by decide +kernel), List.mem_of_getElem? (i := 1316) (by decide +kernel)⟩
def lw_privs_3 : List (MethodName × Nat) := [(⟨"FreeLances$World", "due", "(II)I"⟩, 18), (⟨"FreeLances$Voices", "own", "(III)I"⟩, 5), (⟨"FreeLances$Voices", "from", "(IIII)I"⟩, 5), (⟨"FreeLances$Voices", "work", "(III)I"⟩, 5), (⟨"FreeLances$Voices", "above", "(IIII)I"⟩, 5), (⟨"FreeLancesModel", "finds", "(I)I"⟩, 27), (⟨"FreeLancesModel", "isTown", "(I)Z"⟩, 27), (⟨"FreeLancesModel", "farOf", "(II)I"⟩, 27), (⟨"FreeLancesModel", "ofTown", "(II)I"⟩, 27), (⟨"FreeLancesModel", "own", "(II)I"⟩, 27), (⟨"FreeLancesModel", "townGets", "(III)V"⟩, 27), (⟨"FreeLancesModel", "sets", "(III)V"⟩, 27), (⟨"FreeLancesModel", "isCompany", "(I)Z"⟩, 27), (⟨"FreeLancesModel", "manySo", "(II)I"⟩, 27), (⟨"FreeLancesModel", "its", "(II)I"⟩, 27), (⟨"FreeLancesModel", "servedOn", "(II)I"⟩, 27)]
theorem lw_r3 : ∀ q ∈ lw_privs_3, lw_okq q := List.forall_mem_cons.mpr ⟨lw_p32, List.forall_mem_cons.mpr ⟨lw_p33, List.forall_mem_cons.mpr ⟨lw_p34, List.forall_mem_cons.mpr ⟨lw_p35, List.forall_mem_cons.mpr ⟨lw_p36, List.forall_mem_cons.mpr ⟨lw_p37, List.forall_mem_cons.mpr ⟨lw_p38, List.forall_mem_cons.mpr ⟨lw_p39, List.forall_mem_cons.mpr ⟨lw_p40, List.forall_mem_cons.mpr ⟨lw_p41, List.forall_mem_cons.mpr ⟨lw_p42, List.forall_mem_cons.mpr ⟨lw_p43, List.forall_mem_cons.mpr ⟨lw_p44, List.forall_mem_cons.mpr ⟨lw_p45, List.forall_mem_cons.mpr ⟨lw_p46, List.forall_mem_cons.mpr ⟨lw_p47, fun _ h => absurd h List.not_mem_nil⟩⟩⟩⟩⟩⟩⟩⟩⟩⟩⟩⟩⟩⟩⟩⟩
theorem lw_p48 : lw_okq (⟨"FreeLancesModel", "isContract", "(I)Z"⟩, 27) := ⟨⟨by decide +kernel, by decide +kernel⟩, List.mem_of_getElem? (i := 1141) (by decide +kernel), List.mem_of_getElem? (i := 1319) (by decide +kernel), List.mem_of_getElem? (i := 1320) (by decide +kernel)⟩
theorem lw_p49 : lw_okq (⟨"FreeLancesModel", "bond", "(II)I"⟩, 27) := ⟨⟨by decide +kernel, by decide +kernel⟩, List.mem_of_getElem? (i := 1141) (by decide +kernel), List.mem_of_getElem? (i := 1323) (by decide +kernel), List.mem_of_getElem? (i := 1324) (by decide +kernel)⟩
theorem lw_p50 : lw_okq (⟨"FreeLancesModel", "isIn", "(II)Z"⟩, 27) := ⟨⟨by decide +kernel, by decide +kernel⟩, List.mem_of_getElem? (i := 1141) (by decide +kernel), List.mem_of_getElem? (i := 1327) (by decide +kernel), List.mem_of_getElem? (i := 1328) (by decide +kernel)⟩
theorem lw_p51 : lw_okq (⟨"FreeLancesModel", "isLance", "(I)Z"⟩, 27) := ⟨⟨by decide +kernel, by decide +kernel⟩, List.mem_of_getElem? (i := 1141) (by decide +kernel), List.mem_of_getElem? (i := 1339) (by decide +kernel), List.mem_of_getElem? (i := 1340) (by decide +kernel)⟩
theorem lw_p52 : lw_okq (⟨"FreeLancesModel", "mayLeave", "(I)Z"⟩, 27) := ⟨⟨by decide +kernel, by decide +kernel⟩, List.mem_of_getElem? (i := 1141) (by decide +kernel), List.mem_of_getElem? (i := 1347) (by decide +kernel), List.mem_of_getElem? (i := 1348) (by decide +kernel)⟩
theorem lw_p53 : lw_okq (⟨"FreeLancesModel", "inForce", "(II)I"⟩, 27) := ⟨⟨by decide +kernel, by decide +kernel⟩, List.mem_of_getElem? (i := 1141) (by decide +kernel), List.mem_of_getElem? (i := 1351) (by decide +kernel), List.mem_of_getElem? (i := 1352) (by decide +kernel)⟩
theorem lw_p54 : lw_okq (⟨"FreeLancesModel", "comesTo", "(IIII)I"⟩, 27) := ⟨⟨by decide +kernel, by decide +kernel⟩, List.mem_of_getElem? (i := 1141) (by decide +kernel), List.mem_of_getElem? (i := 1355) (by decide +kernel), List.mem_of_getElem? (i := 1356) (by decide +kernel)⟩
theorem lw_p55 : lw_okq (⟨"FreeLancesModel", "turns", "(II)V"⟩, 27) := ⟨⟨by decide +kernel, by decide +kernel⟩, List.mem_of_getElem? (i := 1141) (by decide +kernel), List.mem_of_getElem? (i := 1366) (by decide +kernel), List.mem_of_getElem? (i := 1367) (by decide +kernel)⟩
theorem lw_p56 : lw_okq (⟨"FreeLancesModel", "reads", "(I)Z"⟩, 27) := ⟨⟨by decide +kernel, by decide +kernel⟩, List.mem_of_getElem? (i := 1141) (by decide +kernel), List.mem_of_getElem? (i := 1382) (by decide +kernel), List.mem_of_getElem? (i := 1383) (by decide +kernel)⟩
theorem lw_p57 : lw_okq (⟨"FreeLancesModel", "byteAt", "(I)I"⟩, 27) := ⟨⟨by decide +kernel, by decide +kernel⟩, List.mem_of_getElem? (i := 1141) (by decide +kernel), List.mem_of_getElem? (i := 1386) (by decide +kernel), List.mem_of_getElem? (i := 1387) (by decide +kernel)⟩
theorem lw_p58 : lw_okq (⟨"FreeLancesModel", "readsOne", "(I)I"⟩, 27) := ⟨⟨by decide +kernel, by decide +kernel⟩, List.mem_of_getElem? (i := 1141) (by decide +kernel), List.mem_of_getElem? (i := 1390) (by decide +kernel), List.mem_of_getElem? (i := 1391) (by decide +kernel)⟩
theorem lw_p59 : lw_okq (⟨"FreeLancesModel", "openMany", "()I"⟩, 27) := ⟨⟨by decide +kernel, by decide +kernel⟩, List.mem_of_getElem? (i := 1141) (by decide +kernel), List.mem_of_getElem? (i := 1394) (by decide +kernel), List.mem_of_getElem? (i := 1395) (by decide +kernel)⟩
theorem lw_p60 : lw_okq (⟨"FreeLancesModel", "lays", "(I)V"⟩, 27) := ⟨⟨by decide +kernel, by decide +kernel⟩, List.mem_of_getElem? (i := 1141) (by decide +kernel), List.mem_of_getElem? (i := 1401) (by decide +kernel), List.mem_of_getElem? (i := 1402) (by decide +kernel)⟩
theorem lw_p61 : lw_okq (⟨"FreeLancesModel", "settles", "(I)V"⟩, 27) := ⟨⟨by decide +kernel, by decide +kernel⟩, List.mem_of_getElem? (i := 1141) (by decide +kernel), List.mem_of_getElem? (i := 1408) (by decide +kernel), List.mem_of_getElem? (i := 1409) (by decide +kernel)⟩
theorem lw_p62 : lw_okq (⟨"FreeLancesModel", "hasOpen", "()Z"⟩, 27) := ⟨⟨by decide +kernel, by decide +kernel⟩, List.mem_of_getElem? (i := 1141) (by decide +kernel), List.mem_of_getElem? (i := 1415) (by decide +kernel), List.mem_of_getElem? (i := 1416) (by decide +kernel)⟩
theorem lw_p63 : lw_okq (⟨"FreeLancesModel", "isTested", "()Z"⟩, 27) := ⟨⟨by decide +kernel, by decide +kernel⟩, List.mem_of_getElem? (i := 1141) (by decide +kernel), List.mem_of_getElem? (i := 1419) (by decide +kernel), List.mem_of_getElem? (i := 1420) (by decide +kernel)⟩
def lw_privs_4 : List (MethodName × Nat) := [(⟨"FreeLancesModel", "isContract", "(I)Z"⟩, 27), (⟨"FreeLancesModel", "bond", "(II)I"⟩, 27), (⟨"FreeLancesModel", "isIn", "(II)Z"⟩, 27), (⟨"FreeLancesModel", "isLance", "(I)Z"⟩, 27), (⟨"FreeLancesModel", "mayLeave", "(I)Z"⟩, 27), (⟨"FreeLancesModel", "inForce", "(II)I"⟩, 27), (⟨"FreeLancesModel", "comesTo", "(IIII)I"⟩, 27), (⟨"FreeLancesModel", "turns", "(II)V"⟩, 27), (⟨"FreeLancesModel", "reads", "(I)Z"⟩, 27), (⟨"FreeLancesModel", "byteAt", "(I)I"⟩, 27), (⟨"FreeLancesModel", "readsOne", "(I)I"⟩, 27), (⟨"FreeLancesModel", "openMany", "()I"⟩, 27), (⟨"FreeLancesModel", "lays", "(I)V"⟩, 27), (⟨"FreeLancesModel", "settles", "(I)V"⟩, 27), (⟨"FreeLancesModel", "hasOpen", "()Z"⟩, 27), (⟨"FreeLancesModel", "isTested", "()Z"⟩, 27)]
theorem lw_r4 : ∀ q ∈ lw_privs_4, lw_okq q := List.forall_mem_cons.mpr ⟨lw_p48, List.forall_mem_cons.mpr ⟨lw_p49, List.forall_mem_cons.mpr ⟨lw_p50, List.forall_mem_cons.mpr ⟨lw_p51, List.forall_mem_cons.mpr ⟨lw_p52, List.forall_mem_cons.mpr ⟨lw_p53, List.forall_mem_cons.mpr ⟨lw_p54, List.forall_mem_cons.mpr ⟨lw_p55, List.forall_mem_cons.mpr ⟨lw_p56, List.forall_mem_cons.mpr ⟨lw_p57, List.forall_mem_cons.mpr ⟨lw_p58, List.forall_mem_cons.mpr ⟨lw_p59, List.forall_mem_cons.mpr ⟨lw_p60, List.forall_mem_cons.mpr ⟨lw_p61, List.forall_mem_cons.mpr ⟨lw_p62, List.forall_mem_cons.mpr ⟨lw_p63, fun _ h => absurd h List.not_mem_nil⟩⟩⟩⟩⟩⟩⟩⟩⟩⟩⟩⟩⟩⟩⟩⟩
theorem lw_p64 : lw_okq (⟨"FreeLancesModel", "isFull", "()Z"⟩, 27) := ⟨⟨by decide +kernel, by decide +kernel⟩, List.mem_of_getElem? (i := 1141) (by decide +kernel), List.mem_of_getElem? (i := 1438) (by decide +kernel), List.mem_of_getElem? (i := 1439) (by decide +kernel)⟩
theorem lw_p65 : lw_okq (⟨"FreeLancesModel", "newBond", "(IIIIIIII)I"⟩, 27) := ⟨⟨by decide +kernel, by decide +kernel⟩, List.mem_of_getElem? (i := 1141) (by decide +kernel), List.mem_of_getElem? (i := 1442) (by decide +kernel), List.mem_of_getElem? (i := 1443) (by decide +kernel)⟩
theorem lw_p66 : lw_okq (⟨"FreeLancesModel", "writes", "(III)V"⟩, 27) := ⟨⟨by decide +kernel, by decide +kernel⟩, List.mem_of_getElem? (i := 1141) (by decide +kernel), List.mem_of_getElem? (i := 1446) (by decide +kernel), List.mem_of_getElem? (i := 1447) (by decide +kernel)⟩
theorem lw_p67 : lw_okq (⟨"FreeLancesModel", "isBond", "(I)Z"⟩, 27) := ⟨⟨by decide +kernel, by decide +kernel⟩, List.mem_of_getElem? (i := 1141) (by decide +kernel), List.mem_of_getElem? (i := 1454) (by decide +kernel), List.mem_of_getElem? (i := 1455) (by decide +kernel)⟩
theorem lw_p68 : lw_okq (⟨"FreeLancesModel", "gives", "(III)V"⟩, 27) := ⟨⟨by decide +kernel, by decide +kernel⟩, List.mem_of_getElem? (i := 1141) (by decide +kernel), List.mem_of_getElem? (i := 1462) (by decide +kernel), List.mem_of_getElem? (i := 1463) (by decide +kernel)⟩
theorem lw_p69 : lw_okq (⟨"FreeLancesModel", "owes", "(II)V"⟩, 27) := ⟨⟨by decide +kernel, by decide +kernel⟩, List.mem_of_getElem? (i := 1141) (by decide +kernel), List.mem_of_getElem? (i := 1490) (by decide +kernel), List.mem_of_getElem? (i := 1491) (by decide +kernel)⟩
theorem lw_p70 : lw_okq (⟨"FreeLancesModel", "clashOf", "(II)I"⟩, 27) := ⟨⟨by decide +kernel, by decide +kernel⟩, List.mem_of_getElem? (i := 1141) (by decide +kernel), List.mem_of_getElem? (i := 1506) (by decide +kernel), List.mem_of_getElem? (i := 1507) (by decide +kernel)⟩
theorem lw_p71 : lw_okq (⟨"FreeLancesModel", "both", "(II)I"⟩, 27) := ⟨⟨by decide +kernel, by decide +kernel⟩, List.mem_of_getElem? (i := 1141) (by decide +kernel), List.mem_of_getElem? (i := 1510) (by decide +kernel), List.mem_of_getElem? (i := 1511) (by decide +kernel)⟩
theorem lw_p72 : lw_okq (⟨"FreeLancesModel", "clashes", "(II)I"⟩, 27) := ⟨⟨by decide +kernel, by decide +kernel⟩, List.mem_of_getElem? (i := 1141) (by decide +kernel), List.mem_of_getElem? (i := 1517) (by decide +kernel), List.mem_of_getElem? (i := 1518) (by decide +kernel)⟩
theorem lw_p73 : lw_okq (⟨"FreeLancesModel", "marked", "(II)I"⟩, 27) := ⟨⟨by decide +kernel, by decide +kernel⟩, List.mem_of_getElem? (i := 1141) (by decide +kernel), List.mem_of_getElem? (i := 1532) (by decide +kernel), List.mem_of_getElem? (i := 1533) (by decide +kernel)⟩
theorem lw_p74 : lw_okq (⟨"FreeLancesModel", "counts", "(I)Z"⟩, 27) := ⟨⟨by decide +kernel, by decide +kernel⟩, List.mem_of_getElem? (i := 1141) (by decide +kernel), List.mem_of_getElem? (i := 1536) (by decide +kernel), List.mem_of_getElem? (i := 1537) (by decide +kernel)⟩
theorem lw_p75 : lw_okq (⟨"FreeLancesModel", "twiceOf", "(III)I"⟩, 27) := ⟨⟨by decide +kernel, by decide +kernel⟩, List.mem_of_getElem? (i := 1141) (by decide +kernel), List.mem_of_getElem? (i := 1544) (by decide +kernel), List.mem_of_getElem? (i := 1545) (by decide +kernel)⟩
theorem lw_p76 : lw_okq (⟨"FreeLancesModel", "isShown", "(II)Z"⟩, 27) := ⟨⟨by decide +kernel, by decide +kernel⟩, List.mem_of_getElem? (i := 1141) (by decide +kernel), List.mem_of_getElem? (i := 1548) (by decide +kernel), List.mem_of_getElem? (i := 1549) (by decide +kernel)⟩
theorem lw_p77 : lw_okq (⟨"FreeLancesModel", "isOfThrees", "(II)Z"⟩, 27) := ⟨⟨by decide +kernel, by decide +kernel⟩, List.mem_of_getElem? (i := 1141) (by decide +kernel), List.mem_of_getElem? (i := 1564) (by decide +kernel), List.mem_of_getElem? (i := 1565) (by decide +kernel)⟩
theorem lw_p78 : lw_okq (⟨"FreeLancesModel", "findWinter", "()V"⟩, 27) := ⟨⟨by decide +kernel, by decide +kernel⟩, List.mem_of_getElem? (i := 1141) (by decide +kernel), List.mem_of_getElem? (i := 1584) (by decide +kernel), List.mem_of_getElem? (i := 1585) (by decide +kernel)⟩
theorem lw_p79 : lw_okq (⟨"FreeLancesModel", "settle", "(III)V"⟩, 27) := ⟨⟨by decide +kernel, by decide +kernel⟩, List.mem_of_getElem? (i := 1141) (by decide +kernel), List.mem_of_getElem? (i := 1588) (by decide +kernel), List.mem_of_getElem? (i := 1589) (by decide +kernel)⟩
def lw_privs_5 : List (MethodName × Nat) := [(⟨"FreeLancesModel", "isFull", "()Z"⟩, 27), (⟨"FreeLancesModel", "newBond", "(IIIIIIII)I"⟩, 27), (⟨"FreeLancesModel", "writes", "(III)V"⟩, 27), (⟨"FreeLancesModel", "isBond", "(I)Z"⟩, 27), (⟨"FreeLancesModel", "gives", "(III)V"⟩, 27), (⟨"FreeLancesModel", "owes", "(II)V"⟩, 27), (⟨"FreeLancesModel", "clashOf", "(II)I"⟩, 27), (⟨"FreeLancesModel", "both", "(II)I"⟩, 27), (⟨"FreeLancesModel", "clashes", "(II)I"⟩, 27), (⟨"FreeLancesModel", "marked", "(II)I"⟩, 27), (⟨"FreeLancesModel", "counts", "(I)Z"⟩, 27), (⟨"FreeLancesModel", "twiceOf", "(III)I"⟩, 27), (⟨"FreeLancesModel", "isShown", "(II)Z"⟩, 27), (⟨"FreeLancesModel", "isOfThrees", "(II)Z"⟩, 27), (⟨"FreeLancesModel", "findWinter", "()V"⟩, 27), (⟨"FreeLancesModel", "settle", "(III)V"⟩, 27)]
theorem lw_r5 : ∀ q ∈ lw_privs_5, lw_okq q := List.forall_mem_cons.mpr ⟨lw_p64, List.forall_mem_cons.mpr ⟨lw_p65, List.forall_mem_cons.mpr ⟨lw_p66, List.forall_mem_cons.mpr ⟨lw_p67, List.forall_mem_cons.mpr ⟨lw_p68, List.forall_mem_cons.mpr ⟨lw_p69, List.forall_mem_cons.mpr ⟨lw_p70, List.forall_mem_cons.mpr ⟨lw_p71, List.forall_mem_cons.mpr ⟨lw_p72, List.forall_mem_cons.mpr ⟨lw_p73, List.forall_mem_cons.mpr ⟨lw_p74, List.forall_mem_cons.mpr ⟨lw_p75, List.forall_mem_cons.mpr ⟨lw_p76, List.forall_mem_cons.mpr ⟨lw_p77, List.forall_mem_cons.mpr ⟨lw_p78, List.forall_mem_cons.mpr ⟨lw_p79, fun _ h => absurd h List.not_mem_nil⟩⟩⟩⟩⟩⟩⟩⟩⟩⟩⟩⟩⟩⟩⟩⟩
theorem lw_p80 : lw_okq (⟨"FreeLancesModel", "hires", "(III)V"⟩, 27) := ⟨⟨by decide +kernel, by decide +kernel⟩, List.mem_of_getElem? (i := 1141) (by decide +kernel), List.mem_of_getElem? (i := 1596) (by decide +kernel), List.mem_of_getElem? (i := 1597) (by decide +kernel)⟩
theorem lw_p81 : lw_okq (⟨"FreeLancesModel", "run", "(I)V"⟩, 27) := ⟨⟨by decide +kernel, by decide +kernel⟩, List.mem_of_getElem? (i := 1141) (by decide +kernel), List.mem_of_getElem? (i := 1604) (by decide +kernel), List.mem_of_getElem? (i := 1605) (by decide +kernel)⟩
theorem lw_p82 : lw_okq (⟨"FreeLancesModel", "eats", "(I)V"⟩, 27) := ⟨⟨by decide +kernel, by decide +kernel⟩, List.mem_of_getElem? (i := 1141) (by decide +kernel), List.mem_of_getElem? (i := 1608) (by decide +kernel), List.mem_of_getElem? (i := 1609) (by decide +kernel)⟩
theorem lw_p83 : lw_okq (⟨"FreeLancesModel", "changes", "(III)V"⟩, 27) := ⟨⟨by decide +kernel, by decide +kernel⟩, List.mem_of_getElem? (i := 1141) (by decide +kernel), List.mem_of_getElem? (i := 1612) (by decide +kernel), List.mem_of_getElem? (i := 1613) (by decide +kernel)⟩
theorem lw_p84 : lw_okq (⟨"FreeLancesModel", "month", "(I)V"⟩, 27) := ⟨⟨by decide +kernel, by decide +kernel⟩, List.mem_of_getElem? (i := 1141) (by decide +kernel), List.mem_of_getElem? (i := 1616) (by decide +kernel), List.mem_of_getElem? (i := 1617) (by decide +kernel)⟩
theorem lw_p85 : lw_okq (⟨"FreeLancesModel", "seen", "(II)I"⟩, 27) := ⟨⟨by decide +kernel, by decide +kernel⟩, List.mem_of_getElem? (i := 1141) (by decide +kernel), List.mem_of_getElem? (i := 1624) (by decide +kernel), List.mem_of_getElem? (i := 1625) (by decide +kernel)⟩
theorem lw_p86 : lw_okq (⟨"FreeLancesModel", "bindsOf", "(II)I"⟩, 27) := ⟨⟨by decide +kernel, by decide +kernel⟩, List.mem_of_getElem? (i := 1141) (by decide +kernel), List.mem_of_getElem? (i := 1632) (by decide +kernel), List.mem_of_getElem? (i := 1633) (by decide +kernel)⟩
theorem lw_p87 : lw_okq (⟨"FreeLancesModel", "ran", "(I)V"⟩, 27) := ⟨⟨by decide +kernel, by decide +kernel⟩, List.mem_of_getElem? (i := 1141) (by decide +kernel), List.mem_of_getElem? (i := 1636) (by decide +kernel), List.mem_of_getElem? (i := 1637) (by decide +kernel)⟩
theorem lw_p88 : lw_okq (⟨"FreeLancesModel", "bindsBond", "(II)I"⟩, 27) := ⟨⟨by decide +kernel, by decide +kernel⟩, List.mem_of_getElem? (i := 1141) (by decide +kernel), List.mem_of_getElem? (i := 1640) (by decide +kernel), List.mem_of_getElem? (i := 1641) (by decide +kernel)⟩
theorem lw_p89 : lw_okq (⟨"FreeLancesModel", "paysOf", "(II)I"⟩, 27) := ⟨⟨by decide +kernel, by decide +kernel⟩, List.mem_of_getElem? (i := 1141) (by decide +kernel), List.mem_of_getElem? (i := 1644) (by decide +kernel), List.mem_of_getElem? (i := 1645) (by decide +kernel)⟩
theorem lw_p90 : lw_okq (⟨"FreeLancesModel", "paysBond", "(II)I"⟩, 27) := ⟨⟨by decide +kernel, by decide +kernel⟩, List.mem_of_getElem? (i := 1141) (by decide +kernel), List.mem_of_getElem? (i := 1648) (by decide +kernel), List.mem_of_getElem? (i := 1649) (by decide +kernel)⟩
theorem lw_p91 : lw_okq (⟨"FreeLancesModel", "endsOf", "(II)I"⟩, 27) := ⟨⟨by decide +kernel, by decide +kernel⟩, List.mem_of_getElem? (i := 1141) (by decide +kernel), List.mem_of_getElem? (i := 1652) (by decide +kernel), List.mem_of_getElem? (i := 1653) (by decide +kernel)⟩
theorem lw_p92 : lw_okq (⟨"FreeLancesModel", "endsContract", "(II)I"⟩, 27) := ⟨⟨by decide +kernel, by decide +kernel⟩, List.mem_of_getElem? (i := 1141) (by decide +kernel), List.mem_of_getElem? (i := 1656) (by decide +kernel), List.mem_of_getElem? (i := 1657) (by decide +kernel)⟩
theorem lw_p93 : lw_okq (⟨"FreeLancesModel", "endsBond", "(II)I"⟩, 27) := ⟨⟨by decide +kernel, by decide +kernel⟩, List.mem_of_getElem? (i := 1141) (by decide +kernel), List.mem_of_getElem? (i := 1660) (by decide +kernel), List.mem_of_getElem? (i := 1661) (by decide +kernel)⟩
theorem lw_p94 : lw_okq (⟨"FreeLancesModel", "tellsOf", "(II)I"⟩, 27) := ⟨⟨by decide +kernel, by decide +kernel⟩, List.mem_of_getElem? (i := 1141) (by decide +kernel), List.mem_of_getElem? (i := 1664) (by decide +kernel), List.mem_of_getElem? (i := 1665) (by decide +kernel)⟩
theorem lw_p95 : lw_okq (⟨"FreeLancesModel", "tellsBond", "(II)I"⟩, 27) := ⟨⟨by decide +kernel, by decide +kernel⟩, List.mem_of_getElem? (i := 1141) (by decide +kernel), List.mem_of_getElem? (i := 1668) (by decide +kernel), List.mem_of_getElem? (i := 1669) (by decide +kernel)⟩
def lw_privs_6 : List (MethodName × Nat) := [(⟨"FreeLancesModel", "hires", "(III)V"⟩, 27), (⟨"FreeLancesModel", "run", "(I)V"⟩, 27), (⟨"FreeLancesModel", "eats", "(I)V"⟩, 27), (⟨"FreeLancesModel", "changes", "(III)V"⟩, 27), (⟨"FreeLancesModel", "month", "(I)V"⟩, 27), (⟨"FreeLancesModel", "seen", "(II)I"⟩, 27), (⟨"FreeLancesModel", "bindsOf", "(II)I"⟩, 27), (⟨"FreeLancesModel", "ran", "(I)V"⟩, 27), (⟨"FreeLancesModel", "bindsBond", "(II)I"⟩, 27), (⟨"FreeLancesModel", "paysOf", "(II)I"⟩, 27), (⟨"FreeLancesModel", "paysBond", "(II)I"⟩, 27), (⟨"FreeLancesModel", "endsOf", "(II)I"⟩, 27), (⟨"FreeLancesModel", "endsContract", "(II)I"⟩, 27), (⟨"FreeLancesModel", "endsBond", "(II)I"⟩, 27), (⟨"FreeLancesModel", "tellsOf", "(II)I"⟩, 27), (⟨"FreeLancesModel", "tellsBond", "(II)I"⟩, 27)]
theorem lw_r6 : ∀ q ∈ lw_privs_6, lw_okq q := List.forall_mem_cons.mpr ⟨lw_p80, List.forall_mem_cons.mpr ⟨lw_p81, List.forall_mem_cons.mpr ⟨lw_p82, List.forall_mem_cons.mpr ⟨lw_p83, List.forall_mem_cons.mpr ⟨lw_p84, List.forall_mem_cons.mpr ⟨lw_p85, List.forall_mem_cons.mpr ⟨lw_p86, List.forall_mem_cons.mpr ⟨lw_p87, List.forall_mem_cons.mpr ⟨lw_p88, List.forall_mem_cons.mpr ⟨lw_p89, List.forall_mem_cons.mpr ⟨lw_p90, List.forall_mem_cons.mpr ⟨lw_p91, List.forall_mem_cons.mpr ⟨lw_p92, List.forall_mem_cons.mpr ⟨lw_p93, List.forall_mem_cons.mpr ⟨lw_p94, List.forall_mem_cons.mpr ⟨lw_p95, fun _ h => absurd h List.not_mem_nil⟩⟩⟩⟩⟩⟩⟩⟩⟩⟩⟩⟩⟩⟩⟩⟩
def lw_privs : List (MethodName × Nat) := lw_privs_1 ++ (lw_privs_2 ++ (lw_privs_3 ++ (lw_privs_4 ++ (lw_privs_5 ++ (lw_privs_6)))))
def lw_tbl : List Cond := k2_sels lw_privs ++ tables_1
theorem lw_privs_ok : ∀ q ∈ lw_privs, lw_okq q := by
  show ∀ q ∈ lw_privs_1 ++ (lw_privs_2 ++ (lw_privs_3 ++ (lw_privs_4 ++ (lw_privs_5 ++ (lw_privs_6))))), lw_okq q
  exact List.forall_mem_append.mpr ⟨lw_r1, List.forall_mem_append.mpr ⟨lw_r2, List.forall_mem_append.mpr ⟨lw_r3, List.forall_mem_append.mpr ⟨lw_r4, List.forall_mem_append.mpr ⟨lw_r5, lw_r6⟩⟩⟩⟩⟩
theorem goodIn_r {big : List Cond} (ws : List Cond) (ps : List Nat) (hp : ws = ps.filterMap (fun i => big[i]?)) (h : ws.all goodWord = true) : GoodIn big ws := by
  intro w hw
  have h1 := List.all_eq_true.mp h w hw
  rw [hp] at hw
  obtain ⟨i, -, hi⟩ := List.mem_filterMap.mp hw
  have hm : w ∈ big := by first | exact List.mem_of_getElem? hi | exact List.getElem?_mem hi
  exact ⟨hm, good_of_word h1⟩
theorem goodIn_app {big a b : List Cond} (ha : GoodIn big a) (hb : GoodIn big b) : GoodIn big (a ++ b) := fun w h => (List.mem_append.mp h).elim (ha w) (hb w)
theorem goodIn_ca {big a b : List Cond} {c : Cond} (ha : GoodIn big (c :: a)) (hb : GoodIn big b) : GoodIn big (c :: (a ++ b)) := fun w h => (List.mem_cons.mp h).elim (fun e => ha w (List.mem_cons.mpr (Or.inl e))) (fun h => (List.mem_append.mp h).elim (fun h => ha w (List.mem_cons.mpr (Or.inr h))) (hb w))
theorem goodIn_sub {big ws : List Cond} (hm : ∀ w ∈ ws, w ∈ big) (h : ws.all goodWord = true) : GoodIn big ws := fun w hw => ⟨hm w hw, good_of_word (List.all_eq_true.mp h w hw)⟩
def RX0 : String := "FreeLances$Bond"
def TX0 : u_T := fun k => match k with
  | 0 => ("FreeLances$Bond", "kind", "I", false)
  | 1 => ("FreeLances$Bond", "company", "I", false)
  | 2 => ("FreeLances$Bond", "first", "I", false)
  | 3 => ("FreeLances$Bond", "last", "I", false)
  | 4 => ("FreeLances$Bond", "sum", "I", false)
  | 5 => ("FreeLances$Bond", "town", "I", false)
  | 6 => ("FreeLances$Bond", "foe", "I", false)
  | 7 => ("FreeLances$Bond", "other", "I", false)
  | 8 => ("FreeLances$Bond", "owed", "I", false)
  | 9 => ("FreeLances$Bond", "since", "I", false)
  | 10 => ("FreeLances$Bond", "advanced", "I", false)
  | _ => ("FreeLances$Bond", "renewed", "Z", false)
def tyX0 : Nat → FieldType := fun k => match k with
  | 0 => .int
  | 1 => .int
  | 2 => .int
  | 3 => .int
  | 4 => .int
  | 5 => .int
  | 6 => .int
  | 7 => .int
  | 8 => .int
  | 9 => .int
  | 10 => .int
  | _ => .boolean
abbrev wsX00 : List Cond := u_ws RX0 TX0 12
theorem nmX0 : ∀ a, a < 12 → ∀ b, b < 12 → a ≠ b → (TX0 a).2.1 ≠ (TX0 b).2.1 := by decide +kernel
theorem tyX0_ok : ∀ k, k < 12 → parseFieldDescriptor (TX0 k).2.2.1 = some (tyX0 k) := by decide +kernel
def RX1 : String := "FreeLances$Company"
def TX1 : u_T := fun k => match k with
  | 0 => ("FreeLances$Company", "coin", "I", false)
  | 1 => ("FreeLances$Company", "bread", "I", false)
  | 2 => ("FreeLances$Company", "hunger", "I", false)
  | 3 => ("FreeLances$Company", "town", "I", false)
  | 4 => ("FreeLances$Company", "goal", "I", false)
  | 5 => ("FreeLances$Company", "arrival", "I", false)
  | 6 => ("FreeLances$Company", "fit", "I", false)
  | 7 => ("FreeLances$Company", "sick", "I", false)
  | 8 => ("FreeLances$Company", "counted", "I", false)
  | 9 => ("FreeLances$Company", "musterDay", "I", false)
  | 10 => ("FreeLances$Company", "musterTown", "I", false)
  | 11 => ("FreeLances$Company", "shownCount", "I", false)
  | 12 => ("FreeLances$Company", "shownMarks", "[I", true)
  | _ => ("FreeLances$Company", "winterCosts", "[I", true)
def tyX1 : Nat → FieldType := fun k => match k with
  | 0 => .int
  | 1 => .int
  | 2 => .int
  | 3 => .int
  | 4 => .int
  | 5 => .int
  | 6 => .int
  | 7 => .int
  | 8 => .int
  | 9 => .int
  | 10 => .int
  | 11 => .int
  | 12 => .array .int
  | _ => .array .int
abbrev wsX10 : List Cond := u_ws RX1 TX1 14
theorem nmX1 : ∀ a, a < 14 → ∀ b, b < 14 → a ≠ b → (TX1 a).2.1 ≠ (TX1 b).2.1 := by decide +kernel
theorem tyX1_ok : ∀ k, k < 14 → parseFieldDescriptor (TX1 k).2.2.1 = some (tyX1 k) := by decide +kernel
def RX2 : String := "FreeLances$Lance"
def TX2 : u_T := fun k => match k with
  | 0 => ("FreeLances$Lance", "company", "I", false)
  | 1 => ("FreeLances$Lance", "mark", "I", false)
  | 2 => ("FreeLances$Lance", "height", "I", false)
  | 3 => ("FreeLances$Lance", "how", "I", false)
  | _ => ("FreeLances$Lance", "holder", "I", false)
def tyX2 : Nat → FieldType := fun k => match k with
  | 0 => .int
  | 1 => .int
  | 2 => .int
  | 3 => .int
  | _ => .int
abbrev wsX20 : List Cond := u_ws RX2 TX2 5
theorem nmX2 : ∀ a, a < 5 → ∀ b, b < 5 → a ≠ b → (TX2 a).2.1 ≠ (TX2 b).2.1 := by decide +kernel
theorem tyX2_ok : ∀ k, k < 5 → parseFieldDescriptor (TX2 k).2.2.1 = some (tyX2 k) := by decide +kernel
def RX3 : String := "FreeLances$Plans"
def TX3 : u_T := fun k => match k with
  | 0 => ("FreeLances$Plans", "winterBest", "[I", true)
  | _ => ("FreeLances$Plans", "hireBest", "[I", true)
def tyX3 : Nat → FieldType := fun k => match k with
  | 0 => .array .int
  | _ => .array .int
abbrev wsX30 : List Cond := u_ws RX3 TX3 2
theorem nmX3 : ∀ a, a < 2 → ∀ b, b < 2 → a ≠ b → (TX3 a).2.1 ≠ (TX3 b).2.1 := by decide +kernel
theorem tyX3_ok : ∀ k, k < 2 → parseFieldDescriptor (TX3 k).2.2.1 = some (tyX3 k) := by decide +kernel
def RX4 : String := "FreeLances$Reader"
def TX4 : u_T := fun k => match k with
  | 0 => ("FreeLances$Reader", "text", "[B", false)
  | 1 => ("FreeLances$Reader", "length", "I", false)
  | 2 => ("FreeLances$Reader", "use", "I", false)
  | 3 => ("FreeLances$Reader", "first", "I", false)
  | 4 => ("FreeLances$Reader", "second", "I", false)
  | 5 => ("FreeLances$Reader", "third", "I", false)
  | 6 => ("FreeLances$Reader", "place", "I", false)
  | _ => ("FreeLances$Reader", "fault", "I", false)
def tyX4 : Nat → FieldType := fun k => match k with
  | 0 => .array .byte
  | 1 => .int
  | 2 => .int
  | 3 => .int
  | 4 => .int
  | 5 => .int
  | 6 => .int
  | _ => .int
abbrev wsX40 : List Cond := u_ws RX4 TX4 8
theorem nmX4 : ∀ a, a < 8 → ∀ b, b < 8 → a ≠ b → (TX4 a).2.1 ≠ (TX4 b).2.1 := by decide +kernel
theorem tyX4_ok : ∀ k, k < 8 → parseFieldDescriptor (TX4 k).2.2.1 = some (tyX4 k) := by decide +kernel
def RX5 : String := "FreeLances$Sheet"
def TX5 : u_T := fun k => match k with
  | 0 => ("FreeLances$Sheet", "bits", "I", false)
  | 1 => ("FreeLances$Sheet", "length", "I", false)
  | _ => ("FreeLances$Sheet", "numbers", "[I", true)
def tyX5 : Nat → FieldType := fun k => match k with
  | 0 => .int
  | 1 => .int
  | _ => .array .int
abbrev wsX50 : List Cond := u_ws RX5 TX5 3
theorem nmX5 : ∀ a, a < 3 → ∀ b, b < 3 → a ≠ b → (TX5 a).2.1 ≠ (TX5 b).2.1 := by decide +kernel
theorem tyX5_ok : ∀ k, k < 3 → parseFieldDescriptor (TX5 k).2.2.1 = some (tyX5 k) := by decide +kernel
def RX6 : String := "FreeLances$Statute"
def TX6 : u_T := fun k => match k with
  | 0 => ("FreeLances$Statute", "use", "I", false)
  | 1 => ("FreeLances$Statute", "from", "I", false)
  | 2 => ("FreeLances$Statute", "length", "I", false)
  | _ => ("FreeLances$Statute", "text", "[B", true)
def tyX6 : Nat → FieldType := fun k => match k with
  | 0 => .int
  | 1 => .int
  | 2 => .int
  | _ => .array .byte
abbrev wsX60 : List Cond := u_ws RX6 TX6 4
theorem nmX6 : ∀ a, a < 4 → ∀ b, b < 4 → a ≠ b → (TX6 a).2.1 ≠ (TX6 b).2.1 := by decide +kernel
theorem tyX6_ok : ∀ k, k < 4 → parseFieldDescriptor (TX6 k).2.2.1 = some (tyX6 k) := by decide +kernel
def RX7 : String := "FreeLances$Town"
def TX7 : u_T := fun k => match k with
  | 0 => ("FreeLances$Town", "coin", "I", false)
  | 1 => ("FreeLances$Town", "bread", "I", false)
  | 2 => ("FreeLances$Town", "wall", "I", false)
  | _ => ("FreeLances$Town", "guns", "I", false)
def tyX7 : Nat → FieldType := fun k => match k with
  | 0 => .int
  | 1 => .int
  | 2 => .int
  | _ => .int
abbrev wsX70 : List Cond := u_ws RX7 TX7 4
theorem nmX7 : ∀ a, a < 4 → ∀ b, b < 4 → a ≠ b → (TX7 a).2.1 ≠ (TX7 b).2.1 := by decide +kernel
theorem tyX7_ok : ∀ k, k < 4 → parseFieldDescriptor (TX7 k).2.2.1 = some (tyX7 k) := by decide +kernel
def RX8 : String := "FreeLances$Voices"
def TX8 : u_T := fun k => match k with
  | 0 => ("FreeLances$Voices", "begun", "[I", true)
  | 1 => ("FreeLances$Voices", "length", "I", false)
  | 2 => ("FreeLances$Voices", "kind", "I", false)
  | 3 => ("FreeLances$Voices", "number", "I", false)
  | _ => ("FreeLances$Voices", "sum", "I", false)
def tyX8 : Nat → FieldType := fun k => match k with
  | 0 => .array .int
  | 1 => .int
  | 2 => .int
  | 3 => .int
  | _ => .int
abbrev wsX80 : List Cond := u_ws RX8 TX8 5
theorem nmX8 : ∀ a, a < 5 → ∀ b, b < 5 → a ≠ b → (TX8 a).2.1 ≠ (TX8 b).2.1 := by decide +kernel
theorem tyX8_ok : ∀ k, k < 5 → parseFieldDescriptor (TX8 k).2.2.1 = some (tyX8 k) := by decide +kernel
def RX9 : String := "FreeLances$World"
def TX9 : u_T := fun k => match k with
  | 0 => ("FreeLances$World", "day", "I", false)
  | 1 => ("FreeLances$World", "towns", "[LFreeLances$Town;", true)
  | 2 => ("FreeLances$World", "townCount", "I", false)
  | 3 => ("FreeLances$World", "roadCount", "I", false)
  | 4 => ("FreeLances$World", "ways", "[I", true)
  | 5 => ("FreeLances$World", "companies", "[LFreeLances$Company;", true)
  | 6 => ("FreeLances$World", "companyCount", "I", false)
  | 7 => ("FreeLances$World", "lances", "[LFreeLances$Lance;", true)
  | 8 => ("FreeLances$World", "lanceCount", "I", false)
  | 9 => ("FreeLances$World", "statutes", "[LFreeLances$Statute;", true)
  | 10 => ("FreeLances$World", "statuteCount", "I", false)
  | 11 => ("FreeLances$World", "bonds", "[LFreeLances$Bond;", true)
  | 12 => ("FreeLances$World", "bondCount", "I", false)
  | 13 => ("FreeLances$World", "tape", "[B", true)
  | 14 => ("FreeLances$World", "tapeLength", "I", false)
  | 15 => ("FreeLances$World", "waiting", "[I", true)
  | 16 => ("FreeLances$World", "waitingCount", "I", false)
  | _ => ("FreeLances$World", "reader", "LFreeLances$Reader;", true)
def tyX9 : Nat → FieldType := fun k => match k with
  | 0 => .int
  | 1 => .array (.object "FreeLances$Town")
  | 2 => .int
  | 3 => .int
  | 4 => .array .int
  | 5 => .array (.object "FreeLances$Company")
  | 6 => .int
  | 7 => .array (.object "FreeLances$Lance")
  | 8 => .int
  | 9 => .array (.object "FreeLances$Statute")
  | 10 => .int
  | 11 => .array (.object "FreeLances$Bond")
  | 12 => .int
  | 13 => .array .byte
  | 14 => .int
  | 15 => .array .int
  | 16 => .int
  | _ => .object "FreeLances$Reader"
abbrev wsX90 : List Cond := u_ws RX9 TX9 18
theorem nmX9 : ∀ a, a < 18 → ∀ b, b < 18 → a ≠ b → (TX9 a).2.1 ≠ (TX9 b).2.1 := by decide +kernel
theorem tyX9_ok : ∀ k, k < 18 → parseFieldDescriptor (TX9 k).2.2.1 = some (tyX9 k) := by decide +kernel
def RX10 : String := "FreeLances"
def TX10 : u_T := fun k => match k with
  | 0 => ("FreeLances", "world", "LFreeLances$World;", true)
  | 1 => ("FreeLances", "kept", "LFreeLances$World;", true)
  | 2 => ("FreeLances", "trial", "LFreeLances$World;", true)
  | 3 => ("FreeLances", "sheets", "[LFreeLances$Sheet;", true)
  | 4 => ("FreeLances", "voices", "LFreeLances$Voices;", true)
  | 5 => ("FreeLances", "plans", "LFreeLances$Plans;", true)
  | 6 => ("FreeLances", "findings", "[I", true)
  | _ => ("FreeLances", "images", "I", false)
def tyX10 : Nat → FieldType := fun k => match k with
  | 0 => .object "FreeLances$World"
  | 1 => .object "FreeLances$World"
  | 2 => .object "FreeLances$World"
  | 3 => .array (.object "FreeLances$Sheet")
  | 4 => .object "FreeLances$Voices"
  | 5 => .object "FreeLances$Plans"
  | 6 => .array .int
  | _ => .int
abbrev wsX100 : List Cond := u_ws RX10 TX10 8
theorem nmX10 : ∀ a, a < 8 → ∀ b, b < 8 → a ≠ b → (TX10 a).2.1 ≠ (TX10 b).2.1 := by decide +kernel
theorem tyX10_ok : ∀ k, k < 8 → parseFieldDescriptor (TX10 k).2.2.1 = some (tyX10 k) := by decide +kernel
def RX11 : String := "FreeLancesModel"
def TX11 : u_T := fun k => match k with
  | 0 => ("FreeLancesModel", "now", "[I", true)
  | 1 => ("FreeLancesModel", "kept", "[I", true)
  | 2 => ("FreeLancesModel", "was", "[I", true)
  | 3 => ("FreeLancesModel", "found", "[I", true)
  | 4 => ("FreeLancesModel", "images", "I", false)
  | 5 => ("FreeLancesModel", "fars", "[I", true)
  | 6 => ("FreeLancesModel", "acts", "[I", true)
  | 7 => ("FreeLancesModel", "waits", "[I", true)
  | 8 => ("FreeLancesModel", "row", "[I", true)
  | 9 => ("FreeLancesModel", "names", "[I", true)
  | 10 => ("FreeLancesModel", "acted", "I", false)
  | 11 => ("FreeLancesModel", "waiting", "I", false)
  | 12 => ("FreeLancesModel", "place", "I", false)
  | 13 => ("FreeLancesModel", "places", "[I", true)
  | 14 => ("FreeLancesModel", "bestPlaces", "[I", true)
  | 15 => ("FreeLancesModel", "leastCost", "I", false)
  | 16 => ("FreeLancesModel", "hired", "[I", true)
  | 17 => ("FreeLancesModel", "bestHired", "[I", true)
  | 18 => ("FreeLancesModel", "fitOf", "[I", true)
  | 19 => ("FreeLancesModel", "hireSheet", "I", false)
  | 20 => ("FreeLancesModel", "leastPaid", "I", false)
  | 21 => ("FreeLancesModel", "trace", "[I", true)
  | 22 => ("FreeLancesModel", "traced", "I", false)
  | 23 => ("FreeLancesModel", "bitsOf", "[I", true)
  | 24 => ("FreeLancesModel", "sizeOf", "[I", true)
  | 25 => ("FreeLancesModel", "sheets", "[I", true)
  | _ => ("FreeLancesModel", "carried", "[I", true)
def tyX11 : Nat → FieldType := fun k => match k with
  | 0 => .array .int
  | 1 => .array .int
  | 2 => .array .int
  | 3 => .array .int
  | 4 => .int
  | 5 => .array .int
  | 6 => .array .int
  | 7 => .array .int
  | 8 => .array .int
  | 9 => .array .int
  | 10 => .int
  | 11 => .int
  | 12 => .int
  | 13 => .array .int
  | 14 => .array .int
  | 15 => .int
  | 16 => .array .int
  | 17 => .array .int
  | 18 => .array .int
  | 19 => .int
  | 20 => .int
  | 21 => .array .int
  | 22 => .int
  | 23 => .array .int
  | 24 => .array .int
  | 25 => .array .int
  | _ => .array .int
abbrev wsX110 : List Cond := u_ws RX11 TX11 27
theorem nmX11 : ∀ a, a < 27 → ∀ b, b < 27 → a ≠ b → (TX11 a).2.1 ≠ (TX11 b).2.1 := by decide +kernel
theorem tyX11_ok : ∀ k, k < 27 → parseFieldDescriptor (TX11 k).2.2.1 = some (tyX11 k) := by decide +kernel
def nestWord : Cond → Bool
  | .fieldLinkNest _ _ _ _ _ _ => true
  | .methodLinkNest _ _ _ _ => true
  | _ => false
/-- the words that a callee may ask too -/
def tbT : List Cond := lw_tbl.filter fun w => goodWord w || nestWord w
theorem iX0 : ∀ w ∈ u_ws RX0 TX0 12, w ∈ tbT := by decide +kernel
theorem iX1 : ∀ w ∈ u_ws RX1 TX1 14, w ∈ tbT := by decide +kernel
theorem iX2 : ∀ w ∈ u_ws RX2 TX2 5, w ∈ tbT := by decide +kernel
theorem iX3 : ∀ w ∈ u_ws RX3 TX3 2, w ∈ tbT := by decide +kernel
theorem iX4 : ∀ w ∈ u_ws RX4 TX4 8, w ∈ tbT := by decide +kernel
theorem iX5 : ∀ w ∈ u_ws RX5 TX5 3, w ∈ tbT := by decide +kernel
theorem iX6 : ∀ w ∈ u_ws RX6 TX6 4, w ∈ tbT := by decide +kernel
theorem iX7 : ∀ w ∈ u_ws RX7 TX7 4, w ∈ tbT := by decide +kernel
theorem iX8 : ∀ w ∈ u_ws RX8 TX8 5, w ∈ tbT := by decide +kernel
theorem iX9 : ∀ w ∈ u_ws RX9 TX9 18, w ∈ tbT := by decide +kernel
theorem iX10 : ∀ w ∈ u_ws RX10 TX10 8, w ∈ tbT := by decide +kernel
theorem iX11 : ∀ w ∈ u_ws RX11 TX11 27, w ∈ tbT := by decide +kernel
abbrev cls : List vw_C := [(RX0, TX0, 12), (RX1, TX1, 14), (RX2, TX2, 5), (RX3, TX3, 2), (RX4, TX4, 8), (RX5, TX5, 3), (RX6, TX6, 4), (RX7, TX7, 4), (RX8, TX8, 5), (RX9, TX9, 18), (RX10, TX10, 8), (RX11, TX11, 27)]
