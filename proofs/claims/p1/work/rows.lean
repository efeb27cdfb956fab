section
-- ===== PART A: goes FIRST, ahead of the names: the tables' words, and 'selects' of the private methods out of them =====
/-- a private method of a class that the tables say can be made, by its rows of tables_1 -/
def lw_okq (q : MethodName × Nat) : Prop := (q.1.cls ≠ "java/lang/invoke/MethodHandle" ∧ q.1.cls ≠ "java/lang/invoke/VarHandle") ∧ Cond.instantiable q.1.cls q.2 ∈ tables_1 ∧ Cond.privateMethod q.1 ∈ tables_1 ∧ Cond.instanceMethod q.1 ∈ tables_1
theorem lw_p0 : lw_okq (⟨"GoodbyeQuay$Past", "rowNow", "()I"⟩, 4) := ⟨⟨by decide +kernel, by decide +kernel⟩, List.mem_of_getElem? (i := 261) (by decide +kernel), List.mem_of_getElem? (i := 286) (by decide +kernel), List.mem_of_getElem? (i := 287) (by decide +kernel)⟩
theorem lw_p1 : lw_okq (⟨"GoodbyeQuay$Reader", "advance", "()V"⟩, 10) := ⟨⟨by decide +kernel, by decide +kernel⟩, List.mem_of_getElem? (i := 163) (by decide +kernel), List.mem_of_getElem? (i := 538) (by decide +kernel), List.mem_of_getElem? (i := 539) (by decide +kernel)⟩
theorem lw_p2 : lw_okq (⟨"GoodbyeQuay$Reader", "takeWord", "()V"⟩, 10) := ⟨⟨by decide +kernel, by decide +kernel⟩, List.mem_of_getElem? (i := 163) (by decide +kernel), List.mem_of_getElem? (i := 552) (by decide +kernel), List.mem_of_getElem? (i := 553) (by decide +kernel)⟩
theorem lw_p3 : lw_okq (⟨"GoodbyeQuay$Reader", "refuse", "(I)V"⟩, 10) := ⟨⟨by decide +kernel, by decide +kernel⟩, List.mem_of_getElem? (i := 163) (by decide +kernel), List.mem_of_getElem? (i := 557) (by decide +kernel), List.mem_of_getElem? (i := 558) (by decide +kernel)⟩
theorem lw_p4 : lw_okq (⟨"GoodbyeQuay$Reader", "kindOfWord", "()I"⟩, 10) := ⟨⟨by decide +kernel, by decide +kernel⟩, List.mem_of_getElem? (i := 163) (by decide +kernel), List.mem_of_getElem? (i := 561) (by decide +kernel), List.mem_of_getElem? (i := 562) (by decide +kernel)⟩
theorem lw_p5 : lw_okq (⟨"GoodbyeQuay$Reader", "takeNumber", "()V"⟩, 10) := ⟨⟨by decide +kernel, by decide +kernel⟩, List.mem_of_getElem? (i := 163) (by decide +kernel), List.mem_of_getElem? (i := 617) (by decide +kernel), List.mem_of_getElem? (i := 618) (by decide +kernel)⟩
theorem lw_p6 : lw_okq (⟨"GoodbyeQuay$Reader", "readLine", "()V"⟩, 10) := ⟨⟨by decide +kernel, by decide +kernel⟩, List.mem_of_getElem? (i := 163) (by decide +kernel), List.mem_of_getElem? (i := 681) (by decide +kernel), List.mem_of_getElem? (i := 682) (by decide +kernel)⟩
theorem lw_p7 : lw_okq (⟨"GoodbyeQuay$Reader", "readShip", "()V"⟩, 10) := ⟨⟨by decide +kernel, by decide +kernel⟩, List.mem_of_getElem? (i := 163) (by decide +kernel), List.mem_of_getElem? (i := 685) (by decide +kernel), List.mem_of_getElem? (i := 686) (by decide +kernel)⟩
theorem lw_p8 : lw_okq (⟨"GoodbyeQuay$Reader", "readNewName", "([JI)J"⟩, 10) := ⟨⟨by decide +kernel, by decide +kernel⟩, List.mem_of_getElem? (i := 163) (by decide +kernel), List.mem_of_getElem? (i := 689) (by decide +kernel), List.mem_of_getElem? (i := 690) (by decide +kernel)⟩
theorem lw_p9 : lw_okq (⟨"GoodbyeQuay$Reader", "expect", "(I)V"⟩, 10) := ⟨⟨by decide +kernel, by decide +kernel⟩, List.mem_of_getElem? (i := 163) (by decide +kernel), List.mem_of_getElem? (i := 696) (by decide +kernel), List.mem_of_getElem? (i := 697) (by decide +kernel)⟩
theorem lw_p10 : lw_okq (⟨"GoodbyeQuay$Reader", "readNumber", "(II)I"⟩, 10) := ⟨⟨by decide +kernel, by decide +kernel⟩, List.mem_of_getElem? (i := 163) (by decide +kernel), List.mem_of_getElem? (i := 700) (by decide +kernel), List.mem_of_getElem? (i := 701) (by decide +kernel)⟩
theorem lw_p11 : lw_okq (⟨"GoodbyeQuay$Reader", "readPair", "()V"⟩, 10) := ⟨⟨by decide +kernel, by decide +kernel⟩, List.mem_of_getElem? (i := 163) (by decide +kernel), List.mem_of_getElem? (i := 704) (by decide +kernel), List.mem_of_getElem? (i := 705) (by decide +kernel)⟩
theorem lw_p12 : lw_okq (⟨"GoodbyeQuay$Reader", "readShipName", "()I"⟩, 10) := ⟨⟨by decide +kernel, by decide +kernel⟩, List.mem_of_getElem? (i := 163) (by decide +kernel), List.mem_of_getElem? (i := 708) (by decide +kernel), List.mem_of_getElem? (i := 709) (by decide +kernel)⟩
theorem lw_p13 : lw_okq (⟨"GoodbyeQuay$Reader", "readOnce", "(I)V"⟩, 10) := ⟨⟨by decide +kernel, by decide +kernel⟩, List.mem_of_getElem? (i := 163) (by decide +kernel), List.mem_of_getElem? (i := 712) (by decide +kernel), List.mem_of_getElem? (i := 713) (by decide +kernel)⟩
theorem lw_p14 : lw_okq (⟨"GoodbyeQuay$Reader", "readFormula", "(I)V"⟩, 10) := ⟨⟨by decide +kernel, by decide +kernel⟩, List.mem_of_getElem? (i := 163) (by decide +kernel), List.mem_of_getElem? (i := 716) (by decide +kernel), List.mem_of_getElem? (i := 717) (by decide +kernel)⟩
theorem lw_p15 : lw_okq (⟨"GoodbyeQuay$Reader", "readBoth", "(I)V"⟩, 10) := ⟨⟨by decide +kernel, by decide +kernel⟩, List.mem_of_getElem? (i := 163) (by decide +kernel), List.mem_of_getElem? (i := 720) (by decide +kernel), List.mem_of_getElem? (i := 721) (by decide +kernel)⟩
def lw_privs_1 : List (MethodName × Nat) := [(⟨"GoodbyeQuay$Past", "rowNow", "()I"⟩, 4), (⟨"GoodbyeQuay$Reader", "advance", "()V"⟩, 10), (⟨"GoodbyeQuay$Reader", "takeWord", "()V"⟩, 10), (⟨"GoodbyeQuay$Reader", "refuse", "(I)V"⟩, 10), (⟨"GoodbyeQuay$Reader", "kindOfWord", "()I"⟩, 10), (⟨"GoodbyeQuay$Reader", "takeNumber", "()V"⟩, 10), (⟨"GoodbyeQuay$Reader", "readLine", "()V"⟩, 10), (⟨"GoodbyeQuay$Reader", "readShip", "()V"⟩, 10), (⟨"GoodbyeQuay$Reader", "readNewName", "([JI)J"⟩, 10), (⟨"GoodbyeQuay$Reader", "expect", "(I)V"⟩, 10), (⟨"GoodbyeQuay$Reader", "readNumber", "(II)I"⟩, 10), (⟨"GoodbyeQuay$Reader", "readPair", "()V"⟩, 10), (⟨"GoodbyeQuay$Reader", "readShipName", "()I"⟩, 10), (⟨"GoodbyeQuay$Reader", "readOnce", "(I)V"⟩, 10), (⟨"GoodbyeQuay$Reader", "readFormula", "(I)V"⟩, 10), (⟨"GoodbyeQuay$Reader", "readBoth", "(I)V"⟩, 10)]
theorem lw_r1 : ∀ q ∈ lw_privs_1, lw_okq q := List.forall_mem_cons.mpr ⟨lw_p0, List.forall_mem_cons.mpr ⟨lw_p1, List.forall_mem_cons.mpr ⟨lw_p2, List.forall_mem_cons.mpr ⟨lw_p3, List.forall_mem_cons.mpr ⟨lw_p4, List.forall_mem_cons.mpr ⟨lw_p5, List.forall_mem_cons.mpr ⟨lw_p6, List.forall_mem_cons.mpr ⟨lw_p7, List.forall_mem_cons.mpr ⟨lw_p8, List.forall_mem_cons.mpr ⟨lw_p9, List.forall_mem_cons.mpr ⟨lw_p10, List.forall_mem_cons.mpr ⟨lw_p11, List.forall_mem_cons.mpr ⟨lw_p12, List.forall_mem_cons.mpr ⟨lw_p13, List.forall_mem_cons.mpr ⟨lw_p14, List.forall_mem_cons.mpr ⟨lw_p15, fun _ h => absurd h List.not_mem_nil⟩⟩⟩⟩⟩⟩⟩⟩⟩⟩⟩⟩⟩⟩⟩⟩
theorem lw_p16 : lw_okq (⟨"GoodbyeQuay$Reader", "readOne", "(I)V"⟩, 10) := ⟨⟨by decide +kernel, by decide +kernel⟩, List.mem_of_getElem? (i := 163) (by decide +kernel), List.mem_of_getElem? (i := 724) (by decide +kernel), List.mem_of_getElem? (i := 725) (by decide +kernel)⟩
theorem lw_p17 : lw_okq (⟨"GoodbyeQuay$Reader", "readSum", "(I)V"⟩, 10) := ⟨⟨by decide +kernel, by decide +kernel⟩, List.mem_of_getElem? (i := 163) (by decide +kernel), List.mem_of_getElem? (i := 732) (by decide +kernel), List.mem_of_getElem? (i := 733) (by decide +kernel)⟩
theorem lw_p18 : lw_okq (⟨"GoodbyeQuay$Reader", "readTerm", "(I)V"⟩, 10) := ⟨⟨by decide +kernel, by decide +kernel⟩, List.mem_of_getElem? (i := 163) (by decide +kernel), List.mem_of_getElem? (i := 736) (by decide +kernel), List.mem_of_getElem? (i := 737) (by decide +kernel)⟩
theorem lw_p19 : lw_okq (⟨"GoodbyeQuay$Reader", "readUnit", "(I)V"⟩, 10) := ⟨⟨by decide +kernel, by decide +kernel⟩, List.mem_of_getElem? (i := 163) (by decide +kernel), List.mem_of_getElem? (i := 740) (by decide +kernel), List.mem_of_getElem? (i := 741) (by decide +kernel)⟩
theorem lw_p20 : lw_okq (⟨"GoodbyeQuay$Trial", "settle", "(II)Z"⟩, 20) := ⟨⟨by decide +kernel, by decide +kernel⟩, List.mem_of_getElem? (i := 297) (by decide +kernel), List.mem_of_getElem? (i := 779) (by decide +kernel), List.mem_of_getElem? (i := 780) (by decide +kernel)⟩
theorem lw_p21 : lw_okq (⟨"GoodbyeQuay", "isShip", "(I)Z"⟩, 15) := ⟨⟨by decide +kernel, by decide +kernel⟩, List.mem_of_getElem? (i := 22) (by decide +kernel), List.mem_of_getElem? (i := 825) (by decide +kernel), List.mem_of_getElem? (i := 826) (by decide +kernel)⟩
theorem lw_p22 : lw_okq (⟨"GoodbyeQuay", "isGone", "(I)Z"⟩, 15) := ⟨⟨by decide +kernel, by decide +kernel⟩, List.mem_of_getElem? (i := 22) (by decide +kernel), List.mem_of_getElem? (i := 831) (by decide +kernel), List.mem_of_getElem? (i := 832) (by decide +kernel)⟩
theorem lw_p23 : lw_okq (⟨"GoodbyeQuay", "isPair", "(I)Z"⟩, 15) := ⟨⟨by decide +kernel, by decide +kernel⟩, List.mem_of_getElem? (i := 22) (by decide +kernel), List.mem_of_getElem? (i := 843) (by decide +kernel), List.mem_of_getElem? (i := 844) (by decide +kernel)⟩
theorem lw_p24 : lw_okq (⟨"GoodbyeQuay", "inQueue", "(I)Z"⟩, 15) := ⟨⟨by decide +kernel, by decide +kernel⟩, List.mem_of_getElem? (i := 22) (by decide +kernel), List.mem_of_getElem? (i := 867) (by decide +kernel), List.mem_of_getElem? (i := 868) (by decide +kernel)⟩
theorem lw_p25 : lw_okq (⟨"GoodbyeQuay", "lengthNow", "(I)I"⟩, 15) := ⟨⟨by decide +kernel, by decide +kernel⟩, List.mem_of_getElem? (i := 22) (by decide +kernel), List.mem_of_getElem? (i := 871) (by decide +kernel), List.mem_of_getElem? (i := 872) (by decide +kernel)⟩
theorem lw_p26 : lw_okq (⟨"GoodbyeQuay", "openTrial", "()V"⟩, 15) := ⟨⟨by decide +kernel, by decide +kernel⟩, List.mem_of_getElem? (i := 22) (by decide +kernel), List.mem_of_getElem? (i := 875) (by decide +kernel), List.mem_of_getElem? (i := 876) (by decide +kernel)⟩
theorem lw_p27 : lw_okq (⟨"GoodbyeQuay", "aboutKept", "(I)I"⟩, 15) := ⟨⟨by decide +kernel, by decide +kernel⟩, List.mem_of_getElem? (i := 22) (by decide +kernel), List.mem_of_getElem? (i := 897) (by decide +kernel), List.mem_of_getElem? (i := 898) (by decide +kernel)⟩
theorem lw_p28 : lw_okq (⟨"GoodbyeQuay", "bitsOf", "(I)I"⟩, 15) := ⟨⟨by decide +kernel, by decide +kernel⟩, List.mem_of_getElem? (i := 22) (by decide +kernel), List.mem_of_getElem? (i := 901) (by decide +kernel), List.mem_of_getElem? (i := 902) (by decide +kernel)⟩
theorem lw_p29 : lw_okq (⟨"GoodbyeQuay", "fillRail", "(I)V"⟩, 15) := ⟨⟨by decide +kernel, by decide +kernel⟩, List.mem_of_getElem? (i := 22) (by decide +kernel), List.mem_of_getElem? (i := 914) (by decide +kernel), List.mem_of_getElem? (i := 915) (by decide +kernel)⟩
theorem lw_p30 : lw_okq (⟨"GoodbyeQuay", "workRails", "()I"⟩, 15) := ⟨⟨by decide +kernel, by decide +kernel⟩, List.mem_of_getElem? (i := 22) (by decide +kernel), List.mem_of_getElem? (i := 924) (by decide +kernel), List.mem_of_getElem? (i := 925) (by decide +kernel)⟩
theorem lw_p31 : lw_okq (⟨"GoodbyeQuay", "cutOffRails", "()V"⟩, 15) := ⟨⟨by decide +kernel, by decide +kernel⟩, List.mem_of_getElem? (i := 22) (by decide +kernel), List.mem_of_getElem? (i := 932) (by decide +kernel), List.mem_of_getElem? (i := 933) (by decide +kernel)⟩
def lw_privs_2 : List (MethodName × Nat) := [(⟨"GoodbyeQuay$Reader", "readOne", "(I)V"⟩, 10), (⟨"GoodbyeQuay$Reader", "readSum", "(I)V"⟩, 10), (⟨"GoodbyeQuay$Reader", "readTerm", "(I)V"⟩, 10), (⟨"GoodbyeQuay$Reader", "readUnit", "(I)V"⟩, 10), (⟨"GoodbyeQuay$Trial", "settle", "(II)Z"⟩, 20), (⟨"GoodbyeQuay", "isShip", "(I)Z"⟩, 15), (⟨"GoodbyeQuay", "isGone", "(I)Z"⟩, 15), (⟨"GoodbyeQuay", "isPair", "(I)Z"⟩, 15), (⟨"GoodbyeQuay", "inQueue", "(I)Z"⟩, 15), (⟨"GoodbyeQuay", "lengthNow", "(I)I"⟩, 15), (⟨"GoodbyeQuay", "openTrial", "()V"⟩, 15), (⟨"GoodbyeQuay", "aboutKept", "(I)I"⟩, 15), (⟨"GoodbyeQuay", "bitsOf", "(I)I"⟩, 15), (⟨"GoodbyeQuay", "fillRail", "(I)V"⟩, 15), (⟨"GoodbyeQuay", "workRails", "()I"⟩, 15), (⟨"GoodbyeQuay", "cutOffRails", "()V"⟩, 15)]
theorem lw_r2 : ∀ q ∈ lw_privs_2, lw_okq q := List.forall_mem_cons.mpr ⟨lw_p16, List.forall_mem_cons.mpr ⟨lw_p17, List.forall_mem_cons.mpr ⟨lw_p18, List.forall_mem_cons.mpr ⟨lw_p19, List.forall_mem_cons.mpr ⟨lw_p20, List.forall_mem_cons.mpr ⟨lw_p21, List.forall_mem_cons.mpr ⟨lw_p22, List.forall_mem_cons.mpr ⟨lw_p23, List.forall_mem_cons.mpr ⟨lw_p24, List.forall_mem_cons.mpr ⟨lw_p25, List.forall_mem_cons.mpr ⟨lw_p26, List.forall_mem_cons.mpr ⟨lw_p27, List.forall_mem_cons.mpr ⟨lw_p28, List.forall_mem_cons.mpr ⟨lw_p29, List.forall_mem_cons.mpr ⟨lw_p30, List.forall_mem_cons.mpr ⟨lw_p31, fun _ h => absurd h List.not_mem_nil⟩⟩⟩⟩⟩⟩⟩⟩⟩⟩⟩⟩⟩⟩⟩⟩
theorem lw_p32 : lw_okq (⟨"GoodbyeQuay", "countNow", "()I"⟩, 15) := ⟨⟨by decide +kernel, by decide +kernel⟩, List.mem_of_getElem? (i := 22) (by decide +kernel), List.mem_of_getElem? (i := 944) (by decide +kernel), List.mem_of_getElem? (i := 945) (by decide +kernel)⟩
theorem lw_p33 : lw_okq (⟨"GoodbyeQuay", "triedCount", "()I"⟩, 15) := ⟨⟨by decide +kernel, by decide +kernel⟩, List.mem_of_getElem? (i := 22) (by decide +kernel), List.mem_of_getElem? (i := 948) (by decide +kernel), List.mem_of_getElem? (i := 949) (by decide +kernel)⟩
theorem lw_p34 : lw_okq (⟨"GoodbyeQuay", "agreeOnShort", "(IZ)I"⟩, 15) := ⟨⟨by decide +kernel, by decide +kernel⟩, List.mem_of_getElem? (i := 22) (by decide +kernel), List.mem_of_getElem? (i := 963) (by decide +kernel), List.mem_of_getElem? (i := 964) (by decide +kernel)⟩
theorem lw_p35 : lw_okq (⟨"GoodbyeQuay", "loveOf", "(I)I"⟩, 15) := ⟨⟨by decide +kernel, by decide +kernel⟩, List.mem_of_getElem? (i := 22) (by decide +kernel), List.mem_of_getElem? (i := 1058) (by decide +kernel), List.mem_of_getElem? (i := 1059) (by decide +kernel)⟩
theorem lw_p36 : lw_okq (⟨"GoodbyeQuay", "layBestOrder", "()I"⟩, 15) := ⟨⟨by decide +kernel, by decide +kernel⟩, List.mem_of_getElem? (i := 22) (by decide +kernel), List.mem_of_getElem? (i := 1098) (by decide +kernel), List.mem_of_getElem? (i := 1099) (by decide +kernel)⟩
theorem lw_p37 : lw_okq (⟨"GoodbyeQuay$Orders", "goOn", "(III)V"⟩, 8) := ⟨⟨by decide +kernel, by decide +kernel⟩, List.mem_of_getElem? (i := 378) (by decide +kernel), List.mem_of_getElem? (i := 1108) (by decide +kernel), List.mem_of_getElem? (i := 1109) (by decide +kernel)⟩
theorem lw_p38 : lw_okq (⟨"GoodbyeQuay$Orders", "keepIfMore", "(I)V"⟩, 8) := ⟨⟨by decide +kernel, by decide +kernel⟩, List.mem_of_getElem? (i := 378) (by decide +kernel), List.mem_of_getElem? (i := 1112) (by decide +kernel), List.mem_of_getElem? (i := 1113) (by decide +kernel)⟩
theorem lw_p39 : lw_okq (⟨"GoodbyeQuay$Orders", "hopeOf", "(I)I"⟩, 8) := ⟨⟨by decide +kernel, by decide +kernel⟩, List.mem_of_getElem? (i := 378) (by decide +kernel), List.mem_of_getElem? (i := 1120) (by decide +kernel), List.mem_of_getElem? (i := 1121) (by decide +kernel)⟩
theorem lw_p40 : lw_okq (⟨"GoodbyeQuay$Orders", "isKnown", "(II)Z"⟩, 8) := ⟨⟨by decide +kernel, by decide +kernel⟩, List.mem_of_getElem? (i := 378) (by decide +kernel), List.mem_of_getElem? (i := 1125) (by decide +kernel), List.mem_of_getElem? (i := 1126) (by decide +kernel)⟩
theorem lw_p41 : lw_okq (⟨"GoodbyeQuay", "runWithout", "(I)V"⟩, 15) := ⟨⟨by decide +kernel, by decide +kernel⟩, List.mem_of_getElem? (i := 22) (by decide +kernel), List.mem_of_getElem? (i := 1151) (by decide +kernel), List.mem_of_getElem? (i := 1152) (by decide +kernel)⟩
theorem lw_p42 : lw_okq (⟨"GoodbyeQuay", "countChanged", "(II)I"⟩, 15) := ⟨⟨by decide +kernel, by decide +kernel⟩, List.mem_of_getElem? (i := 22) (by decide +kernel), List.mem_of_getElem? (i := 1163) (by decide +kernel), List.mem_of_getElem? (i := 1164) (by decide +kernel)⟩
theorem lw_p43 : lw_okq (⟨"GoodbyeQuay$Places", "roundOf", "(II)I"⟩, 4) := ⟨⟨by decide +kernel, by decide +kernel⟩, List.mem_of_getElem? (i := 411) (by decide +kernel), List.mem_of_getElem? (i := 1206) (by decide +kernel), List.mem_of_getElem? (i := 1207) (by decide +kernel)⟩
theorem lw_p44 : lw_okq (⟨"GoodbyeQuay$Sight", "isFitting", "(II)Z"⟩, 10) := ⟨⟨by decide +kernel, by decide +kernel⟩, List.mem_of_getElem? (i := 431) (by decide +kernel), List.mem_of_getElem? (i := 1270) (by decide +kernel), List.mem_of_getElem? (i := 1271) (by decide +kernel)⟩
theorem lw_p45 : lw_okq (⟨"GoodbyeQuay$Sight", "outBehind", "(II)I"⟩, 10) := ⟨⟨by decide +kernel, by decide +kernel⟩, List.mem_of_getElem? (i := 431) (by decide +kernel), List.mem_of_getElem? (i := 1274) (by decide +kernel), List.mem_of_getElem? (i := 1275) (by decide +kernel)⟩
theorem lw_p46 : lw_okq (⟨"GoodbyeQuayModel", "layTold", "()V"⟩, 85) := ⟨⟨by decide +kernel, by decide +kernel⟩, List.mem_of_getElem? (i := 1292) (by decide +kernel), List.mem_of_getElem? (i := 1298) (by decide +kernel), List.mem_of_getElem? (i := 1299) (by decide +kernel)⟩
theorem lw_p47 : lw_okq (⟨"GoodbyeQuayModel", "asTold", "()V"⟩, 85) := ⟨⟨by decide +kernel, by decide +kernel⟩, List.mem_of_getElem? (i := 1292) (by decide +kernel), List.mem_of_getElem? (i := 1302) (by decide +kernel), List.mem_of_getElem? (i := 1303) (by decide +kernel)⟩
def lw_privs_3 : List (MethodName × Nat) := [(⟨"GoodbyeQuay", "countNow", "()I"⟩, 15), (⟨"GoodbyeQuay", "triedCount", "()I"⟩, 15), (⟨"GoodbyeQuay", "agreeOnShort", "(IZ)I"⟩, 15), (⟨"GoodbyeQuay", "loveOf", "(I)I"⟩, 15), (⟨"GoodbyeQuay", "layBestOrder", "()I"⟩, 15), (⟨"GoodbyeQuay$Orders", "goOn", "(III)V"⟩, 8), (⟨"GoodbyeQuay$Orders", "keepIfMore", "(I)V"⟩, 8), (⟨"GoodbyeQuay$Orders", "hopeOf", "(I)I"⟩, 8), (⟨"GoodbyeQuay$Orders", "isKnown", "(II)Z"⟩, 8), (⟨"GoodbyeQuay", "runWithout", "(I)V"⟩, 15), (⟨"GoodbyeQuay", "countChanged", "(II)I"⟩, 15), (⟨"GoodbyeQuay$Places", "roundOf", "(II)I"⟩, 4), (⟨"GoodbyeQuay$Sight", "isFitting", "(II)Z"⟩, 10), (⟨"GoodbyeQuay$Sight", "outBehind", "(II)I"⟩, 10), (⟨"GoodbyeQuayModel", "layTold", "()V"⟩, 85), (⟨"GoodbyeQuayModel", "asTold", "()V"⟩, 85)]
theorem lw_r3 : ∀ q ∈ lw_privs_3, lw_okq q := List.forall_mem_cons.mpr ⟨lw_p32, List.forall_mem_cons.mpr ⟨lw_p33, List.forall_mem_cons.mpr ⟨lw_p34, List.forall_mem_cons.mpr ⟨lw_p35, List.forall_mem_cons.mpr ⟨lw_p36, List.forall_mem_cons.mpr ⟨lw_p37, List.forall_mem_cons.mpr ⟨lw_p38, List.forall_mem_cons.mpr ⟨lw_p39, List.forall_mem_cons.mpr ⟨lw_p40, List.forall_mem_cons.mpr ⟨lw_p41, List.forall_mem_cons.mpr ⟨lw_p42, List.forall_mem_cons.mpr ⟨lw_p43, List.forall_mem_cons.mpr ⟨lw_p44, List.forall_mem_cons.mpr ⟨lw_p45, List.forall_mem_cons.mpr ⟨lw_p46, List.forall_mem_cons.mpr ⟨lw_p47, fun _ h => absurd h List.not_mem_nil⟩⟩⟩⟩⟩⟩⟩⟩⟩⟩⟩⟩⟩⟩⟩⟩
theorem lw_p48 : lw_okq (⟨"GoodbyeQuayModel", "keepAir", "()V"⟩, 85) := ⟨⟨by decide +kernel, by decide +kernel⟩, List.mem_of_getElem? (i := 1292) (by decide +kernel), List.mem_of_getElem? (i := 1306) (by decide +kernel), List.mem_of_getElem? (i := 1307) (by decide +kernel)⟩
theorem lw_p49 : lw_okq (⟨"GoodbyeQuayModel", "four", "(I)V"⟩, 85) := ⟨⟨by decide +kernel, by decide +kernel⟩, List.mem_of_getElem? (i := 1292) (by decide +kernel), List.mem_of_getElem? (i := 1570) (by decide +kernel), List.mem_of_getElem? (i := 1571) (by decide +kernel)⟩
theorem lw_p50 : lw_okq (⟨"GoodbyeQuayModel", "readAll", "()V"⟩, 85) := ⟨⟨by decide +kernel, by decide +kernel⟩, List.mem_of_getElem? (i := 1292) (by decide +kernel), List.mem_of_getElem? (i := 1582) (by decide +kernel), List.mem_of_getElem? (i := 1583) (by decide +kernel)⟩
theorem lw_p51 : lw_okq (⟨"GoodbyeQuayModel", "token", "()V"⟩, 85) := ⟨⟨by decide +kernel, by decide +kernel⟩, List.mem_of_getElem? (i := 1292) (by decide +kernel), List.mem_of_getElem? (i := 1586) (by decide +kernel), List.mem_of_getElem? (i := 1587) (by decide +kernel)⟩
theorem lw_p52 : lw_okq (⟨"GoodbyeQuayModel", "here", "(I)I"⟩, 85) := ⟨⟨by decide +kernel, by decide +kernel⟩, List.mem_of_getElem? (i := 1292) (by decide +kernel), List.mem_of_getElem? (i := 1590) (by decide +kernel), List.mem_of_getElem? (i := 1591) (by decide +kernel)⟩
theorem lw_p53 : lw_okq (⟨"GoodbyeQuayModel", "readLine", "()V"⟩, 85) := ⟨⟨by decide +kernel, by decide +kernel⟩, List.mem_of_getElem? (i := 1292) (by decide +kernel), List.mem_of_getElem? (i := 1603) (by decide +kernel), List.mem_of_getElem? (i := 1604) (by decide +kernel)⟩
theorem lw_p54 : lw_okq (⟨"GoodbyeQuayModel", "isWord", "(J)Z"⟩, 85) := ⟨⟨by decide +kernel, by decide +kernel⟩, List.mem_of_getElem? (i := 1292) (by decide +kernel), List.mem_of_getElem? (i := 1608) (by decide +kernel), List.mem_of_getElem? (i := 1609) (by decide +kernel)⟩
theorem lw_p55 : lw_okq (⟨"GoodbyeQuayModel", "readShip", "()V"⟩, 85) := ⟨⟨by decide +kernel, by decide +kernel⟩, List.mem_of_getElem? (i := 1292) (by decide +kernel), List.mem_of_getElem? (i := 1612) (by decide +kernel), List.mem_of_getElem? (i := 1613) (by decide +kernel)⟩
theorem lw_p56 : lw_okq (⟨"GoodbyeQuayModel", "newName", "(II)V"⟩, 85) := ⟨⟨by decide +kernel, by decide +kernel⟩, List.mem_of_getElem? (i := 1292) (by decide +kernel), List.mem_of_getElem? (i := 1616) (by decide +kernel), List.mem_of_getElem? (i := 1617) (by decide +kernel)⟩
theorem lw_p57 : lw_okq (⟨"GoodbyeQuayModel", "isName", "()Z"⟩, 85) := ⟨⟨by decide +kernel, by decide +kernel⟩, List.mem_of_getElem? (i := 1292) (by decide +kernel), List.mem_of_getElem? (i := 1620) (by decide +kernel), List.mem_of_getElem? (i := 1621) (by decide +kernel)⟩
theorem lw_p58 : lw_okq (⟨"GoodbyeQuayModel", "isOwn", "()Z"⟩, 85) := ⟨⟨by decide +kernel, by decide +kernel⟩, List.mem_of_getElem? (i := 1292) (by decide +kernel), List.mem_of_getElem? (i := 1624) (by decide +kernel), List.mem_of_getElem? (i := 1625) (by decide +kernel)⟩
theorem lw_p59 : lw_okq (⟨"GoodbyeQuayModel", "wrong", "(I)V"⟩, 85) := ⟨⟨by decide +kernel, by decide +kernel⟩, List.mem_of_getElem? (i := 1292) (by decide +kernel), List.mem_of_getElem? (i := 1644) (by decide +kernel), List.mem_of_getElem? (i := 1645) (by decide +kernel)⟩
theorem lw_p60 : lw_okq (⟨"GoodbyeQuayModel", "find", "(II)I"⟩, 85) := ⟨⟨by decide +kernel, by decide +kernel⟩, List.mem_of_getElem? (i := 1292) (by decide +kernel), List.mem_of_getElem? (i := 1648) (by decide +kernel), List.mem_of_getElem? (i := 1649) (by decide +kernel)⟩
theorem lw_p61 : lw_okq (⟨"GoodbyeQuayModel", "told", "(JII)I"⟩, 85) := ⟨⟨by decide +kernel, by decide +kernel⟩, List.mem_of_getElem? (i := 1292) (by decide +kernel), List.mem_of_getElem? (i := 1652) (by decide +kernel), List.mem_of_getElem? (i := 1653) (by decide +kernel)⟩
theorem lw_p62 : lw_okq (⟨"GoodbyeQuayModel", "want", "(J)V"⟩, 85) := ⟨⟨by decide +kernel, by decide +kernel⟩, List.mem_of_getElem? (i := 1292) (by decide +kernel), List.mem_of_getElem? (i := 1656) (by decide +kernel), List.mem_of_getElem? (i := 1657) (by decide +kernel)⟩
theorem lw_p63 : lw_okq (⟨"GoodbyeQuayModel", "toldNumber", "(II)I"⟩, 85) := ⟨⟨by decide +kernel, by decide +kernel⟩, List.mem_of_getElem? (i := 1292) (by decide +kernel), List.mem_of_getElem? (i := 1660) (by decide +kernel), List.mem_of_getElem? (i := 1661) (by decide +kernel)⟩
def lw_privs_4 : List (MethodName × Nat) := [(⟨"GoodbyeQuayModel", "keepAir", "()V"⟩, 85), (⟨"GoodbyeQuayModel", "four", "(I)V"⟩, 85), (⟨"GoodbyeQuayModel", "readAll", "()V"⟩, 85), (⟨"GoodbyeQuayModel", "token", "()V"⟩, 85), (⟨"GoodbyeQuayModel", "here", "(I)I"⟩, 85), (⟨"GoodbyeQuayModel", "readLine", "()V"⟩, 85), (⟨"GoodbyeQuayModel", "isWord", "(J)Z"⟩, 85), (⟨"GoodbyeQuayModel", "readShip", "()V"⟩, 85), (⟨"GoodbyeQuayModel", "newName", "(II)V"⟩, 85), (⟨"GoodbyeQuayModel", "isName", "()Z"⟩, 85), (⟨"GoodbyeQuayModel", "isOwn", "()Z"⟩, 85), (⟨"GoodbyeQuayModel", "wrong", "(I)V"⟩, 85), (⟨"GoodbyeQuayModel", "find", "(II)I"⟩, 85), (⟨"GoodbyeQuayModel", "told", "(JII)I"⟩, 85), (⟨"GoodbyeQuayModel", "want", "(J)V"⟩, 85), (⟨"GoodbyeQuayModel", "toldNumber", "(II)I"⟩, 85)]
theorem lw_r4 : ∀ q ∈ lw_privs_4, lw_okq q := List.forall_mem_cons.mpr ⟨lw_p48, List.forall_mem_cons.mpr ⟨lw_p49, List.forall_mem_cons.mpr ⟨lw_p50, List.forall_mem_cons.mpr ⟨lw_p51, List.forall_mem_cons.mpr ⟨lw_p52, List.forall_mem_cons.mpr ⟨lw_p53, List.forall_mem_cons.mpr ⟨lw_p54, List.forall_mem_cons.mpr ⟨lw_p55, List.forall_mem_cons.mpr ⟨lw_p56, List.forall_mem_cons.mpr ⟨lw_p57, List.forall_mem_cons.mpr ⟨lw_p58, List.forall_mem_cons.mpr ⟨lw_p59, List.forall_mem_cons.mpr ⟨lw_p60, List.forall_mem_cons.mpr ⟨lw_p61, List.forall_mem_cons.mpr ⟨lw_p62, List.forall_mem_cons.mpr ⟨lw_p63, fun _ h => absurd h List.not_mem_nil⟩⟩⟩⟩⟩⟩⟩⟩⟩⟩⟩⟩⟩⟩⟩⟩
theorem lw_p64 : lw_okq (⟨"GoodbyeQuayModel", "mayTell", "(JII)I"⟩, 85) := ⟨⟨by decide +kernel, by decide +kernel⟩, List.mem_of_getElem? (i := 1292) (by decide +kernel), List.mem_of_getElem? (i := 1664) (by decide +kernel), List.mem_of_getElem? (i := 1665) (by decide +kernel)⟩
theorem lw_p65 : lw_okq (⟨"GoodbyeQuayModel", "readPair", "()V"⟩, 85) := ⟨⟨by decide +kernel, by decide +kernel⟩, List.mem_of_getElem? (i := 1292) (by decide +kernel), List.mem_of_getElem? (i := 1668) (by decide +kernel), List.mem_of_getElem? (i := 1669) (by decide +kernel)⟩
theorem lw_p66 : lw_okq (⟨"GoodbyeQuayModel", "oldShip", "()I"⟩, 85) := ⟨⟨by decide +kernel, by decide +kernel⟩, List.mem_of_getElem? (i := 1292) (by decide +kernel), List.mem_of_getElem? (i := 1672) (by decide +kernel), List.mem_of_getElem? (i := 1673) (by decide +kernel)⟩
theorem lw_p67 : lw_okq (⟨"GoodbyeQuayModel", "formula", "()V"⟩, 85) := ⟨⟨by decide +kernel, by decide +kernel⟩, List.mem_of_getElem? (i := 1292) (by decide +kernel), List.mem_of_getElem? (i := 1676) (by decide +kernel), List.mem_of_getElem? (i := 1677) (by decide +kernel)⟩
theorem lw_p68 : lw_okq (⟨"GoodbyeQuayModel", "unit", "()V"⟩, 85) := ⟨⟨by decide +kernel, by decide +kernel⟩, List.mem_of_getElem? (i := 1292) (by decide +kernel), List.mem_of_getElem? (i := 1680) (by decide +kernel), List.mem_of_getElem? (i := 1681) (by decide +kernel)⟩
theorem lw_p69 : lw_okq (⟨"GoodbyeQuayModel", "mayNot", "()Z"⟩, 85) := ⟨⟨by decide +kernel, by decide +kernel⟩, List.mem_of_getElem? (i := 1292) (by decide +kernel), List.mem_of_getElem? (i := 1684) (by decide +kernel), List.mem_of_getElem? (i := 1685) (by decide +kernel)⟩
theorem lw_p70 : lw_okq (⟨"GoodbyeQuayModel", "openUp", "(I)V"⟩, 85) := ⟨⟨by decide +kernel, by decide +kernel⟩, List.mem_of_getElem? (i := 1292) (by decide +kernel), List.mem_of_getElem? (i := 1691) (by decide +kernel), List.mem_of_getElem? (i := 1692) (by decide +kernel)⟩
theorem lw_p71 : lw_okq (⟨"GoodbyeQuayModel", "isFull", "()Z"⟩, 85) := ⟨⟨by decide +kernel, by decide +kernel⟩, List.mem_of_getElem? (i := 1292) (by decide +kernel), List.mem_of_getElem? (i := 1695) (by decide +kernel), List.mem_of_getElem? (i := 1696) (by decide +kernel)⟩
theorem lw_p72 : lw_okq (⟨"GoodbyeQuayModel", "countUnit", "()V"⟩, 85) := ⟨⟨by decide +kernel, by decide +kernel⟩, List.mem_of_getElem? (i := 1292) (by decide +kernel), List.mem_of_getElem? (i := 1699) (by decide +kernel), List.mem_of_getElem? (i := 1700) (by decide +kernel)⟩
theorem lw_p73 : lw_okq (⟨"GoodbyeQuayModel", "asked", "()I"⟩, 85) := ⟨⟨by decide +kernel, by decide +kernel⟩, List.mem_of_getElem? (i := 1292) (by decide +kernel), List.mem_of_getElem? (i := 1703) (by decide +kernel), List.mem_of_getElem? (i := 1704) (by decide +kernel)⟩
theorem lw_p74 : lw_okq (⟨"GoodbyeQuayModel", "add", "(II)V"⟩, 85) := ⟨⟨by decide +kernel, by decide +kernel⟩, List.mem_of_getElem? (i := 1292) (by decide +kernel), List.mem_of_getElem? (i := 1707) (by decide +kernel), List.mem_of_getElem? (i := 1708) (by decide +kernel)⟩
theorem lw_p75 : lw_okq (⟨"GoodbyeQuayModel", "sign", "()I"⟩, 85) := ⟨⟨by decide +kernel, by decide +kernel⟩, List.mem_of_getElem? (i := 1292) (by decide +kernel), List.mem_of_getElem? (i := 1711) (by decide +kernel), List.mem_of_getElem? (i := 1712) (by decide +kernel)⟩
theorem lw_p76 : lw_okq (⟨"GoodbyeQuayModel", "hasBracket", "()Z"⟩, 85) := ⟨⟨by decide +kernel, by decide +kernel⟩, List.mem_of_getElem? (i := 1292) (by decide +kernel), List.mem_of_getElem? (i := 1715) (by decide +kernel), List.mem_of_getElem? (i := 1716) (by decide +kernel)⟩
theorem lw_p77 : lw_okq (⟨"GoodbyeQuayModel", "close", "(I)V"⟩, 85) := ⟨⟨by decide +kernel, by decide +kernel⟩, List.mem_of_getElem? (i := 1292) (by decide +kernel), List.mem_of_getElem? (i := 1719) (by decide +kernel), List.mem_of_getElem? (i := 1720) (by decide +kernel)⟩
theorem lw_p78 : lw_okq (⟨"GoodbyeQuayModel", "hasRelation", "()Z"⟩, 85) := ⟨⟨by decide +kernel, by decide +kernel⟩, List.mem_of_getElem? (i := 1292) (by decide +kernel), List.mem_of_getElem? (i := 1723) (by decide +kernel), List.mem_of_getElem? (i := 1724) (by decide +kernel)⟩
theorem lw_p79 : lw_okq (⟨"GoodbyeQuayModel", "isShip", "(I)Z"⟩, 85) := ⟨⟨by decide +kernel, by decide +kernel⟩, List.mem_of_getElem? (i := 1292) (by decide +kernel), List.mem_of_getElem? (i := 1735) (by decide +kernel), List.mem_of_getElem? (i := 1736) (by decide +kernel)⟩
def lw_privs_5 : List (MethodName × Nat) := [(⟨"GoodbyeQuayModel", "mayTell", "(JII)I"⟩, 85), (⟨"GoodbyeQuayModel", "readPair", "()V"⟩, 85), (⟨"GoodbyeQuayModel", "oldShip", "()I"⟩, 85), (⟨"GoodbyeQuayModel", "formula", "()V"⟩, 85), (⟨"GoodbyeQuayModel", "unit", "()V"⟩, 85), (⟨"GoodbyeQuayModel", "mayNot", "()Z"⟩, 85), (⟨"GoodbyeQuayModel", "openUp", "(I)V"⟩, 85), (⟨"GoodbyeQuayModel", "isFull", "()Z"⟩, 85), (⟨"GoodbyeQuayModel", "countUnit", "()V"⟩, 85), (⟨"GoodbyeQuayModel", "asked", "()I"⟩, 85), (⟨"GoodbyeQuayModel", "add", "(II)V"⟩, 85), (⟨"GoodbyeQuayModel", "sign", "()I"⟩, 85), (⟨"GoodbyeQuayModel", "hasBracket", "()Z"⟩, 85), (⟨"GoodbyeQuayModel", "close", "(I)V"⟩, 85), (⟨"GoodbyeQuayModel", "hasRelation", "()Z"⟩, 85), (⟨"GoodbyeQuayModel", "isShip", "(I)Z"⟩, 85)]
theorem lw_r5 : ∀ q ∈ lw_privs_5, lw_okq q := List.forall_mem_cons.mpr ⟨lw_p64, List.forall_mem_cons.mpr ⟨lw_p65, List.forall_mem_cons.mpr ⟨lw_p66, List.forall_mem_cons.mpr ⟨lw_p67, List.forall_mem_cons.mpr ⟨lw_p68, List.forall_mem_cons.mpr ⟨lw_p69, List.forall_mem_cons.mpr ⟨lw_p70, List.forall_mem_cons.mpr ⟨lw_p71, List.forall_mem_cons.mpr ⟨lw_p72, List.forall_mem_cons.mpr ⟨lw_p73, List.forall_mem_cons.mpr ⟨lw_p74, List.forall_mem_cons.mpr ⟨lw_p75, List.forall_mem_cons.mpr ⟨lw_p76, List.forall_mem_cons.mpr ⟨lw_p77, List.forall_mem_cons.mpr ⟨lw_p78, List.forall_mem_cons.mpr ⟨lw_p79, fun _ h => absurd h List.not_mem_nil⟩⟩⟩⟩⟩⟩⟩⟩⟩⟩⟩⟩⟩⟩⟩⟩
theorem lw_p80 : lw_okq (⟨"GoodbyeQuayModel", "fill", "()V"⟩, 85) := ⟨⟨by decide +kernel, by decide +kernel⟩, List.mem_of_getElem? (i := 1292) (by decide +kernel), List.mem_of_getElem? (i := 1742) (by decide +kernel), List.mem_of_getElem? (i := 1743) (by decide +kernel)⟩
theorem lw_p81 : lw_okq (⟨"GoodbyeQuayModel", "sailsAt", "(I)I"⟩, 85) := ⟨⟨by decide +kernel, by decide +kernel⟩, List.mem_of_getElem? (i := 1292) (by decide +kernel), List.mem_of_getElem? (i := 1749) (by decide +kernel), List.mem_of_getElem? (i := 1750) (by decide +kernel)⟩
theorem lw_p82 : lw_okq (⟨"GoodbyeQuayModel", "isGone", "(I)Z"⟩, 85) := ⟨⟨by decide +kernel, by decide +kernel⟩, List.mem_of_getElem? (i := 1292) (by decide +kernel), List.mem_of_getElem? (i := 1756) (by decide +kernel), List.mem_of_getElem? (i := 1757) (by decide +kernel)⟩
theorem lw_p83 : lw_okq (⟨"GoodbyeQuayModel", "isPair", "(I)Z"⟩, 85) := ⟨⟨by decide +kernel, by decide +kernel⟩, List.mem_of_getElem? (i := 1292) (by decide +kernel), List.mem_of_getElem? (i := 1764) (by decide +kernel), List.mem_of_getElem? (i := 1765) (by decide +kernel)⟩
theorem lw_p84 : lw_okq (⟨"GoodbyeQuayModel", "placeOf", "(I)I"⟩, 85) := ⟨⟨by decide +kernel, by decide +kernel⟩, List.mem_of_getElem? (i := 1292) (by decide +kernel), List.mem_of_getElem? (i := 1768) (by decide +kernel), List.mem_of_getElem? (i := 1769) (by decide +kernel)⟩
theorem lw_p85 : lw_okq (⟨"GoodbyeQuayModel", "queueMany", "()I"⟩, 85) := ⟨⟨by decide +kernel, by decide +kernel⟩, List.mem_of_getElem? (i := 1292) (by decide +kernel), List.mem_of_getElem? (i := 1772) (by decide +kernel), List.mem_of_getElem? (i := 1773) (by decide +kernel)⟩
theorem lw_p86 : lw_okq (⟨"GoodbyeQuayModel", "isQueued", "(I)Z"⟩, 85) := ⟨⟨by decide +kernel, by decide +kernel⟩, List.mem_of_getElem? (i := 1292) (by decide +kernel), List.mem_of_getElem? (i := 1788) (by decide +kernel), List.mem_of_getElem? (i := 1789) (by decide +kernel)⟩
theorem lw_p87 : lw_okq (⟨"GoodbyeQuayModel", "lengthNow", "(I)I"⟩, 85) := ⟨⟨by decide +kernel, by decide +kernel⟩, List.mem_of_getElem? (i := 1292) (by decide +kernel), List.mem_of_getElem? (i := 1792) (by decide +kernel), List.mem_of_getElem? (i := 1793) (by decide +kernel)⟩
theorem lw_p88 : lw_okq (⟨"GoodbyeQuayModel", "lengthOf", "(II)I"⟩, 85) := ⟨⟨by decide +kernel, by decide +kernel⟩, List.mem_of_getElem? (i := 1292) (by decide +kernel), List.mem_of_getElem? (i := 1796) (by decide +kernel), List.mem_of_getElem? (i := 1797) (by decide +kernel)⟩
theorem lw_p89 : lw_okq (⟨"GoodbyeQuayModel", "isEmpty", "()Z"⟩, 85) := ⟨⟨by decide +kernel, by decide +kernel⟩, List.mem_of_getElem? (i := 1292) (by decide +kernel), List.mem_of_getElem? (i := 1816) (by decide +kernel), List.mem_of_getElem? (i := 1817) (by decide +kernel)⟩
theorem lw_p90 : lw_okq (⟨"GoodbyeQuayModel", "isFree", "(I)Z"⟩, 85) := ⟨⟨by decide +kernel, by decide +kernel⟩, List.mem_of_getElem? (i := 1292) (by decide +kernel), List.mem_of_getElem? (i := 1820) (by decide +kernel), List.mem_of_getElem? (i := 1821) (by decide +kernel)⟩
theorem lw_p91 : lw_okq (⟨"GoodbyeQuayModel", "act", "()V"⟩, 85) := ⟨⟨by decide +kernel, by decide +kernel⟩, List.mem_of_getElem? (i := 1292) (by decide +kernel), List.mem_of_getElem? (i := 1824) (by decide +kernel), List.mem_of_getElem? (i := 1825) (by decide +kernel)⟩
theorem lw_p92 : lw_okq (⟨"GoodbyeQuayModel", "goMinute", "(Z)I"⟩, 85) := ⟨⟨by decide +kernel, by decide +kernel⟩, List.mem_of_getElem? (i := 1292) (by decide +kernel), List.mem_of_getElem? (i := 1828) (by decide +kernel), List.mem_of_getElem? (i := 1829) (by decide +kernel)⟩
theorem lw_p93 : lw_okq (⟨"GoodbyeQuayModel", "stepsUp", "(IZ)V"⟩, 85) := ⟨⟨by decide +kernel, by decide +kernel⟩, List.mem_of_getElem? (i := 1292) (by decide +kernel), List.mem_of_getElem? (i := 1832) (by decide +kernel), List.mem_of_getElem? (i := 1833) (by decide +kernel)⟩
theorem lw_p94 : lw_okq (⟨"GoodbyeQuayModel", "takeOut", "(I)I"⟩, 85) := ⟨⟨by decide +kernel, by decide +kernel⟩, List.mem_of_getElem? (i := 1292) (by decide +kernel), List.mem_of_getElem? (i := 1836) (by decide +kernel), List.mem_of_getElem? (i := 1837) (by decide +kernel)⟩
theorem lw_p95 : lw_okq (⟨"GoodbyeQuayModel", "misses", "(I)V"⟩, 85) := ⟨⟨by decide +kernel, by decide +kernel⟩, List.mem_of_getElem? (i := 1292) (by decide +kernel), List.mem_of_getElem? (i := 1840) (by decide +kernel), List.mem_of_getElem? (i := 1841) (by decide +kernel)⟩
def lw_privs_6 : List (MethodName × Nat) := [(⟨"GoodbyeQuayModel", "fill", "()V"⟩, 85), (⟨"GoodbyeQuayModel", "sailsAt", "(I)I"⟩, 85), (⟨"GoodbyeQuayModel", "isGone", "(I)Z"⟩, 85), (⟨"GoodbyeQuayModel", "isPair", "(I)Z"⟩, 85), (⟨"GoodbyeQuayModel", "placeOf", "(I)I"⟩, 85), (⟨"GoodbyeQuayModel", "queueMany", "()I"⟩, 85), (⟨"GoodbyeQuayModel", "isQueued", "(I)Z"⟩, 85), (⟨"GoodbyeQuayModel", "lengthNow", "(I)I"⟩, 85), (⟨"GoodbyeQuayModel", "lengthOf", "(II)I"⟩, 85), (⟨"GoodbyeQuayModel", "isEmpty", "()Z"⟩, 85), (⟨"GoodbyeQuayModel", "isFree", "(I)Z"⟩, 85), (⟨"GoodbyeQuayModel", "act", "()V"⟩, 85), (⟨"GoodbyeQuayModel", "goMinute", "(Z)I"⟩, 85), (⟨"GoodbyeQuayModel", "stepsUp", "(IZ)V"⟩, 85), (⟨"GoodbyeQuayModel", "takeOut", "(I)I"⟩, 85), (⟨"GoodbyeQuayModel", "misses", "(I)V"⟩, 85)]
theorem lw_r6 : ∀ q ∈ lw_privs_6, lw_okq q := List.forall_mem_cons.mpr ⟨lw_p80, List.forall_mem_cons.mpr ⟨lw_p81, List.forall_mem_cons.mpr ⟨lw_p82, List.forall_mem_cons.mpr ⟨lw_p83, List.forall_mem_cons.mpr ⟨lw_p84, List.forall_mem_cons.mpr ⟨lw_p85, List.forall_mem_cons.mpr ⟨lw_p86, List.forall_mem_cons.mpr ⟨lw_p87, List.forall_mem_cons.mpr ⟨lw_p88, List.forall_mem_cons.mpr ⟨lw_p89, List.forall_mem_cons.mpr ⟨lw_p90, List.forall_mem_cons.mpr ⟨lw_p91, List.forall_mem_cons.mpr ⟨lw_p92, List.forall_mem_cons.mpr ⟨lw_p93, List.forall_mem_cons.mpr ⟨lw_p94, List.forall_mem_cons.mpr ⟨lw_p95, fun _ h => absurd h List.not_mem_nil⟩⟩⟩⟩⟩⟩⟩⟩⟩⟩⟩⟩⟩⟩⟩⟩
theorem lw_p96 : lw_okq (⟨"GoodbyeQuayModel", "frees", "(I)V"⟩, 85) := ⟨⟨by decide +kernel, by decide +kernel⟩, List.mem_of_getElem? (i := 1292) (by decide +kernel), List.mem_of_getElem? (i := 1844) (by decide +kernel), List.mem_of_getElem? (i := 1845) (by decide +kernel)⟩
theorem lw_p97 : lw_okq (⟨"GoodbyeQuayModel", "changes", "(II)V"⟩, 85) := ⟨⟨by decide +kernel, by decide +kernel⟩, List.mem_of_getElem? (i := 1292) (by decide +kernel), List.mem_of_getElem? (i := 1852) (by decide +kernel), List.mem_of_getElem? (i := 1853) (by decide +kernel)⟩
theorem lw_p98 : lw_okq (⟨"GoodbyeQuayModel", "countHere", "()I"⟩, 85) := ⟨⟨by decide +kernel, by decide +kernel⟩, List.mem_of_getElem? (i := 1292) (by decide +kernel), List.mem_of_getElem? (i := 1860) (by decide +kernel), List.mem_of_getElem? (i := 1861) (by decide +kernel)⟩
theorem lw_p99 : lw_okq (⟨"GoodbyeQuayModel", "goOn", "()V"⟩, 85) := ⟨⟨by decide +kernel, by decide +kernel⟩, List.mem_of_getElem? (i := 1292) (by decide +kernel), List.mem_of_getElem? (i := 1864) (by decide +kernel), List.mem_of_getElem? (i := 1865) (by decide +kernel)⟩
theorem lw_p100 : lw_okq (⟨"GoodbyeQuayModel", "saidOnes", "()I"⟩, 85) := ⟨⟨by decide +kernel, by decide +kernel⟩, List.mem_of_getElem? (i := 1292) (by decide +kernel), List.mem_of_getElem? (i := 1868) (by decide +kernel), List.mem_of_getElem? (i := 1869) (by decide +kernel)⟩
theorem lw_p101 : lw_okq (⟨"GoodbyeQuayModel", "turnShort", "(I)I"⟩, 85) := ⟨⟨by decide +kernel, by decide +kernel⟩, List.mem_of_getElem? (i := 1292) (by decide +kernel), List.mem_of_getElem? (i := 1879) (by decide +kernel), List.mem_of_getElem? (i := 1880) (by decide +kernel)⟩
theorem lw_p102 : lw_okq (⟨"GoodbyeQuayModel", "putLast", "(I)V"⟩, 85) := ⟨⟨by decide +kernel, by decide +kernel⟩, List.mem_of_getElem? (i := 1292) (by decide +kernel), List.mem_of_getElem? (i := 1895) (by decide +kernel), List.mem_of_getElem? (i := 1896) (by decide +kernel)⟩
theorem lw_p103 : lw_okq (⟨"GoodbyeQuayModel", "exchangeAt", "(I)V"⟩, 85) := ⟨⟨by decide +kernel, by decide +kernel⟩, List.mem_of_getElem? (i := 1292) (by decide +kernel), List.mem_of_getElem? (i := 1907) (by decide +kernel), List.mem_of_getElem? (i := 1908) (by decide +kernel)⟩
theorem lw_p104 : lw_okq (⟨"GoodbyeQuayModel", "saidHere", "(I)I"⟩, 85) := ⟨⟨by decide +kernel, by decide +kernel⟩, List.mem_of_getElem? (i := 1292) (by decide +kernel), List.mem_of_getElem? (i := 1923) (by decide +kernel), List.mem_of_getElem? (i := 1924) (by decide +kernel)⟩
theorem lw_p105 : lw_okq (⟨"GoodbyeQuayModel", "loveHere", "()I"⟩, 85) := ⟨⟨by decide +kernel, by decide +kernel⟩, List.mem_of_getElem? (i := 1292) (by decide +kernel), List.mem_of_getElem? (i := 1948) (by decide +kernel), List.mem_of_getElem? (i := 1949) (by decide +kernel)⟩
theorem lw_p106 : lw_okq (⟨"GoodbyeQuayModel", "bestOrder", "(I)I"⟩, 85) := ⟨⟨by decide +kernel, by decide +kernel⟩, List.mem_of_getElem? (i := 1292) (by decide +kernel), List.mem_of_getElem? (i := 1956) (by decide +kernel), List.mem_of_getElem? (i := 1957) (by decide +kernel)⟩
theorem lw_p107 : lw_okq (⟨"GoodbyeQuayModel", "nextRow", "(I)Z"⟩, 85) := ⟨⟨by decide +kernel, by decide +kernel⟩, List.mem_of_getElem? (i := 1292) (by decide +kernel), List.mem_of_getElem? (i := 1960) (by decide +kernel), List.mem_of_getElem? (i := 1961) (by decide +kernel)⟩
theorem lw_p108 : lw_okq (⟨"GoodbyeQuayModel", "exchangeInRow", "(II)V"⟩, 85) := ⟨⟨by decide +kernel, by decide +kernel⟩, List.mem_of_getElem? (i := 1292) (by decide +kernel), List.mem_of_getElem? (i := 1964) (by decide +kernel), List.mem_of_getElem? (i := 1965) (by decide +kernel)⟩
theorem lw_p109 : lw_okq (⟨"GoodbyeQuayModel", "queuedOnes", "()I"⟩, 85) := ⟨⟨by decide +kernel, by decide +kernel⟩, List.mem_of_getElem? (i := 1292) (by decide +kernel), List.mem_of_getElem? (i := 1976) (by decide +kernel), List.mem_of_getElem? (i := 1977) (by decide +kernel)⟩
theorem lw_p110 : lw_okq (⟨"GoodbyeQuayModel", "railedOnes", "()I"⟩, 85) := ⟨⟨by decide +kernel, by decide +kernel⟩, List.mem_of_getElem? (i := 1292) (by decide +kernel), List.mem_of_getElem? (i := 1980) (by decide +kernel), List.mem_of_getElem? (i := 1981) (by decide +kernel)⟩
theorem lw_p111 : lw_okq (⟨"GoodbyeQuayModel", "doAllSay", "(I)Z"⟩, 85) := ⟨⟨by decide +kernel, by decide +kernel⟩, List.mem_of_getElem? (i := 1292) (by decide +kernel), List.mem_of_getElem? (i := 1984) (by decide +kernel), List.mem_of_getElem? (i := 1985) (by decide +kernel)⟩
def lw_privs_7 : List (MethodName × Nat) := [(⟨"GoodbyeQuayModel", "frees", "(I)V"⟩, 85), (⟨"GoodbyeQuayModel", "changes", "(II)V"⟩, 85), (⟨"GoodbyeQuayModel", "countHere", "()I"⟩, 85), (⟨"GoodbyeQuayModel", "goOn", "()V"⟩, 85), (⟨"GoodbyeQuayModel", "saidOnes", "()I"⟩, 85), (⟨"GoodbyeQuayModel", "turnShort", "(I)I"⟩, 85), (⟨"GoodbyeQuayModel", "putLast", "(I)V"⟩, 85), (⟨"GoodbyeQuayModel", "exchangeAt", "(I)V"⟩, 85), (⟨"GoodbyeQuayModel", "saidHere", "(I)I"⟩, 85), (⟨"GoodbyeQuayModel", "loveHere", "()I"⟩, 85), (⟨"GoodbyeQuayModel", "bestOrder", "(I)I"⟩, 85), (⟨"GoodbyeQuayModel", "nextRow", "(I)Z"⟩, 85), (⟨"GoodbyeQuayModel", "exchangeInRow", "(II)V"⟩, 85), (⟨"GoodbyeQuayModel", "queuedOnes", "()I"⟩, 85), (⟨"GoodbyeQuayModel", "railedOnes", "()I"⟩, 85), (⟨"GoodbyeQuayModel", "doAllSay", "(I)Z"⟩, 85)]
theorem lw_r7 : ∀ q ∈ lw_privs_7, lw_okq q := List.forall_mem_cons.mpr ⟨lw_p96, List.forall_mem_cons.mpr ⟨lw_p97, List.forall_mem_cons.mpr ⟨lw_p98, List.forall_mem_cons.mpr ⟨lw_p99, List.forall_mem_cons.mpr ⟨lw_p100, List.forall_mem_cons.mpr ⟨lw_p101, List.forall_mem_cons.mpr ⟨lw_p102, List.forall_mem_cons.mpr ⟨lw_p103, List.forall_mem_cons.mpr ⟨lw_p104, List.forall_mem_cons.mpr ⟨lw_p105, List.forall_mem_cons.mpr ⟨lw_p106, List.forall_mem_cons.mpr ⟨lw_p107, List.forall_mem_cons.mpr ⟨lw_p108, List.forall_mem_cons.mpr ⟨lw_p109, List.forall_mem_cons.mpr ⟨lw_p110, List.forall_mem_cons.mpr ⟨lw_p111, fun _ h => absurd h List.not_mem_nil⟩⟩⟩⟩⟩⟩⟩⟩⟩⟩⟩⟩⟩⟩⟩⟩
theorem lw_p112 : lw_okq (⟨"GoodbyeQuayModel", "leavesOnly", "(I)V"⟩, 85) := ⟨⟨by decide +kernel, by decide +kernel⟩, List.mem_of_getElem? (i := 1292) (by decide +kernel), List.mem_of_getElem? (i := 1992) (by decide +kernel), List.mem_of_getElem? (i := 1993) (by decide +kernel)⟩
theorem lw_p113 : lw_okq (⟨"GoodbyeQuayModel", "wishOf", "(II)I"⟩, 85) := ⟨⟨by decide +kernel, by decide +kernel⟩, List.mem_of_getElem? (i := 1292) (by decide +kernel), List.mem_of_getElem? (i := 2008) (by decide +kernel), List.mem_of_getElem? (i := 2009) (by decide +kernel)⟩
theorem lw_p114 : lw_okq (⟨"GoodbyeQuayModel", "roundOf", "(I)I"⟩, 85) := ⟨⟨by decide +kernel, by decide +kernel⟩, List.mem_of_getElem? (i := 1292) (by decide +kernel), List.mem_of_getElem? (i := 2016) (by decide +kernel), List.mem_of_getElem? (i := 2017) (by decide +kernel)⟩
theorem lw_p115 : lw_okq (⟨"GoodbyeQuayModel", "saysNow", "(I)I"⟩, 85) := ⟨⟨by decide +kernel, by decide +kernel⟩, List.mem_of_getElem? (i := 1292) (by decide +kernel), List.mem_of_getElem? (i := 2024) (by decide +kernel), List.mem_of_getElem? (i := 2025) (by decide +kernel)⟩
theorem lw_p116 : lw_okq (⟨"GoodbyeQuayModel", "saysWithout", "(II)I"⟩, 85) := ⟨⟨by decide +kernel, by decide +kernel⟩, List.mem_of_getElem? (i := 1292) (by decide +kernel), List.mem_of_getElem? (i := 2028) (by decide +kernel), List.mem_of_getElem? (i := 2029) (by decide +kernel)⟩
theorem lw_p117 : lw_okq (⟨"GoodbyeQuayModel", "countOnly", "(I)I"⟩, 85) := ⟨⟨by decide +kernel, by decide +kernel⟩, List.mem_of_getElem? (i := 1292) (by decide +kernel), List.mem_of_getElem? (i := 2043) (by decide +kernel), List.mem_of_getElem? (i := 2044) (by decide +kernel)⟩
theorem lw_p118 : lw_okq (⟨"GoodbyeQuayModel", "saidIfHeld", "(I)I"⟩, 85) := ⟨⟨by decide +kernel, by decide +kernel⟩, List.mem_of_getElem? (i := 1292) (by decide +kernel), List.mem_of_getElem? (i := 2054) (by decide +kernel), List.mem_of_getElem? (i := 2055) (by decide +kernel)⟩
theorem lw_p119 : lw_okq (⟨"GoodbyeQuayModel", "layFits", "(I)I"⟩, 85) := ⟨⟨by decide +kernel, by decide +kernel⟩, List.mem_of_getElem? (i := 1292) (by decide +kernel), List.mem_of_getElem? (i := 2122) (by decide +kernel), List.mem_of_getElem? (i := 2123) (by decide +kernel)⟩
theorem lw_p120 : lw_okq (⟨"GoodbyeQuayModel", "fitsNeeds", "(II)Z"⟩, 85) := ⟨⟨by decide +kernel, by decide +kernel⟩, List.mem_of_getElem? (i := 1292) (by decide +kernel), List.mem_of_getElem? (i := 2126) (by decide +kernel), List.mem_of_getElem? (i := 2127) (by decide +kernel)⟩
theorem lw_p121 : lw_okq (⟨"GoodbyeQuayModel", "leftBy", "(I)I"⟩, 85) := ⟨⟨by decide +kernel, by decide +kernel⟩, List.mem_of_getElem? (i := 1292) (by decide +kernel), List.mem_of_getElem? (i := 2138) (by decide +kernel), List.mem_of_getElem? (i := 2139) (by decide +kernel)⟩
theorem lw_p122 : lw_okq (⟨"GoodbyeQuayModel", "howMany", "(I)I"⟩, 85) := ⟨⟨by decide +kernel, by decide +kernel⟩, List.mem_of_getElem? (i := 1292) (by decide +kernel), List.mem_of_getElem? (i := 2157) (by decide +kernel), List.mem_of_getElem? (i := 2158) (by decide +kernel)⟩
def lw_privs_8 : List (MethodName × Nat) := [(⟨"GoodbyeQuayModel", "leavesOnly", "(I)V"⟩, 85), (⟨"GoodbyeQuayModel", "wishOf", "(II)I"⟩, 85), (⟨"GoodbyeQuayModel", "roundOf", "(I)I"⟩, 85), (⟨"GoodbyeQuayModel", "saysNow", "(I)I"⟩, 85), (⟨"GoodbyeQuayModel", "saysWithout", "(II)I"⟩, 85), (⟨"GoodbyeQuayModel", "countOnly", "(I)I"⟩, 85), (⟨"GoodbyeQuayModel", "saidIfHeld", "(I)I"⟩, 85), (⟨"GoodbyeQuayModel", "layFits", "(I)I"⟩, 85), (⟨"GoodbyeQuayModel", "fitsNeeds", "(II)Z"⟩, 85), (⟨"GoodbyeQuayModel", "leftBy", "(I)I"⟩, 85), (⟨"GoodbyeQuayModel", "howMany", "(I)I"⟩, 85)]
theorem lw_r8 : ∀ q ∈ lw_privs_8, lw_okq q := List.forall_mem_cons.mpr ⟨lw_p112, List.forall_mem_cons.mpr ⟨lw_p113, List.forall_mem_cons.mpr ⟨lw_p114, List.forall_mem_cons.mpr ⟨lw_p115, List.forall_mem_cons.mpr ⟨lw_p116, List.forall_mem_cons.mpr ⟨lw_p117, List.forall_mem_cons.mpr ⟨lw_p118, List.forall_mem_cons.mpr ⟨lw_p119, List.forall_mem_cons.mpr ⟨lw_p120, List.forall_mem_cons.mpr ⟨lw_p121, List.forall_mem_cons.mpr ⟨lw_p122, fun _ h => absurd h List.not_mem_nil⟩⟩⟩⟩⟩⟩⟩⟩⟩⟩⟩
def lw_privs : List (MethodName × Nat) := lw_privs_1 ++ (lw_privs_2 ++ (lw_privs_3 ++ (lw_privs_4 ++ (lw_privs_5 ++ (lw_privs_6 ++ (lw_privs_7 ++ (lw_privs_8)))))))
def lw_tbl : List Cond := k2_sels lw_privs ++ tables_1
theorem lw_privs_ok : ∀ q ∈ lw_privs, lw_okq q := by
  show ∀ q ∈ lw_privs_1 ++ (lw_privs_2 ++ (lw_privs_3 ++ (lw_privs_4 ++ (lw_privs_5 ++ (lw_privs_6 ++ (lw_privs_7 ++ (lw_privs_8))))))), lw_okq q
  exact List.forall_mem_append.mpr ⟨lw_r1, List.forall_mem_append.mpr ⟨lw_r2, List.forall_mem_append.mpr ⟨lw_r3, List.forall_mem_append.mpr ⟨lw_r4, List.forall_mem_append.mpr ⟨lw_r5, List.forall_mem_append.mpr ⟨lw_r6, List.forall_mem_append.mpr ⟨lw_r7, lw_r8⟩⟩⟩⟩⟩⟩⟩
end
section
/-! A SMALL MACHINE OF OUR OWN (q_): the instructions that the claim's classes use, over cells that are numbered from 0. What is true of its runs is carried to the claim's machine, instruction by instruction, by the rows behind it. Its ints are of a kind I with told operations O, so that the same runs may be made over ranges of numbers. -/
abbrev q_V (I : Type) : Type := I ⊕ (Int64 ⊕ Nat)
abbrev q_U (I : Type) : Type := List (Nat × q_V I)
abbrev q_C (I : Type) : Type := Nat × Nat × q_U I
abbrev q_H (I : Type) : Type := List (q_C I)
abbrev q_F (I : Type) : Type := Nat × q_U I × List (q_V I)
abbrev q_S (I : Type) : Type := q_F I × q_H I × Nat
abbrev q_R (I : Type) : Type := Option (q_V I) × q_H I × Nat
abbrev q_X (I : Type) : Type := Option (q_S I ⊕ q_R I)
abbrev q_O (I : Type) : Type := (Int32 → I) × (Nat → I → I → Option I) × (Nat → I → Option I) × (Nat → I → I → Option Bool) × (I → Option Nat) × (I → Bool) × (I → Option Int) × (I → Option Int64)
abbrev q_I : Type := Jvm.ClassFile.Instr × Nat × List Nat
abbrev q_T : Type := List (List q_I)
def q_at {α : Type} : List (Nat × α) → Nat → Option α
  | [], _ => none
  | q :: r, k => bif Nat.beq q.1 k then some q.2 else q_at r k
/-- 0 an int, 1 a reference, 2 a long, 3 null -/
def q_kind {I : Type} : q_V I → Nat
  | .inl _ => 0
  | .inr (.inl _) => 2
  | .inr (.inr 0) => 3
  | .inr (.inr (_ + 1)) => 1
def q_cat {I : Type} : q_V I → Nat
  | .inr (.inl _) => 2
  | _ => 1
def q_cats {I : Type} : List (q_V I) → Nat
  | [] => 0
  | v :: r => q_cat v + q_cats r
def q_args {I : Type} : Nat → List (q_V I) → q_U I
  | _, [] => []
  | i, v :: vs => (i, v) :: q_args (bif Nat.beq (q_cat v) 2 then i + 2 else i + 1) vs
def q_nx {I : Type} (n : Nat) (f : q_F I) (st : List (q_V I)) (h : q_H I) (ns : Nat) : q_X I := some (.inl ((f.1 + n, f.2.1, st), h, ns))
def q_ld {I : Type} (t i len : Nat) (f : q_F I) (h : q_H I) (ns : Nat) : q_X I :=
  match q_at f.2.1 i with
  | some v => bif Nat.beq (q_kind v) t then q_nx len f (v :: f.2.2) h ns else none
  | none => none
def q_keep1 {I : Type} (i : Nat) (q : Nat × q_V I) : Bool := !(q.1 == i) && !(q.1 + 1 == i && q_cat q.2 == 2)
def q_keep2 {I : Type} (i : Nat) (q : Nat × q_V I) : Bool := !(q.1 == i) && (!(q.1 == i + 1) && !(q.1 + 1 == i && q_cat q.2 == 2))
def q_st {I : Type} (t i len : Nat) (f : q_F I) (h : q_H I) (ns : Nat) : q_X I :=
  match f.2.2 with
  | v :: r => bif Nat.beq (q_kind v) t then some (.inl ((f.1 + len, (i, v) :: f.2.1.filter (bif Nat.beq t 2 then q_keep2 i else q_keep1 i), r), h, ns)) else none
  | [] => none
def q_iinc {I : Type} (O : q_O I) (i : Nat) (n : Int) (len : Nat) (f : q_F I) (h : q_H I) (ns : Nat) : q_X I :=
  match q_at f.2.1 i with
  | some (.inl x) => (match O.2.1 0 x (O.1 (Int32.ofInt n)) with
    | some y => some (.inl ((f.1 + len, (i, .inl y) :: f.2.1.filter (q_keep1 i), f.2.2), h, ns))
    | none => none)
  | _ => none
def q_b2 {I : Type} (O : q_O I) (j len : Nat) (f : q_F I) (h : q_H I) (ns : Nat) : q_X I :=
  match f.2.2 with
  | .inl y :: .inl x :: r => (match O.2.1 j x y with
    | some z => q_nx len f (.inl z :: r) h ns
    | none => none)
  | _ => none
def q_b1 {I : Type} (O : q_O I) (j len : Nat) (f : q_F I) (h : q_H I) (ns : Nat) : q_X I :=
  match f.2.2 with
  | .inl x :: r => (match O.2.2.1 j x with
    | some z => q_nx len f (.inl z :: r) h ns
    | none => none)
  | _ => none
def q_lo (j : Nat) (x y : Int64) : Option Int64 := match j with
  | 0 => some (x + y)
  | 1 => some (x * y)
  | 2 => some (x ||| y)
  | _ => none
def q_l2 {I : Type} (j len : Nat) (f : q_F I) (h : q_H I) (ns : Nat) : q_X I :=
  match f.2.2 with
  | .inr (.inl y) :: .inr (.inl x) :: r => (match q_lo j x y with
    | some z => q_nx len f (.inr (.inl z) :: r) h ns
    | none => none)
  | _ => none
def q_lshl {I : Type} (O : q_O I) (len : Nat) (f : q_F I) (h : q_H I) (ns : Nat) : q_X I :=
  match f.2.2 with
  | .inl y :: .inr (.inl x) :: r => (match O.2.2.2.2.2.2.2 y with
    | some z => q_nx len f (.inr (.inl (x <<< (z &&& 63))) :: r) h ns
    | none => none)
  | _ => none
def q_i2l {I : Type} (O : q_O I) (len : Nat) (f : q_F I) (h : q_H I) (ns : Nat) : q_X I :=
  match f.2.2 with
  | .inl y :: r => (match O.2.2.2.2.2.2.2 y with
    | some z => q_nx len f (.inr (.inl z) :: r) h ns
    | none => none)
  | _ => none
def q_lcmp {I : Type} (O : q_O I) (len : Nat) (f : q_F I) (h : q_H I) (ns : Nat) : q_X I :=
  match f.2.2 with
  | .inr (.inl y) :: .inr (.inl x) :: r => q_nx len f (.inl (O.1 (lg_cmp x y)) :: r) h ns
  | _ => none
def q_cn : Jvm.ClassFile.Cond → Nat
  | .eq => 0
  | .ne => 1
  | .lt => 2
  | .ge => 3
  | .gt => 4
  | .le => 5
def q_jmp {I : Type} (r : List Nat) (len : Nat) (t : Option Bool) (f : q_F I) (st : List (q_V I)) (h : q_H I) (ns : Nat) : q_X I :=
  match t, r with
  | some true, [tg] => some (.inl ((tg, f.2.1, st), h, ns))
  | some false, [_] => q_nx len f st h ns
  | _, _ => none
def q_if {I : Type} (O : q_O I) (j : Nat) (r : List Nat) (len : Nat) (f : q_F I) (h : q_H I) (ns : Nat) : q_X I :=
  match f.2.2 with
  | .inl x :: st => q_jmp r len (O.2.2.2.1 j x (O.1 0)) f st h ns
  | _ => none
def q_ic {I : Type} (O : q_O I) (j : Nat) (r : List Nat) (len : Nat) (f : q_F I) (h : q_H I) (ns : Nat) : q_X I :=
  match f.2.2 with
  | .inl y :: .inl x :: st => q_jmp r len (O.2.2.2.1 j x y) f st h ns
  | _ => none
/-- r: the default's target, then the others' -/
def q_tsw {I : Type} (O : q_O I) (lo hi : Int) (r : List Nat) (f : q_F I) (h : q_H I) (ns : Nat) : q_X I :=
  match f.2.2 with
  | .inl x :: st => (match (match O.2.2.2.1 2 x (O.1 (Int32.ofInt lo)), O.2.2.2.1 4 x (O.1 (Int32.ofInt hi)) with
      | some true, _ => r[0]?
      | some false, some true => r[0]?
      | some false, some false => (match O.2.2.2.2.2.2.1 x with
        | some v => r[(v - lo).toNat + 1]?
        | none => none)
      | _, _ => none) with
    | some tg => some (.inl ((tg, f.2.1, st), h, ns))
    | none => none)
  | _ => none
/-- r: the class, the field's place, its kind (0 int, 1 boolean, 2 long, 3 a reference) -/
def q_getf {I : Type} (r : List Nat) (len : Nat) (f : q_F I) (h : q_H I) (ns : Nat) : q_X I :=
  match r, f.2.2 with
  | ci :: k :: _, .inr (.inr (o + 2)) :: st => (match h[o]? with
    | some q => bif Nat.beq q.1 ci && Nat.blt k q.2.1 then (match q_at q.2.2 k with
        | some v => q_nx len f (v :: st) h ns
        | none => none) else none
    | none => none)
  | _, _ => none
def q_fit {I : Type} (O : q_O I) (kd : Nat) : q_V I → Bool
  | .inl x => Nat.beq kd 0 || (Nat.beq kd 1 && O.2.2.2.2.2.1 x)
  | .inr (.inl _) => Nat.beq kd 2
  | .inr (.inr _) => Nat.beq kd 3
def q_putf {I : Type} (O : q_O I) (r : List Nat) (len : Nat) (f : q_F I) (h : q_H I) (ns : Nat) : q_X I :=
  match r, f.2.2 with
  | ci :: k :: kd :: _, v :: .inr (.inr (o + 2)) :: st => (match h[o]? with
    | some q => bif Nat.beq q.1 ci && (Nat.blt k q.2.1 && q_fit O kd v) then q_nx len f st (h.set o (q.1, q.2.1, (k, v) :: q.2.2)) ns else none
    | none => none)
  | _, _ => none
/-- an array's element: an int's array, a long's -/
def q_el {I : Type} (O : q_O I) (q : q_C I) (i : Nat) : q_V I := match q_at q.2.2 i with
  | some v => v
  | none => bif Nat.beq q.1 103 then .inr (.inl 0) else .inl (O.1 0)
def q_ald {I : Type} (O : q_O I) (scr : Option (List I)) (tag kd len : Nat) (f : q_F I) (h : q_H I) (ns : Nat) : q_X I :=
  match f.2.2 with
  | .inl i :: .inr (.inr (o + 2)) :: st => (match h[o]?, O.2.2.2.2.1 i with
    | some q, some j => bif (Nat.beq q.1 tag || (Nat.beq tag 101 && Nat.beq q.1 102)) && (Nat.blt j q.2.1 && Nat.beq (q_kind (q_el O q j)) kd) then q_nx len f (q_el O q j :: st) h ns else none
    | _, _ => none)
  | .inl i :: .inr (.inr 1) :: st => (match scr, O.2.2.2.2.1 i with
    | some xs, some j => (match xs[j]? with
      | some x => bif Nat.beq tag 100 then q_nx len f (.inl x :: st) h ns else none
      | none => none)
    | _, _ => none)
  | _ => none
/-- what an array keeps of a value: 100 int, 101 byte, 102 boolean, 103 long -/
def q_kp {I : Type} (O : q_O I) (tag : Nat) (v : q_V I) : Option (q_V I) := match v with
  | .inl x => bif Nat.beq tag 100 then some v else bif Nat.beq tag 101 then (match O.2.2.1 1 x with
      | some y => some (.inl y)
      | none => none) else bif Nat.beq tag 102 && O.2.2.2.2.2.1 x then some v else none
  | .inr (.inl _) => bif Nat.beq tag 103 then some v else none
  | _ => none
def q_ast {I : Type} (O : q_O I) (tag len : Nat) (f : q_F I) (h : q_H I) (ns : Nat) : q_X I :=
  match f.2.2 with
  | v :: .inl i :: .inr (.inr (o + 2)) :: st => (match h[o]?, O.2.2.2.2.1 i with
    | some q, some j => bif (Nat.beq q.1 tag || (Nat.beq tag 101 && Nat.beq q.1 102)) && Nat.blt j q.2.1 then (match q_kp O q.1 v with
        | some w => q_nx len f st (h.set o (q.1, q.2.1, (j, w) :: q.2.2)) ns
        | none => none) else none
    | _, _ => none)
  | _ => none
def q_alen {I : Type} (O : q_O I) (scr : Option (List I)) (len : Nat) (f : q_F I) (h : q_H I) (ns : Nat) : q_X I :=
  match f.2.2 with
  | .inr (.inr (o + 2)) :: st => (match h[o]? with
    | some q => bif Nat.blt 99 q.1 && Nat.blt q.1 104 then q_nx len f (.inl (O.1 (Int32.ofNat q.2.1)) :: st) h ns else none
    | none => none)
  | .inr (.inr 1) :: st => (match scr with
    | some xs => q_nx len f (.inl (O.1 (Int32.ofNat xs.length)) :: st) h ns
    | none => none)
  | _ => none
def q_dup {I : Type} (len : Nat) (f : q_F I) (h : q_H I) (ns : Nat) : q_X I :=
  match f.2.2 with
  | v :: st => bif Nat.beq (q_cat v) 1 then q_nx len f (v :: v :: st) h ns else none
  | _ => none
def q_pop {I : Type} (len : Nat) (f : q_F I) (h : q_H I) (ns : Nat) : q_X I :=
  match f.2.2 with
  | v :: st => bif Nat.beq (q_cat v) 1 then q_nx len f st h ns else none
  | _ => none
def q_dup2 {I : Type} (len : Nat) (f : q_F I) (h : q_H I) (ns : Nat) : q_X I :=
  match f.2.2 with
  | v :: w :: st => bif Nat.beq (q_cat v) 1 && Nat.beq (q_cat w) 1 then q_nx len f (v :: w :: v :: w :: st) h ns else none
  | _ => none
def q_df {I : Type} (O : q_O I) : Nat → q_V I
  | 2 => .inr (.inl 0)
  | 3 => .inr (.inr 0)
  | _ => .inl (O.1 0)
def q_dfs {I : Type} (O : q_O I) : Nat → List Nat → q_U I
  | _, [] => []
  | i, k :: ks => (i, q_df O k) :: q_dfs O (i + 1) ks
/-- r: the class, then its fields' kinds -/
def q_new {I : Type} (O : q_O I) (r : List Nat) (len : Nat) (f : q_F I) (h : q_H I) (ns : Nat) : q_X I :=
  match r with
  | ci :: ks => q_nx len f (.inr (.inr (h.length + 2)) :: f.2.2) (h ++ [(ci, ks.length, q_dfs O 0 ks)]) (ns + ks.length)
  | _ => none
def q_newa {I : Type} (O : q_O I) (r : List Nat) (len : Nat) (f : q_F I) (h : q_H I) (ns : Nat) : q_X I :=
  match r, f.2.2 with
  | [tag], .inl n :: st => (match O.2.2.2.2.1 n with
    | some N => bif Nat.blt N 65536 then q_nx len f (.inr (.inr (h.length + 2)) :: st) (h ++ [(tag, N, [])]) (ns + N) else none
    | none => none)
  | _, _ => none
def q_cpy {I : Type} (O : q_O I) (q : q_C I) (sp dp : Nat) : Nat → q_U I → q_U I
  | 0, u => u
  | n + 1, u => (dp + n, q_el O q (sp + n)) :: q_cpy O q sp dp n u
def q_acpy {I : Type} (O : q_O I) (len : Nat) (f : q_F I) (h : q_H I) (ns : Nat) : q_X I :=
  match f.2.2 with
  | .inl n :: .inl dp :: .inr (.inr (d + 2)) :: .inl sp :: .inr (.inr (o + 2)) :: st => (match h[o]?, h[d]?, O.2.2.2.2.1 n, O.2.2.2.2.1 dp, O.2.2.2.2.1 sp with
    | some qs, some qd, some n, some dp, some sp => bif Nat.beq qs.1 100 && (Nat.beq qd.1 100 && (Nat.ble (sp + n) qs.2.1 && (Nat.ble (dp + n) qd.2.1 && Nat.ble (q_cats st) 8))) then
        q_nx len f st (h.set d (qd.1, qd.2.1, q_cpy O qs sp dp n qd.2.2)) ns else none
    | _, _, _, _, _ => none)
  | _ => none
/-- the top n values, the lowest first, and the rest -/
def q_take {I : Type} : Nat → List (q_V I) → List (q_V I) → Option (List (q_V I) × List (q_V I))
  | 0, st, a => some (a, st)
  | n + 1, v :: st, a => q_take n st (v :: a)
  | _ + 1, [], _ => none
def q_mayV {I : Type} (x : List Nat) (c : Option (q_C I)) : Bool := match c, x with
  | some q, [ci] => Nat.beq q.1 ci
  | _, _ => false
/-- whether a call may go out with these values: sv 0 static, 1 by the receiver (of the class ci), 2 a constructor -/
def q_may {I : Type} (sv : Nat) (x : List Nat) (a : List (q_V I)) (h : q_H I) : Bool := match sv, a with
  | 0, _ => true
  | 1, .inr (.inr (o + 2)) :: _ => q_mayV x (h[o]?)
  | 2, .inr (.inr (_ + 2)) :: _ => true
  | _, _ => false
/-- r: the method's number, how many values it takes, its locals, the receiver's class -/
def q_inv {I : Type} (cal : Nat → List (q_V I) → q_H I → Nat → Option (q_R I)) (sv : Nat) (r : List Nat) (len : Nat) (f : q_F I) (h : q_H I) (ns : Nat) : q_X I :=
  match r with
  | k :: na :: ml :: x => (match q_take na f.2.2 [] with
    | some (a, st) => bif Nat.ble (q_cats st) 8 && (Nat.ble (q_cats a) ml && q_may sv x a h) then (match cal k a h ns with
        | some (v, h', ns') => q_nx len f (v.toList ++ st) h' ns'
        | none => none) else none
    | none => none)
  | _ => none
/-- Object's constructor does nothing -/
def q_obj {I : Type} (len : Nat) (f : q_F I) (h : q_H I) (ns : Nat) : q_X I :=
  match f.2.2 with
  | .inr (.inr (_ + 2)) :: st => bif Nat.ble (q_cats st) 8 then q_nx len f st h ns else none
  | _ => none
def q_iret {I : Type} (O : q_O I) (r : List Nat) (f : q_F I) (h : q_H I) (ns : Nat) : q_X I :=
  match r, f.2.2 with
  | [kd], [.inl x] => bif q_fit O kd (.inl x) then some (.inr (some (.inl x), h, ns)) else none
  | _, _ => none
def q_lret {I : Type} (f : q_F I) (h : q_H I) (ns : Nat) : q_X I :=
  match f.2.2 with
  | [.inr (.inl x)] => some (.inr (some (.inr (.inl x)), h, ns))
  | _ => none
def q_ret {I : Type} (f : q_F I) (h : q_H I) (ns : Nat) : q_X I :=
  match f.2.2 with
  | [] => some (.inr (none, h, ns))
  | _ => none
def q_act {I : Type} (O : q_O I) (scr : Option (List I)) (cal : Nat → List (q_V I) → q_H I → Nat → Option (q_R I)) (ins : Jvm.ClassFile.Instr) (len : Nat) (r : List Nat) (f : q_F I) (h : q_H I) (ns : Nat) : q_X I :=
  match ins with
  | .aload_n k => q_ld 1 k.val len f h ns
  | .iload_n k => q_ld 0 k.val len f h ns
  | .lload_n k => q_ld 2 k.val len f h ns
  | .aload i => q_ld 1 i len f h ns
  | .iload i => q_ld 0 i len f h ns
  | .lload i => q_ld 2 i len f h ns
  | .astore_n k => q_st 1 k.val len f h ns
  | .istore_n k => q_st 0 k.val len f h ns
  | .lstore_n k => q_st 2 k.val len f h ns
  | .astore i => q_st 1 i len f h ns
  | .istore i => q_st 0 i len f h ns
  | .lstore i => q_st 2 i len f h ns
  | .iinc i n => q_iinc O i n len f h ns
  | .iconst n => q_nx len f (.inl (O.1 (Int32.ofInt n)) :: f.2.2) h ns
  | .bipush n => q_nx len f (.inl (O.1 (Int8.ofInt n).toInt32) :: f.2.2) h ns
  | .sipush n => q_nx len f (.inl (O.1 (Int16.ofInt n).toInt32) :: f.2.2) h ns
  | .lconst n => q_nx len f (.inr (.inl (Int64.ofNat n.val)) :: f.2.2) h ns
  | .ldc _ => (match r with
    | [v] => q_nx len f (.inl (O.1 (Int32.ofNat v)) :: f.2.2) h ns
    | _ => none)
  | .ldc_w _ => (match r with
    | [v] => q_nx len f (.inl (O.1 (Int32.ofNat v)) :: f.2.2) h ns
    | _ => none)
  | .ldc2_w _ => (match r with
    | [v] => q_nx len f (.inr (.inl (Int64.ofNat v)) :: f.2.2) h ns
    | _ => none)
  | .iadd => q_b2 O 0 len f h ns
  | .isub => q_b2 O 1 len f h ns
  | .imul => q_b2 O 2 len f h ns
  | .iand => q_b2 O 3 len f h ns
  | .ior => q_b2 O 4 len f h ns
  | .ixor => q_b2 O 5 len f h ns
  | .ishl => q_b2 O 6 len f h ns
  | .ishr => q_b2 O 7 len f h ns
  | .iushr => q_b2 O 8 len f h ns
  | .idiv => q_b2 O 9 len f h ns
  | .irem => q_b2 O 10 len f h ns
  | .ineg => q_b1 O 0 len f h ns
  | .i2b => q_b1 O 1 len f h ns
  | .i2c => q_b1 O 2 len f h ns
  | .i2l => q_i2l O len f h ns
  | .ladd => q_l2 0 len f h ns
  | .lmul => q_l2 1 len f h ns
  | .lor => q_l2 2 len f h ns
  | .lshl => q_lshl O len f h ns
  | .lcmp => q_lcmp O len f h ns
  | .dup => q_dup len f h ns
  | .dup2 => q_dup2 len f h ns
  | .pop => q_pop len f h ns
  | .ifCond cd _ => q_if O (q_cn cd) r len f h ns
  | .if_icmp cd _ => q_ic O (q_cn cd) r len f h ns
  | .goto _ => (match r with
    | [tg] => some (.inl ((tg, f.2.1, f.2.2), h, ns))
    | _ => none)
  | .tableswitch _ lo hi _ => q_tsw O lo hi r f h ns
  | .getfield _ => q_getf r len f h ns
  | .putfield _ => q_putf O r len f h ns
  | .iaload => q_ald O scr 100 0 len f h ns
  | .baload => q_ald O scr 101 0 len f h ns
  | .laload => q_ald O scr 103 2 len f h ns
  | .iastore => q_ast O 100 len f h ns
  | .bastore => q_ast O 101 len f h ns
  | .lastore => q_ast O 103 len f h ns
  | .arraylength => q_alen O scr len f h ns
  | .new _ => q_new O r len f h ns
  | .newarray _ => q_newa O r len f h ns
  | .invokevirtual _ => q_inv cal 1 r len f h ns
  | .invokestatic _ => (match r with
    | [] => q_acpy O len f h ns
    | _ => q_inv cal 0 r len f h ns)
  | .invokespecial _ => (match r with
    | [] => q_obj len f h ns
    | _ => q_inv cal 2 r len f h ns)
  | .ireturn => q_iret O r f h ns
  | .lreturn => q_lret f h ns
  | .return_ => q_ret f h ns
  | _ => none
def q_get (t : q_T) (pc : Nat) : Option q_I := match t[pc / 16]? with
  | some r => r[pc % 16]?
  | none => none
def q_step {I : Type} (O : q_O I) (scr : Option (List I)) (cal : Nat → List (q_V I) → q_H I → Nat → Option (q_R I)) (t : q_T) (f : q_F I) (h : q_H I) (ns : Nat) : q_X I :=
  match q_get t f.1 with
  | some q => q_act O scr cal q.1 q.2.1 q.2.2 f h ns
  | none => none
/-- n steps at most, d calls deep at most -/
def q_exec {I : Type} (O : q_O I) (ts : List q_T) : Nat → Nat → q_T → q_F I → q_H I → Nat → Option (q_R I)
  | 0, _, _, _, _, _ => none
  | n + 1, d, t, f, h, ns =>
    match q_step O none (fun k a h ns => match d with
        | 0 => none
        | d + 1 => (match ts[k]? with
          | some t => q_exec O ts n d t (0, q_args 0 a, []) h ns
          | none => none)) t f h ns with
    | some (.inl s) => q_exec O ts n d t s.1 s.2.1 s.2.2
    | some (.inr r) => some r
    | none => none
def q_call {I : Type} (O : q_O I) (ts : List q_T) (n d : Nat) : Nat → List (q_V I) → q_H I → Nat → Option (q_R I) := fun k a h ns => match d with
  | 0 => none
  | d + 1 => (match ts[k]? with
    | some t => q_exec O ts n d t (0, q_args 0 a, []) h ns
    | none => none)
theorem q_exec_succ {I : Type} (O : q_O I) (ts : List q_T) (n d : Nat) (t : q_T) (f : q_F I) (h : q_H I) (ns : Nat) : q_exec O ts (n + 1) d t f h ns =
    match q_step O none (q_call O ts n d) t f h ns with
    | some (.inl s) => q_exec O ts n d t s.1 s.2.1 s.2.2
    | some (.inr r) => some r
    | none => none := rfl
/-- j steps of one frame, as far as they go on in it -/
def q_iter {I : Type} (O : q_O I) (scr : Option (List I)) (ts : List q_T) (n d : Nat) (t : q_T) : Nat → q_S I → Option (q_S I)
  | 0, s => some s
  | j + 1, s => match q_step O scr (q_call O ts n d) t s.1 s.2.1 s.2.2 with
    | some (.inl s') => q_iter O scr ts n d t j s'
    | _ => none
/-! the ints of the machine itself -/
def q_o2 (j : Nat) (x y : Int32) : Option Int32 := match j with
  | 0 => some (x + y)
  | 1 => some (x - y)
  | 2 => some (x * y)
  | 3 => some (x &&& y)
  | 4 => some (x ||| y)
  | 5 => some (x ^^^ y)
  | 6 => some (x <<< (y &&& 31))
  | 7 => some (x >>> (y &&& 31))
  | 8 => some (x.toUInt32 >>> (y.toUInt32 &&& Int32.toUInt32 31)).toInt32
  | 9 => if y = 0 then none else some (x / y)
  | 10 => if y = 0 then none else some (x - x / y * y)
  | _ => none
def q_o1 (j : Nat) (x : Int32) : Option Int32 := match j with
  | 0 => some (-x)
  | 1 => some x.toInt8.toInt32
  | 2 => some (x.toUInt32 % 65536).toInt32
  | _ => none
def q_cm (j : Nat) (x y : Int32) : Option Bool := match j with
  | 0 => some (decide (x = y))
  | 1 => some (decide (x ≠ y))
  | 2 => some (decide (x < y))
  | 3 => some (decide (y ≤ x))
  | 4 => some (decide (y < x))
  | 5 => some (decide (x ≤ y))
  | _ => none
def q_ix (x : Int32) : Option Nat := if x < 0 then none else some x.toNatClampNeg
def q_ib (x : Int32) : Bool := decide (x = 0) || decide (x = 1)
def q_O32 : q_O Int32 := (fun x => x, q_o2, q_o1, q_cm, q_ix, q_ib, fun x => some x.toInt, fun x => some x.toInt64)
end
section
/-! THE SMALL MACHINE'S STEPS ARE THE MACHINE'S: cell n lies at S + n; b is the script's cell -/
def q_ren (S b : Nat) : q_V Int32 → Value
  | .inl x => .int x
  | .inr (.inl y) => .long y
  | .inr (.inr 0) => .null
  | .inr (.inr 1) => .ref b
  | .inr (.inr (n + 2)) => .ref (S + n)
def q_rl (S b : Nat) (q : Nat × q_V Int32) : Nat × Value := (q.1, q_ren S b q.2)
def q_in (v : q_V Int32) : Int32 := match v with
  | .inl x => x
  | _ => 0
def q_lg (v : q_V Int32) : Int64 := match v with
  | .inr (.inl y) => y
  | _ => 0
def q_fs (S b : Nat) (u : q_U Int32) (N : Nat) : List Value := (List.range N).map (fun k => q_ren S b ((q_at u k).getD (.inr (.inr 0))))
def q_e (S b : Nat) (cA : Nat → ClassId) (q : q_C Int32) : va_E :=
  if q.1 < 100 then .inr (q.1, q_fs S b q.2.2 q.2.1)
  else if q.1 = 103 then .inl (cA q.1, q.2.1, .inr (.inl (fun j => q_lg (q_el q_O32 q j))))
  else .inl (cA q.1, q.2.1, .inl (fun j => q_in (q_el q_O32 q j)))
def q_ws (S b : Nat) (cA : Nat → ClassId) (h : q_H Int32) : va_W := h.mapIdx (fun i q => (S + i, q_e S b cA q))
def q_tys (cA : Nat → ClassId) : List (ClassId × FieldType) := [(cA 100, .int), (cA 101, .byte), (cA 102, .boolean), (cA 103, .long)]
theorem q_ren_cat (S b : Nat) (v : q_V Int32) : (q_ren S b v).category = q_cat v := by
  rcases v with x | y | n
  · rfl
  · rfl
  · rcases n with _ | _ | n <;> rfl
theorem q_cats_map (S b : Nat) (st : List (q_V Int32)) : ((st.map (q_ren S b)).map fun v => v.category).sum = q_cats st := by
  induction st with
  | nil => rfl
  | cons v st ih => simp only [List.map_cons, List.sum_cons, ih, q_ren_cat, q_cats]
theorem q_ws_at {S b : Nat} {cA : Nat → ClassId} {h : q_H Int32} {o : Nat} {q : q_C Int32} (hq : h[o]? = some q) : (q_ws S b cA h)[o]? = some (S + o, q_e S b cA q) := by
  simp [q_ws, List.getElem?_mapIdx, hq]
theorem q_ws_len (S b : Nat) (cA : Nat → ClassId) (h : q_H Int32) : (q_ws S b cA h).length = h.length := by simp [q_ws]
theorem q_ws_set (S b : Nat) (cA : Nat → ClassId) (h : q_H Int32) (o : Nat) (q : q_C Int32) : q_ws S b cA (h.set o q) = (q_ws S b cA h).set o (S + o, q_e S b cA q) := by
  apply List.ext_getElem?
  intro i
  simp only [q_ws, List.getElem?_mapIdx, List.getElem?_set, List.length_mapIdx]
  by_cases hi : o = i
  · subst hi
    by_cases hl : o < h.length <;> simp [hl]
  · simp [hi]
theorem q_ws_app (S b : Nat) (cA : Nat → ClassId) (h : q_H Int32) (q : q_C Int32) : q_ws S b cA (h ++ [q]) = q_ws S b cA h ++ [(S + h.length, q_e S b cA q)] := by
  simp [q_ws, List.mapIdx_append]
theorem q_ws_D (S b : Nat) (cA : Nat → ClassId) (h : q_H Int32) : va_D (fun q => S ≤ q) (q_ws S b cA h) := by
  refine ⟨fun i j x y hx hy e => ?_, fun k x hx => ?_⟩
  · simp only [q_ws, List.getElem?_mapIdx, Option.map_eq_some_iff] at hx hy
    obtain ⟨_, _, rfl⟩ := hx
    obtain ⟨_, _, rfl⟩ := hy
    simp only at e
    omega
  · simp only [q_ws, List.getElem?_mapIdx, Option.map_eq_some_iff] at hx
    obtain ⟨_, _, rfl⟩ := hx
    exact Nat.le_add_right _ _
theorem q_at_mem {α : Type} : ∀ {l : List (Nat × α)} {i : Nat} {v : α}, q_at l i = some v → (i, v) ∈ l
  | [], _, _, h => by simp [q_at] at h
  | q :: r, i, v, h => by
    unfold q_at at h
    cases hb : Nat.beq q.1 i with
    | true =>
      rw [hb, cond_true] at h
      have e := Nat.eq_of_beq_eq_true hb
      cases h
      subst e
      exact List.mem_cons_self
    | false =>
      rw [hb, cond_false] at h
      exact List.mem_cons_of_mem _ (q_at_mem h)
theorem q_lv {S b : Nat} {ls : Array Slot} {nL : Nat} {l : q_U Int32} (hl : lv_has ls nL (l.map (q_rl S b))) {i : Nat} {v : q_V Int32} (h : q_at l i = some v) : ls[i]? = some (.val (q_ren S b v)) :=
  hl.2.2 (i, q_ren S b v) (List.mem_map.mpr ⟨(i, v), q_at_mem h, rfl⟩)
theorem q_at_cons {α : Type} (i : Nat) (v : α) (l : List (Nat × α)) (k : Nat) : q_at ((i, v) :: l) k = if i = k then some v else q_at l k := by
  show (bif Nat.beq i k then some v else q_at l k) = _
  by_cases h : i = k
  · subst h
    simp
  · have h2 : Nat.beq i k = false := by
      cases hb : Nat.beq i k with
      | true => exact absurd (Nat.eq_of_beq_eq_true hb) h
      | false => rfl
    rw [h2, if_neg h]
    rfl
theorem q_fs_len (S b : Nat) (u : q_U Int32) (N : Nat) : (q_fs S b u N).length = N := by simp [q_fs]
theorem q_fs_at {S b : Nat} {u : q_U Int32} {N k : Nat} {v : q_V Int32} (hk : k < N) (h : q_at u k = some v) : (q_fs S b u N)[k]? = some (q_ren S b v) := by
  simp [q_fs, List.getElem?_map, List.getElem?_range hk, h]
theorem q_fs_set (S b : Nat) (u : q_U Int32) (N k : Nat) (v : q_V Int32) : q_fs S b ((k, v) :: u) N = (q_fs S b u N).set k (q_ren S b v) := by
  apply List.ext_getElem?
  intro i
  simp only [q_fs, List.getElem?_set, List.getElem?_map, List.length_map, List.length_range]
  by_cases hi : k = i
  · subst hi
    by_cases hl : k < N
    · simp [hl, q_at_cons]
    · simp [hl]
  · by_cases hl : i < N
    · simp [hi, hl, q_at_cons]
    · simp [hi, hl]
theorem q_beq {a b : Nat} (h : Nat.beq a b = true) : a = b := Nat.eq_of_beq_eq_true h
theorem q_blt {a b : Nat} (h : Nat.blt a b = true) : a < b := Nat.le_of_ble_eq_true h
theorem q_ix_spec {x : Int32} {j : Nat} (h : q_ix x = some j) : ¬ x < 0 ∧ x.toNatClampNeg = j := by
  unfold q_ix at h
  by_cases hx : x < 0
  · rw [if_pos hx] at h; cases h
  · rw [if_neg hx] at h
    exact ⟨hx, Option.some.inj h⟩
theorem q_ib_spec {x : Int32} (h : q_ib x = true) : x = 0 ∨ x = 1 := by
  unfold q_ib at h
  simpa using h
def q_G (p : Program) (l : Launch) (e : Env) (R : Room) (s : State) (m : MethodId) (args : Array Value) (below : List Frame) (meth : Method) (c : Code) (S b : Nat) (D : va_G) (cA : Nat → ClassId) (cl : List vw_C) (nL : Nat) (f : q_F Int32) (h : q_H Int32) (cells slots : Nat) (Q : State → Prop) : Prop :=
  ∀ (H : Heap) (locs : List Loc) (ls : Array Slot), H.size = S + h.length → va_P D cl (q_ws S b cA h) H → va_S (fun q => S ≤ q) s.heap H locs → lv_has ls nL (f.2.1.map (q_rl S b)) → W p l e R s m args below meth c H locs cells slots Q (F0 m f.1 ls (f.2.2.map (q_ren S b)))
def q_K (p : Program) (l : Launch) (e : Env) (R : Room) (s : State) (m : MethodId) (args : Array Value) (below : List Frame) (meth : Method) (c : Code) (S b : Nat) (D : va_G) (cA : Nat → ClassId) (cl : List vw_C) (nL : Nat) (f : q_F Int32) (h : q_H Int32) (ns : Nat) (f' : q_F Int32) (h' : q_H Int32) (ns' : Nat) : Prop :=
  h.length ≤ h'.length ∧ ns ≤ ns' ∧ ∀ (cells slots : Nat) (Q : State → Prop), s.heap.size + cells = S + h.length → cells + (h'.length - h.length) ≤ R.cells → slots + (ns' - ns) ≤ R.slots → q_G p l e R s m args below meth c S b D cA cl nL f' h' (cells + (h'.length - h.length)) (slots + (ns' - ns)) Q → q_G p l e R s m args below meth c S b D cA cl nL f h cells slots Q
abbrev q_CX (p : Program) (s : State) (m : MethodId) (args : Array Value) (c : Code) (S : Nat) (D : va_G) (cA : Nat → ClassId) (cl : List vw_C) (nL : Nat) (own : String) (cc : ByteArray) (Ts : List Cond) : Prop :=
  p.tables.exec = Jvm.exec ∧ c.code = cc ∧ c.maxLocals = nL ∧ s.vm.findClass own = some m.cls ∧ (∀ w ∈ Ts, w.before args s = true) ∧ va_K D cl (q_tys cA) s ∧ S ≤ s.heap.size
section QS1
variable {p : Program} {l : Launch} {e : Env} {R : Room} {s : State} {m : MethodId} {args : Array Value} {below : List Frame} {meth : Method} {c : Code} {S b : Nat} {D : va_G} {cA : Nat → ClassId} {cl : List vw_C} {nL : Nat} {own : String} {cc : ByteArray} {Ts : List Cond}
variable {f f' : q_F Int32} {h h' : q_H Int32} {ns ns' : Nat}
theorem q_K.same (k : ∀ (cells slots : Nat) (Q : State → Prop), q_G p l e R s m args below meth c S b D cA cl nL f' h cells slots Q → q_G p l e R s m args below meth c S b D cA cl nL f h cells slots Q) : q_K p l e R s m args below meth c S b D cA cl nL f h ns f' h ns :=
  ⟨Nat.le_refl _, Nat.le_refl _, fun cells slots Q _ _ _ g => k cells slots Q (by simpa using g)⟩
theorem q_s_nx {len : Nat} {st : List (q_V Int32)} (hs : q_nx len f st h ns = some (.inl (f', h', ns'))) (k : ∀ (cells slots : Nat) (Q : State → Prop), q_G p l e R s m args below meth c S b D cA cl nL (f.1 + len, f.2.1, st) h cells slots Q → q_G p l e R s m args below meth c S b D cA cl nL f h cells slots Q) : q_K p l e R s m args below meth c S b D cA cl nL f h ns f' h' ns' := by
  cases hs
  exact q_K.same k
/-- a row that leaves heap and locals as they are: its stack before and behind -/
theorem q_s_row {pc' : Nat} {st st' : List (q_V Int32)} (e0 : f.2.2 = st) (k : ∀ (H : Heap) (locs : List Loc) (ls : Array Slot) (cells slots : Nat) (Q : State → Prop), W p l e R s m args below meth c H locs cells slots Q (F0 m pc' ls (st'.map (q_ren S b))) → W p l e R s m args below meth c H locs cells slots Q (F0 m f.1 ls (st.map (q_ren S b)))) : ∀ (cells slots : Nat) (Q : State → Prop), q_G p l e R s m args below meth c S b D cA cl nL (pc', f.2.1, st') h cells slots Q → q_G p l e R s m args below meth c S b D cA cl nL f h cells slots Q := by
  intro cells slots Q g H locs ls hz hP hS hl
  rw [e0]
  exact k H locs ls cells slots Q (g H locs ls hz hP hS hl)
theorem q_s_ld {t i len : Nat} (hs : q_ld t i len f h ns = some (.inl (f', h', ns'))) (row : ∀ (v : q_V Int32), q_kind v = t → ∀ (H : Heap) (locs : List Loc) (ls : Array Slot) (cells slots : Nat) (Q : State → Prop) (rest : List Value), ls[i]? = some (.val (q_ren S b v)) → W p l e R s m args below meth c H locs cells slots Q (F0 m (f.1 + len) ls (q_ren S b v :: rest)) → W p l e R s m args below meth c H locs cells slots Q (F0 m f.1 ls rest)) : q_K p l e R s m args below meth c S b D cA cl nL f h ns f' h' ns' := by
  unfold q_ld at hs
  split at hs
  next v hv =>
    cases ht : Nat.beq (q_kind v) t with
    | false => rw [ht] at hs; cases hs
    | true =>
      rw [ht, cond_true] at hs
      refine q_s_nx hs fun cells slots Q g H locs ls hz hP hS hl => ?_
      exact row v (q_beq ht) H locs ls cells slots Q _ (q_lv hl hv) (g H locs ls hz hP hS hl)
  next => cases hs
theorem q_filter1 (S b i : Nat) (l : q_U Int32) : (l.map (q_rl S b)).filter (fun q => !(q.1 == i) && !(q.1 + 1 == i && q.2.category == 2)) = (l.filter (q_keep1 i)).map (q_rl S b) := by
  rw [List.filter_map]
  congr 1
  apply List.filter_congr
  intro q _
  simp only [Function.comp, q_rl, q_ren_cat, q_keep1]
theorem q_filter2 (S b i : Nat) (l : q_U Int32) : (l.map (q_rl S b)).filter (fun q => !(q.1 == i) && (!(q.1 == i + 1) && !(q.1 + 1 == i && q.2.category == 2))) = (l.filter (q_keep2 i)).map (q_rl S b) := by
  rw [List.filter_map]
  congr 1
  apply List.filter_congr
  intro q _
  simp only [Function.comp, q_rl, q_ren_cat, q_keep2]
theorem q_s_st {t i len : Nat} (ht2 : t ≠ 2) (hs : q_st t i len f h ns = some (.inl (f', h', ns'))) (row : ∀ (v : q_V Int32), q_kind v = t → ∀ (H : Heap) (locs : List Loc) (ls : Array Slot) (cells slots : Nat) (Q : State → Prop) (rest : List Value) (lv lv' : List (Nat × Value)), lv_has ls nL lv → (i, q_ren S b v) :: lv.filter (fun q => !(q.1 == i) && !(q.1 + 1 == i && q.2.category == 2)) = lv' → (∀ ls' : Array Slot, lv_has ls' nL lv' → W p l e R s m args below meth c H locs cells slots Q (F0 m (f.1 + len) ls' rest)) → W p l e R s m args below meth c H locs cells slots Q (F0 m f.1 ls (q_ren S b v :: rest))) : q_K p l e R s m args below meth c S b D cA cl nL f h ns f' h' ns' := by
  unfold q_st at hs
  split at hs
  next v r hv =>
    cases ht : Nat.beq (q_kind v) t with
    | false => rw [ht] at hs; cases hs
    | true =>
      have h2 : Nat.beq t 2 = false := by
        cases hb : Nat.beq t 2 with
        | true => exact absurd (q_beq hb) ht2
        | false => rfl
      rw [ht, cond_true, h2, cond_false] at hs
      cases hs
      refine q_K.same fun cells slots Q g H locs ls hz hP hS hl => ?_
      rw [hv]
      refine row v (q_beq ht) H locs ls cells slots Q _ _ _ hl rfl fun ls' hl' => g H locs ls' hz hP hS ?_
      rw [q_filter1] at hl'
      exact hl'
  next => cases hs
theorem q_s_st2 {i len : Nat} (hs : q_st 2 i len f h ns = some (.inl (f', h', ns'))) (row : ∀ (v : q_V Int32), q_kind v = 2 → ∀ (H : Heap) (locs : List Loc) (ls : Array Slot) (cells slots : Nat) (Q : State → Prop) (rest : List Value) (lv lv' : List (Nat × Value)), lv_has ls nL lv → (i, q_ren S b v) :: lv.filter (fun q => !(q.1 == i) && (!(q.1 == i + 1) && !(q.1 + 1 == i && q.2.category == 2))) = lv' → (∀ ls' : Array Slot, lv_has ls' nL lv' → W p l e R s m args below meth c H locs cells slots Q (F0 m (f.1 + len) ls' rest)) → W p l e R s m args below meth c H locs cells slots Q (F0 m f.1 ls (q_ren S b v :: rest))) : q_K p l e R s m args below meth c S b D cA cl nL f h ns f' h' ns' := by
  unfold q_st at hs
  split at hs
  next v r hv =>
    cases ht : Nat.beq (q_kind v) 2 with
    | false => rw [ht] at hs; cases hs
    | true =>
      rw [ht, cond_true] at hs
      cases hs
      refine q_K.same fun cells slots Q g H locs ls hz hP hS hl => ?_
      rw [hv]
      refine row v (q_beq ht) H locs ls cells slots Q _ _ _ hl rfl fun ls' hl' => g H locs ls' hz hP hS ?_
      rw [q_filter2] at hl'
      exact hl'
  next => cases hs
theorem q_kind0 {v : q_V Int32} (h : q_kind v = 0) : ∃ x, v = .inl x := by
  rcases v with x | y | n
  · exact ⟨x, rfl⟩
  · cases h
  · rcases n with _ | n <;> cases h
theorem q_kind1 {v : q_V Int32} (h : q_kind v = 1) : ∃ a, q_ren S b v = .ref a := by
  rcases v with x | y | n
  · cases h
  · cases h
  · rcases n with _ | _ | n
    · cases h
    · exact ⟨b, rfl⟩
    · exact ⟨S + n, rfl⟩
theorem q_kind2 {v : q_V Int32} (h : q_kind v = 2) : ∃ x, v = .inr (.inl x) := by
  rcases v with x | y | n
  · cases h
  · exact ⟨y, rfl⟩
  · rcases n with _ | n <;> cases h
theorem q_s_b2 {j len : Nat} (hs : q_b2 q_O32 j len f h ns = some (.inl (f', h', ns'))) (row : ∀ (x y z : Int32), q_o2 j x y = some z → ∀ (H : Heap) (locs : List Loc) (ls : Array Slot) (cells slots : Nat) (Q : State → Prop) (rest : List Value), W p l e R s m args below meth c H locs cells slots Q (F0 m (f.1 + len) ls (.int z :: rest)) → W p l e R s m args below meth c H locs cells slots Q (F0 m f.1 ls (.int y :: .int x :: rest))) : q_K p l e R s m args below meth c S b D cA cl nL f h ns f' h' ns' := by
  unfold q_b2 at hs
  split at hs
  next y x r hv =>
    split at hs
    next z hz => exact q_s_nx hs (q_s_row hv fun H locs ls cells slots Q k => row x y z hz H locs ls cells slots Q _ k)
    next => cases hs
  next => cases hs
theorem q_s_b1 {j len : Nat} (hs : q_b1 q_O32 j len f h ns = some (.inl (f', h', ns'))) (row : ∀ (x z : Int32), q_o1 j x = some z → ∀ (H : Heap) (locs : List Loc) (ls : Array Slot) (cells slots : Nat) (Q : State → Prop) (rest : List Value), W p l e R s m args below meth c H locs cells slots Q (F0 m (f.1 + len) ls (.int z :: rest)) → W p l e R s m args below meth c H locs cells slots Q (F0 m f.1 ls (.int x :: rest))) : q_K p l e R s m args below meth c S b D cA cl nL f h ns f' h' ns' := by
  unfold q_b1 at hs
  split at hs
  next x r hv =>
    split at hs
    next z hz => exact q_s_nx hs (q_s_row hv fun H locs ls cells slots Q k => row x z hz H locs ls cells slots Q _ k)
    next => cases hs
  next => cases hs
theorem q_s_l2 {j len : Nat} (hs : q_l2 j len f h ns = some (.inl (f', h', ns'))) (row : ∀ (x y z : Int64), q_lo j x y = some z → ∀ (H : Heap) (locs : List Loc) (ls : Array Slot) (cells slots : Nat) (Q : State → Prop) (rest : List Value), W p l e R s m args below meth c H locs cells slots Q (F0 m (f.1 + len) ls (.long z :: rest)) → W p l e R s m args below meth c H locs cells slots Q (F0 m f.1 ls (.long y :: .long x :: rest))) : q_K p l e R s m args below meth c S b D cA cl nL f h ns f' h' ns' := by
  unfold q_l2 at hs
  split at hs
  next y x r hv =>
    split at hs
    next z hz => exact q_s_nx hs (q_s_row hv fun H locs ls cells slots Q k => row x y z hz H locs ls cells slots Q _ k)
    next => cases hs
  next => cases hs
theorem q_s_iinc (cx : q_CX p s m args c S D cA cl nL own cc Ts) {i len : Nat} {n : Int} (hn : i < nL) (hlen : len = 3) (hdg : decode cc f.1 = .ok (.iinc i n, 3)) (hs : q_iinc q_O32 i n len f h ns = some (.inl (f', h', ns'))) : q_K p l e R s m args below meth c S b D cA cl nL f h ns f' h' ns' := by
  subst hlen
  unfold q_iinc at hs
  split at hs
  next x hx =>
    split at hs
    next y hy =>
      cases hs
      refine q_K.same fun cells slots Q g H locs ls hz hP hS hl => ?_
      obtain ⟨k, hk⟩ := List.mem_iff_getElem?.mp (List.mem_map.mpr ⟨(i, .inl x), q_at_mem hx, rfl⟩ : q_rl S b (i, .inl x) ∈ f.2.1.map (q_rl S b))
      refine lv_iinc (v := y) cx.1 cx.2.1 hdg hl (k := k) hk (Option.some.inj hy) hn rfl fun ls' hl' => g H locs ls' hz hP hS ?_
      rw [q_filter1] at hl'
      exact hl'
    next => cases hs
  next => cases hs
theorem q_s_jmp {r : List Nat} {len : Nat} {t : Option Bool} {st : List (q_V Int32)} (hs : q_jmp r len t f st h ns = some (.inl (f', h', ns'))) (k : ∀ tg, r = [tg] → ∀ (cells slots : Nat) (Q : State → Prop), (t = some true → q_G p l e R s m args below meth c S b D cA cl nL (tg, f.2.1, st) h cells slots Q) → (t = some false → q_G p l e R s m args below meth c S b D cA cl nL (f.1 + len, f.2.1, st) h cells slots Q) → t.isSome = true → q_G p l e R s m args below meth c S b D cA cl nL f h cells slots Q) : q_K p l e R s m args below meth c S b D cA cl nL f h ns f' h' ns' := by
  unfold q_jmp at hs
  split at hs
  next tg => cases hs; exact q_K.same fun cells slots Q g => k tg rfl cells slots Q (fun _ => g) (fun z => by cases z) rfl
  next tg => cases hs; exact q_K.same fun cells slots Q g => k tg rfl cells slots Q (fun z => by cases z) (fun _ => g) rfl
  next => cases hs
theorem q_s_if (cx : q_CX p s m args c S D cA cl nL own cc Ts) {cd : Jvm.ClassFile.Cond} {off : Int} {r : List Nat} {len : Nat} (hlen : len = 3) (hdg : decode cc f.1 = .ok (.ifCond cd off, 3)) (ht : ∀ tg, r = [tg] → (f.1 : Int) + off = (tg : Int)) (hs : q_if q_O32 (q_cn cd) r len f h ns = some (.inl (f', h', ns'))) : q_K p l e R s m args below meth c S b D cA cl nL f h ns f' h' ns' := by
  subst hlen
  unfold q_if at hs
  split at hs
  next x st hv =>
    refine q_s_jmp hs fun tg htg cells slots Q g1 g2 _ H locs ls hz hP hS hl => ?_
    have h1 := fun q => g1 q H locs ls hz hP hS hl
    have h2 := fun q => g2 q H locs ls hz hP hS hl
    rw [hv]
    cases cd
    · exact lv_if_eq cx.1 cx.2.1 hdg (ht tg htg) (fun q => h1 (by simpa [q_cn, q_O32, q_cm] using q)) (fun q => h2 (by simpa [q_cn, q_O32, q_cm] using q))
    · exact lv_if_ne cx.1 cx.2.1 hdg (ht tg htg) (fun q => h1 (by simpa [q_cn, q_O32, q_cm] using q)) (fun q => h2 (by simpa [q_cn, q_O32, q_cm] using q))
    · exact lv_if_lt cx.1 cx.2.1 hdg (ht tg htg) (fun q => h1 (by simpa [q_cn, q_O32, q_cm] using q)) (fun q => h2 (by simpa [q_cn, q_O32, q_cm] using q))
    · exact lv_if_ge cx.1 cx.2.1 hdg (ht tg htg) (fun q => h1 (by simpa [q_cn, q_O32, q_cm] using q)) (fun q => h2 (by simpa [q_cn, q_O32, q_cm] using q))
    · exact lv_if_gt cx.1 cx.2.1 hdg (ht tg htg) (fun q => h1 (by simpa [q_cn, q_O32, q_cm] using q)) (fun q => h2 (by simpa [q_cn, q_O32, q_cm] using q))
    · exact lv_if_le cx.1 cx.2.1 hdg (ht tg htg) (fun q => h1 (by simpa [q_cn, q_O32, q_cm] using q)) (fun q => h2 (by simpa [q_cn, q_O32, q_cm] using q))
  next => cases hs
theorem q_s_ic (cx : q_CX p s m args c S D cA cl nL own cc Ts) {cd : Jvm.ClassFile.Cond} {off : Int} {r : List Nat} {len : Nat} (hlen : len = 3) (hdg : decode cc f.1 = .ok (.if_icmp cd off, 3)) (ht : ∀ tg, r = [tg] → (f.1 : Int) + off = (tg : Int)) (hs : q_ic q_O32 (q_cn cd) r len f h ns = some (.inl (f', h', ns'))) : q_K p l e R s m args below meth c S b D cA cl nL f h ns f' h' ns' := by
  subst hlen
  unfold q_ic at hs
  split at hs
  next y x st hv =>
    refine q_s_jmp hs fun tg htg cells slots Q g1 g2 _ H locs ls hz hP hS hl => ?_
    have h1 := fun q => g1 q H locs ls hz hP hS hl
    have h2 := fun q => g2 q H locs ls hz hP hS hl
    rw [hv]
    cases cd
    · exact lv_icmp_eq cx.1 cx.2.1 hdg (ht tg htg) (fun q => h1 (by simpa [q_cn, q_O32, q_cm] using q)) (fun q => h2 (by simpa [q_cn, q_O32, q_cm] using q))
    · exact lv_icmp_ne cx.1 cx.2.1 hdg (ht tg htg) (fun q => h1 (by simpa [q_cn, q_O32, q_cm] using q)) (fun q => h2 (by simpa [q_cn, q_O32, q_cm] using q))
    · exact lv_icmp_lt cx.1 cx.2.1 hdg (ht tg htg) (fun q => h1 (by simpa [q_cn, q_O32, q_cm] using q)) (fun q => h2 (by simpa [q_cn, q_O32, q_cm] using q))
    · exact lv_icmp_ge cx.1 cx.2.1 hdg (ht tg htg) (fun q => h1 (by simpa [q_cn, q_O32, q_cm] using q)) (fun q => h2 (by simpa [q_cn, q_O32, q_cm] using q))
    · exact lv_icmp_gt cx.1 cx.2.1 hdg (ht tg htg) (fun q => h1 (by simpa [q_cn, q_O32, q_cm] using q)) (fun q => h2 (by simpa [q_cn, q_O32, q_cm] using q))
    · exact lv_icmp_le cx.1 cx.2.1 hdg (ht tg htg) (fun q => h1 (by simpa [q_cn, q_O32, q_cm] using q)) (fun q => h2 (by simpa [q_cn, q_O32, q_cm] using q))
  next => cases hs
end QS1
end
section
section QS2
variable {p : Program} {l : Launch} {e : Env} {R : Room} {s : State} {m : MethodId} {args : Array Value} {below : List Frame} {meth : Method} {c : Code} {S b : Nat} {D : va_G} {cA : Nat → ClassId} {cl : List vw_C} {nL : Nat} {own : String} {cc : ByteArray} {Ts : List Cond}
variable {f f' : q_F Int32} {h h' : q_H Int32} {ns ns' : Nat}
theorem q_ws_le {H : Heap} (hP : va_P D cl (q_ws S b cA h) H) (hS : S ≤ H.size) : S + h.length ≤ H.size := by
  rcases Nat.eq_zero_or_pos h.length with h0 | h0
  · omega
  · have hl : h.length - 1 < h.length := by omega
    have h1 := (hP _ _ (q_ws_at (S := S) (b := b) (cA := cA) (List.getElem?_eq_getElem hl))).lt
    simp only at h1
    omega
theorem q_sz {H : Heap} {locs : List Loc} {cells slots : Nat} {Q : State → Prop} {g : JFrame} (hP : va_P D cl (q_ws S b cA h) H) (hS : va_S (fun q => S ≤ q) s.heap H locs) (hS0 : S ≤ s.heap.size) (hc : s.heap.size + cells = S + h.length) (k : H.size = S + h.length → W p l e R s m args below meth c H locs cells slots Q g) : W p l e R s m args below meth c H locs cells slots Q g := by
  intro T hT X
  refine k ?_ T hT X
  have h1 := X.heapSize
  rw [hT] at h1
  have h2 := q_ws_le hP (Nat.le_trans hS0 hS.1)
  omega
theorem q_s_getf (cx : q_CX p s m args c S D cA cl nL own cc Ts) {ci k idx len : Nat} {x : List Nat} {C : String} {T : u_T} {N : Nat} (hlen : len = 3) (hci : ci < 100) (hc : cl[ci]? = some (C, T, N)) (hk : k < N) (hcw : ∀ w ∈ u_ws C T N, w ∈ Ts) (hlk : Cond.fieldLink own idx (T k).1 (T k).2.1 (T k).2.2.1 ∈ Ts) (hdg : decode cc f.1 = .ok (.getfield idx, 3)) (hs : q_getf (ci :: k :: x) len f h ns = some (.inl (f', h', ns'))) : q_K p l e R s m args below meth c S b D cA cl nL f h ns f' h' ns' := by
  subst hlen
  unfold q_getf at hs
  split at hs
  next ci' k' x' o st he hv =>
    cases he
    split at hs
    next q hq =>
      cases hb : Nat.beq q.1 ci && Nat.blt k q.2.1 with
      | false => rw [hb] at hs; cases hs
      | true =>
        rw [hb, cond_true] at hs
        simp only [Bool.and_eq_true] at hb
        split at hs
        next v hat =>
          refine q_s_nx hs fun cells slots Q g H locs ls hz hP hS hl => ?_
          have hw := q_ws_at (S := S) (b := b) (cA := cA) hq
          have e1 : q.1 = ci := q_beq hb.1
          rw [show q_e S b cA q = .inr (ci, q_fs S b q.2.2 q.2.1) by unfold q_e; rw [e1, if_pos hci]] at hw
          rw [hv]
          exact va_get cx.1 cx.2.1 cx.2.2.2.2.1 hcw cx.2.2.2.1 cx.2.2.2.2.2.1 hP o hw hc k hk (cx.2.2.2.2.1 _ hlk) (fun _ q => q) (q_fs_at (q_blt hb.2) hat) hdg (g H locs ls hz hP hS hl)
        next => cases hs
    next => cases hs
  next => cases hs
def q_kd : FieldType → Nat
  | .boolean => 1
  | .long => 2
  | .object _ => 3
  | .array _ => 3
  | .int => 0
  | _ => 9
theorem q_fit_ok {ty : FieldType} {v : q_V Int32} (hf : q_fit q_O32 (q_kd ty) v = true) : narrow ty (q_ren S b v) = q_ren S b v ∧ fits ty (q_ren S b v) = true := by
  rcases v with x | y | n
  · cases ty <;> simp [q_fit, q_kd, Nat.beq] at hf
    · exact ⟨rfl, rfl⟩
    · rcases q_ib_spec hf with rfl | rfl
      · exact ⟨show Value.int ((0 : Int32) &&& 1) = Value.int 0 by decide, show ((0 : Int32) == 0 || (0 : Int32) == 1) = true by decide⟩
      · exact ⟨show Value.int ((1 : Int32) &&& 1) = Value.int 1 by decide, show ((1 : Int32) == 0 || (1 : Int32) == 1) = true by decide⟩
  · cases ty <;> simp [q_fit, q_kd, Nat.beq] at hf
    exact ⟨rfl, rfl⟩
  · cases ty <;> simp [q_fit, q_kd, Nat.beq] at hf <;> rcases n with _ | _ | n <;> exact ⟨rfl, rfl⟩
theorem q_s_putf (cx : q_CX p s m args c S D cA cl nL own cc Ts) {ci k kd idx len : Nat} {C : String} {T : u_T} {N : Nat} {ty0 : Nat → FieldType} (hlen : len = 3) (hci : ci < 100) (hc : cl[ci]? = some (C, T, N)) (hk : k < N) (hcw : ∀ w ∈ u_ws C T N, w ∈ Ts) (hty : ∀ k, k < N → parseFieldDescriptor (T k).2.2.1 = some (ty0 k)) (hnm : ∀ a, a < N → ∀ b, b < N → a ≠ b → (T a).2.1 ≠ (T b).2.1) (hkd : kd = q_kd (ty0 k)) (hfin : (T k).2.2.2 = false ∨ ((T k).2.2.2 = true ∧ meth.name = "<init>" ∧ (T k).1 = own)) (hlk : Cond.fieldLink own idx (T k).1 (T k).2.1 (T k).2.2.1 ∈ Ts) (hdg : decode cc f.1 = .ok (.putfield idx, 3)) (hs : q_putf q_O32 [ci, k, kd] len f h ns = some (.inl (f', h', ns'))) : q_K p l e R s m args below meth c S b D cA cl nL f h ns f' h' ns' := by
  subst hlen
  subst hkd
  unfold q_putf at hs
  split at hs
  next ci' k' kd' x' v o st he hv =>
    cases he
    split at hs
    next q hq =>
      cases hb : Nat.beq q.1 ci && (Nat.blt k q.2.1 && q_fit q_O32 (q_kd (ty0 k)) v) with
      | false => rw [hb] at hs; cases hs
      | true =>
        rw [hb, cond_true] at hs
        simp only [Bool.and_eq_true] at hb
        cases hs
        refine ⟨by rw [List.length_set]; exact Nat.le_refl _, Nat.le_refl _, fun cells slots Q hcz _ _ g H locs ls hz hP hS hl => ?_⟩
        have hw := q_ws_at (S := S) (b := b) (cA := cA) hq
        have e1 : q.1 = ci := q_beq hb.1
        have e2 : q_e S b cA (q.1, q.2.1, (k, v) :: q.2.2) = .inr (ci, (q_fs S b q.2.2 q.2.1).set k (q_ren S b v)) := by
          unfold q_e
          rw [e1, if_pos hci, q_fs_set]
        rw [show q_e S b cA q = .inr (ci, q_fs S b q.2.2 q.2.1) by unfold q_e; rw [e1, if_pos hci]] at hw
        obtain ⟨hn, hft⟩ := q_fit_ok (S := S) (b := b) hb.2.2
        rw [hv]
        have go : ∀ (H1 : Heap) (locs1 : List Loc), va_P D cl ((q_ws S b cA h).set o (S + o, .inr (ci, (q_fs S b q.2.2 q.2.1).set k (q_ren S b v)))) H1 → va_D (fun q => S ≤ q) ((q_ws S b cA h).set o (S + o, .inr (ci, (q_fs S b q.2.2 q.2.1).set k (q_ren S b v)))) → va_S (fun q => S ≤ q) s.heap H1 locs1 → W p l e R s m args below meth c H1 locs1 cells slots Q (F0 m (f.1 + 3) ls (st.map (q_ren S b))) := by
          intro H1 locs1 hP1 _ hS1
          rw [← e2, ← q_ws_set] at hP1
          refine q_sz hP1 hS1 cx.2.2.2.2.2.2 (by rw [List.length_set]; exact hcz) fun hz1 => ?_
          have g1 := g H1 locs1 ls hz1 hP1 hS1 hl
          simp only [List.length_set, Nat.sub_self, Nat.add_zero] at g1
          exact g1
        rcases hfin with hfin | ⟨hfin, hin2, hdecl⟩
        · exact va_put cx.1 cx.2.1 cx.2.2.2.2.1 hcw ty0 hty hnm cx.2.2.2.1 cx.2.2.2.2.2.1 hP (q_ws_D S b cA h) hS o hw hc k hk (cx.2.2.2.2.1 _ hlk) (fun _ q => q) hfin (hty k hk) hn hft (by rw [q_fs_len]; exact q_blt hb.2.1) hdg go
        · exact va_putF cx.1 cx.2.1 cx.2.2.2.2.1 hcw ty0 hty hnm cx.2.2.2.1 cx.2.2.2.2.2.1 hP (q_ws_D S b cA h) hS o hw hc k hk (cx.2.2.2.2.1 _ hlk) (fun _ q => q) hfin hin2 hdecl (hty k hk) hn hft (by rw [q_fs_len]; exact q_blt hb.2.1) hdg go
    next => cases hs
  next => cases hs
theorem q_e_int {q : q_C Int32} (h1 : q.1 = 100 ∨ q.1 = 101 ∨ q.1 = 102) : q_e S b cA q = .inl (cA q.1, q.2.1, .inl (fun j => q_in (q_el q_O32 q j))) := by
  unfold q_e
  rw [if_neg (by omega), if_neg (by omega)]
theorem q_e_long {q : q_C Int32} (h1 : q.1 = 103) : q_e S b cA q = .inl (cA q.1, q.2.1, .inr (.inl (fun j => q_lg (q_el q_O32 q j)))) := by
  unfold q_e
  rw [if_neg (by omega), if_pos h1]
theorem q_vin {i : Int32} {j n : Nat} (h : q_ix i = some j) (hj : j < n) : vp_in i n := by
  obtain ⟨h1, h2⟩ := q_ix_spec h
  rintro (h3 | h3)
  · exact h1 h3
  · omega
theorem q_s_ald (cx : q_CX p s m args c S D cA cl nL own cc Ts) {tag kd len : Nat} {scr : Option (List Int32)} (hlen : len = 1) (hX : ∀ xs, scr = some xs → va_X b xs.length (fun j => xs.getD j 0) s s.heap ∧ b < s.heap.size ∧ ¬ S ≤ b)
    (hdg : (tag = 100 ∧ kd = 0 ∧ decode cc f.1 = .ok (.iaload, 1)) ∨ (tag = 101 ∧ kd = 0 ∧ decode cc f.1 = .ok (.baload, 1)) ∨ (tag = 103 ∧ kd = 2 ∧ decode cc f.1 = .ok (.laload, 1))) (hs : q_ald q_O32 scr tag kd len f h ns = some (.inl (f', h', ns'))) : q_K p l e R s m args below meth c S b D cA cl nL f h ns f' h' ns' := by
  subst hlen
  unfold q_ald at hs
  split at hs
  next i o st hv =>
    split at hs
    next q j hq hj =>
      cases hb : (Nat.beq q.1 tag || (Nat.beq tag 101 && Nat.beq q.1 102)) && (Nat.blt j q.2.1 && Nat.beq (q_kind (q_el q_O32 q j)) kd) with
      | false => rw [hb] at hs; cases hs
      | true =>
        rw [hb, cond_true] at hs
        simp only [Bool.and_eq_true, Bool.or_eq_true] at hb
        obtain ⟨ht, hj2, hk⟩ := hb
        refine q_s_nx hs fun cells slots Q g H locs ls hz hP hS hl => ?_
        have hw := q_ws_at (S := S) (b := b) (cA := cA) hq
        have g1 := g H locs ls hz hP hS hl
        have hjj : i.toNatClampNeg = j := (q_ix_spec hj).2
        have hin : vp_in i q.2.1 := q_vin hj (q_blt hj2)
        have hK := cx.2.2.2.2.2.1
        rw [hv]
        rcases hdg with ⟨rfl, rfl, hd⟩ | ⟨rfl, rfl, hd⟩ | ⟨rfl, rfl, hd⟩
        · obtain ⟨x, hx⟩ := q_kind0 (q_beq hk)
          have e1 : q.1 = 100 := by
            rcases ht with h1 | ⟨h1, -⟩
            · exact q_beq h1
            · cases h1
          rw [q_e_int (Or.inl e1)] at hw
          refine va_iald cx.1 cx.2.1 hK hP o 0 hw (by rw [e1]; rfl) hin hd ?_
          simp only [hjj, hx, q_in]
          simp only [hx] at g1
          exact g1
        · obtain ⟨x, hx⟩ := q_kind0 (q_beq hk)
          rcases ht with h1 | ⟨-, h1⟩
          · have e1 : q.1 = 101 := q_beq h1
            rw [q_e_int (Or.inr (Or.inl e1))] at hw
            refine va_bald cx.1 cx.2.1 hK hP o 1 hw (by rw [e1]; rfl) hin hd ?_
            simp only [hjj, hx, q_in]
            simp only [hx] at g1
            exact g1
          · have e1 : q.1 = 102 := q_beq h1
            rw [q_e_int (Or.inr (Or.inr e1))] at hw
            refine va_zald cx.1 cx.2.1 hK hP o 2 hw (by rw [e1]; rfl) hin hd ?_
            simp only [hjj, hx, q_in]
            simp only [hx] at g1
            exact g1
        · obtain ⟨x, hx⟩ := q_kind2 (q_beq hk)
          have e1 : q.1 = 103 := by
            rcases ht with h1 | ⟨h1, -⟩
            · exact q_beq h1
            · cases h1
          rw [q_e_long e1] at hw
          refine va_lald cx.1 cx.2.1 hK hP o 3 hw (by rw [e1]; rfl) hin hd ?_
          simp only [hjj, hx, q_lg]
          simp only [hx] at g1
          exact g1
    next => cases hs
  next i st hv =>
    split at hs
    next xs j hj =>
      split at hs
      next x hx =>
        cases ht : Nat.beq tag 100 with
        | false => rw [ht] at hs; cases hs
        | true =>
          rw [ht, cond_true] at hs
          have ht1 := q_beq ht
          have hd : decode cc f.1 = .ok (.iaload, 1) := by
            rcases hdg with ⟨-, -, hd⟩ | ⟨h1, -, -⟩ | ⟨h1, -, -⟩
            · exact hd
            · omega
            · omega
          obtain ⟨hX1, hX2, hX3⟩ := hX xs rfl
          have hjl : j < xs.length := (List.getElem?_eq_some_iff.mp hx).1
          refine q_s_nx hs fun cells slots Q g H locs ls hz hP hS hl => ?_
          have g1 := g H locs ls hz hP hS hl
          rw [hv]
          refine va_sld (A := fun q => S ≤ q) cx.1 cx.2.1 hX1 hX2 hX3 hS (q_vin hj hjl) hd ?_
          have e2 : xs.getD i.toNatClampNeg 0 = x := by rw [(q_ix_spec hj).2]; simp [List.getD, hx]
          simp only [e2]
          exact g1
      next => cases hs
    next => cases hs
  next => cases hs
theorem q_el_cons (O : q_O Int32) (t n j k : Nat) (w : q_V Int32) (u : q_U Int32) : q_el O (t, n, (j, w) :: u) k = if j = k then w else q_el O (t, n, u) k := by
  unfold q_el
  rw [show (t, n, (j, w) :: u).2.2 = (j, w) :: u from rfl, q_at_cons]
  by_cases h : j = k
  · simp [h]
  · simp only [if_neg h]
theorem q_upd_int (t n j : Nat) (w : q_V Int32) (u : q_U Int32) (x : Int32) (hw : q_in w = x) : (fun k => q_in (q_el q_O32 (t, n, (j, w) :: u) k)) = upd (fun k => q_in (q_el q_O32 (t, n, u) k)) j x := by
  funext k
  rw [q_el_cons]
  unfold upd
  by_cases h : j = k
  · subst h
    simp [hw]
  · rw [if_neg h, if_neg (fun q => h q.symm)]
theorem q_upd_long (t n j : Nat) (w : q_V Int32) (u : q_U Int32) (x : Int64) (hw : q_lg w = x) : (fun k => q_lg (q_el q_O32 (t, n, (j, w) :: u) k)) = vp_updL (fun k => q_lg (q_el q_O32 (t, n, u) k)) j x := by
  funext k
  rw [q_el_cons]
  unfold vp_updL
  by_cases h : j = k
  · subst h
    simp [hw]
  · rw [if_neg h, if_neg (fun q => h q.symm)]
theorem q_e_intP {q : q_C Int32} (h1 : q.1 = 100 ∨ q.1 = 101 ∨ q.1 = 102) (j k : Nat) (w : q_V Int32) (x : Int32) (hw : q_in w = x) (hj : k = j) : q_e S b cA (q.1, q.2.1, (j, w) :: q.2.2) = .inl (cA q.1, q.2.1, .inl (upd (fun j => q_in (q_el q_O32 q j)) k x)) := by
  subst hj
  obtain ⟨t, n, u⟩ := q
  rw [q_e_int (q := (t, n, (k, w) :: u)) h1]
  simp only [q_upd_int t n k w u x hw]
theorem q_e_longP {q : q_C Int32} (h1 : q.1 = 103) (j k : Nat) (w : q_V Int32) (x : Int64) (hw : q_lg w = x) (hj : k = j) : q_e S b cA (q.1, q.2.1, (j, w) :: q.2.2) = .inl (cA q.1, q.2.1, .inr (.inl (vp_updL (fun j => q_lg (q_el q_O32 q j)) k x))) := by
  subst hj
  obtain ⟨t, n, u⟩ := q
  rw [q_e_long (q := (t, n, (k, w) :: u)) h1]
  simp only [q_upd_long t n k w u x hw]
theorem q_s_ast (cx : q_CX p s m args c S D cA cl nL own cc Ts) {tag len : Nat} (hlen : len = 1)
    (hdg : (tag = 100 ∧ decode cc f.1 = .ok (.iastore, 1)) ∨ (tag = 101 ∧ decode cc f.1 = .ok (.bastore, 1)) ∨ (tag = 103 ∧ decode cc f.1 = .ok (.lastore, 1))) (hs : q_ast q_O32 tag len f h ns = some (.inl (f', h', ns'))) : q_K p l e R s m args below meth c S b D cA cl nL f h ns f' h' ns' := by
  subst hlen
  unfold q_ast at hs
  split at hs
  next v i o st hv =>
    split at hs
    next q j hq hj =>
      cases hb : (Nat.beq q.1 tag || (Nat.beq tag 101 && Nat.beq q.1 102)) && Nat.blt j q.2.1 with
      | false => rw [hb] at hs; cases hs
      | true =>
        rw [hb, cond_true] at hs
        simp only [Bool.and_eq_true, Bool.or_eq_true] at hb
        obtain ⟨ht, hj2⟩ := hb
        split at hs
        next w hkp =>
          cases hs
          refine ⟨by rw [List.length_set]; exact Nat.le_refl _, Nat.le_refl _, fun cells slots Q hcz _ _ g H locs ls hz hP hS hl => ?_⟩
          have hw := q_ws_at (S := S) (b := b) (cA := cA) hq
          have hjj : i.toNatClampNeg = j := (q_ix_spec hj).2
          have hin : vp_in i q.2.1 := q_vin hj (q_blt hj2)
          have hK := cx.2.2.2.2.2.1
          have go : ∀ (E : va_E), q_e S b cA (q.1, q.2.1, (j, w) :: q.2.2) = E → ∀ (H1 : Heap) (locs1 : List Loc), va_P D cl ((q_ws S b cA h).set o (S + o, E)) H1 → va_D (fun q => S ≤ q) ((q_ws S b cA h).set o (S + o, E)) → va_S (fun q => S ≤ q) s.heap H1 locs1 → W p l e R s m args below meth c H1 locs1 cells slots Q (F0 m (f.1 + 1) ls (st.map (q_ren S b))) := by
            intro E hE H1 locs1 hP1 _ hS1
            rw [← hE, ← q_ws_set] at hP1
            refine q_sz hP1 hS1 cx.2.2.2.2.2.2 (by rw [List.length_set]; exact hcz) fun hz1 => ?_
            have g1 := g H1 locs1 ls hz1 hP1 hS1 hl
            simp only [List.length_set, Nat.sub_self, Nat.add_zero] at g1
            exact g1
          rw [hv]
          rcases hdg with ⟨rfl, hd⟩ | ⟨rfl, hd⟩ | ⟨rfl, hd⟩
          · have e1 : q.1 = 100 := by
              rcases ht with h1 | ⟨h1, -⟩
              · exact q_beq h1
              · cases h1
            rw [e1] at hkp
            rcases v with x | y | n
            · have hx : w = .inl x := by simpa [q_kp, Nat.beq] using hkp.symm
              rw [q_e_int (Or.inl e1)] at hw
              exact va_iast cx.1 cx.2.1 hK hP (q_ws_D S b cA h) hS o 0 hw (by rw [e1]; rfl) hin hd (go _ (q_e_intP (Or.inl e1) j _ w x (by rw [hx]; rfl) hjj))
            · simp [q_kp, Nat.beq] at hkp
            · simp [q_kp] at hkp
          · rcases ht with h1 | ⟨-, h1⟩
            · have e1 : q.1 = 101 := q_beq h1
              rw [e1] at hkp
              rcases v with x | y | n
              · have hx : w = .inl x.toInt8.toInt32 := by simpa [q_kp, Nat.beq, q_O32, q_o1] using hkp.symm
                rw [q_e_int (Or.inr (Or.inl e1))] at hw
                exact va_bast cx.1 cx.2.1 hK hP (q_ws_D S b cA h) hS o 1 hw (by rw [e1]; rfl) hin hd (go _ (q_e_intP (Or.inr (Or.inl e1)) j _ w (vp_nar .byte x) (by rw [hx, vp_nar_byte]; rfl) hjj))
              · simp [q_kp, Nat.beq] at hkp
              · simp [q_kp] at hkp
            · have e1 : q.1 = 102 := q_beq h1
              rw [e1] at hkp
              rcases v with x | y | n
              · have hx : q_ib x = true ∧ w = .inl x := by
                  simp only [q_kp, Nat.beq, cond_false, Bool.true_and] at hkp
                  cases hx1 : q_ib x with
                  | true =>
                    rw [show q_O32.2.2.2.2.2.1 x = q_ib x from rfl, hx1, cond_true] at hkp
                    exact ⟨rfl, (Option.some.inj hkp).symm⟩
                  | false =>
                    rw [show q_O32.2.2.2.2.2.1 x = q_ib x from rfl, hx1, cond_false] at hkp
                    cases hkp
                rw [q_e_int (Or.inr (Or.inr e1))] at hw
                exact va_zast cx.1 cx.2.1 hK hP (q_ws_D S b cA h) hS o 2 hw (by rw [e1]; rfl) hin hd (go _ (q_e_intP (Or.inr (Or.inr e1)) j _ w (vp_nar .boolean x) (by rw [hx.2]; rcases q_ib_spec hx.1 with h0 | h0 <;> rw [h0] <;> decide) hjj))
              · simp [q_kp, Nat.beq] at hkp
              · simp [q_kp] at hkp
          · have e1 : q.1 = 103 := by
              rcases ht with h1 | ⟨h1, -⟩
              · exact q_beq h1
              · cases h1
            rw [e1] at hkp
            rcases v with x | y | n
            · simp [q_kp, Nat.beq] at hkp
            · have hx : w = .inr (.inl y) := by simpa [q_kp, Nat.beq] using hkp.symm
              rw [q_e_long e1] at hw
              exact va_last cx.1 cx.2.1 hK hP (q_ws_D S b cA h) hS o 3 hw (by rw [e1]; rfl) hin hd (go _ (q_e_longP e1 j _ w y (by rw [hx]; rfl) hjj))
            · simp [q_kp] at hkp
        next => cases hs
    next => cases hs
  next => cases hs
end QS2
end
section
section QS3
variable {p : Program} {l : Launch} {e : Env} {R : Room} {s : State} {m : MethodId} {args : Array Value} {below : List Frame} {meth : Method} {c : Code} {S b : Nat} {D : va_G} {cA : Nat → ClassId} {cl : List vw_C} {nL : Nat} {own : String} {cc : ByteArray} {Ts : List Cond}
variable {f f' : q_F Int32} {h h' : q_H Int32} {ns ns' : Nat}
theorem q_s_alen (cx : q_CX p s m args c S D cA cl nL own cc Ts) {len : Nat} {scr : Option (List Int32)} (hlen : len = 1) (hX : ∀ xs, scr = some xs → va_X b xs.length (fun j => xs.getD j 0) s s.heap ∧ b < s.heap.size ∧ ¬ S ≤ b) (hdg : decode cc f.1 = .ok (.arraylength, 1)) (hs : q_alen q_O32 scr len f h ns = some (.inl (f', h', ns'))) : q_K p l e R s m args below meth c S b D cA cl nL f h ns f' h' ns' := by
  subst hlen
  unfold q_alen at hs
  split at hs
  next o st hv =>
    split at hs
    next q hq =>
      cases hb : Nat.blt 99 q.1 && Nat.blt q.1 104 with
      | false => rw [hb] at hs; cases hs
      | true =>
        rw [hb, cond_true] at hs
        simp only [Bool.and_eq_true] at hb
        have h1 := q_blt hb.1
        have h2 := q_blt hb.2
        refine q_s_nx hs fun cells slots Q g H locs ls hz hP hS hl => ?_
        have hw := q_ws_at (S := S) (b := b) (cA := cA) hq
        have hK := cx.2.2.2.2.2.1
        rw [hv]
        have g1 := g H locs ls hz hP hS hl
        rcases (show q.1 = 100 ∨ q.1 = 101 ∨ q.1 = 102 ∨ q.1 = 103 by omega) with e1 | e1 | e1 | e1
        · rw [q_e_int (Or.inl e1)] at hw
          exact va_alen cx.1 cx.2.1 hK hP o 0 hw (by rw [e1]; rfl) rfl hdg g1
        · rw [q_e_int (Or.inr (Or.inl e1))] at hw
          exact va_alen cx.1 cx.2.1 hK hP o 1 hw (by rw [e1]; rfl) rfl hdg g1
        · rw [q_e_int (Or.inr (Or.inr e1))] at hw
          exact va_alen cx.1 cx.2.1 hK hP o 2 hw (by rw [e1]; rfl) rfl hdg g1
        · rw [q_e_long e1] at hw
          exact va_alen cx.1 cx.2.1 hK hP o 3 hw (by rw [e1]; rfl) rfl hdg g1
    next => cases hs
  next st hv =>
    split at hs
    next xs =>
      obtain ⟨hX1, hX2, hX3⟩ := hX xs rfl
      refine q_s_nx hs fun cells slots Q g H locs ls hz hP hS hl => ?_
      rw [hv]
      exact va_slen (A := fun q => S ≤ q) cx.1 cx.2.1 hX1 hX2 hX3 hS hdg (g H locs ls hz hP hS hl)
    next => cases hs
  next => cases hs
theorem q_s_dup (cx : q_CX p s m args c S D cA cl nL own cc Ts) {len : Nat} (hlen : len = 1) (hdg : decode cc f.1 = .ok (.dup, 1)) (hs : q_dup len f h ns = some (.inl (f', h', ns'))) : q_K p l e R s m args below meth c S b D cA cl nL f h ns f' h' ns' := by
  subst hlen
  unfold q_dup at hs
  split at hs
  next v st hv =>
    cases hb : Nat.beq (q_cat v) 1 with
    | false => rw [hb] at hs; cases hs
    | true =>
      rw [hb, cond_true] at hs
      exact q_s_nx hs (q_s_row hv fun H locs ls cells slots Q k => lv_dup cx.1 cx.2.1 hdg (by rw [q_ren_cat]; exact q_beq hb) k)
  next => cases hs
theorem q_s_pop (cx : q_CX p s m args c S D cA cl nL own cc Ts) {len : Nat} (hlen : len = 1) (hdg : decode cc f.1 = .ok (.pop, 1)) (hs : q_pop len f h ns = some (.inl (f', h', ns'))) : q_K p l e R s m args below meth c S b D cA cl nL f h ns f' h' ns' := by
  subst hlen
  unfold q_pop at hs
  split at hs
  next v st hv =>
    cases hb : Nat.beq (q_cat v) 1 with
    | false => rw [hb] at hs; cases hs
    | true =>
      rw [hb, cond_true] at hs
      exact q_s_nx hs (q_s_row hv fun H locs ls cells slots Q k => lv_pop cx.1 cx.2.1 hdg (by rw [q_ren_cat]; exact q_beq hb) k)
  next => cases hs
theorem q_s_dup2 (cx : q_CX p s m args c S D cA cl nL own cc Ts) {len : Nat} (hlen : len = 1) (hdg : decode cc f.1 = .ok (.dup2, 1)) (hs : q_dup2 len f h ns = some (.inl (f', h', ns'))) : q_K p l e R s m args below meth c S b D cA cl nL f h ns f' h' ns' := by
  subst hlen
  unfold q_dup2 at hs
  split at hs
  next v w st hv =>
    cases hb : Nat.beq (q_cat v) 1 && Nat.beq (q_cat w) 1 with
    | false => rw [hb] at hs; cases hs
    | true =>
      rw [hb, cond_true] at hs
      simp only [Bool.and_eq_true] at hb
      exact q_s_nx hs (q_s_row hv fun H locs ls cells slots Q k => lv_dup2_11 cx.1 cx.2.1 hdg (by rw [q_ren_cat]; exact q_beq hb.1) (by rw [q_ren_cat]; exact q_beq hb.2) k)
  next => cases hs
theorem q_s_lshl (cx : q_CX p s m args c S D cA cl nL own cc Ts) {len : Nat} (hlen : len = 1) (hdg : decode cc f.1 = .ok (.lshl, 1)) (hs : q_lshl q_O32 len f h ns = some (.inl (f', h', ns'))) : q_K p l e R s m args below meth c S b D cA cl nL f h ns f' h' ns' := by
  subst hlen
  unfold q_lshl at hs
  split at hs
  next y x st hv =>
    split at hs
    next z hz =>
      have hz' : z = y.toInt64 := (Option.some.inj hz).symm
      subst hz'
      exact q_s_nx hs (q_s_row hv fun H locs ls cells slots Q k => lv_lshl cx.1 cx.2.1 hdg rfl k)
    next => cases hs
  next => cases hs
theorem q_s_i2l (cx : q_CX p s m args c S D cA cl nL own cc Ts) {len : Nat} (hlen : len = 1) (hdg : decode cc f.1 = .ok (.i2l, 1)) (hs : q_i2l q_O32 len f h ns = some (.inl (f', h', ns'))) : q_K p l e R s m args below meth c S b D cA cl nL f h ns f' h' ns' := by
  subst hlen
  unfold q_i2l at hs
  split at hs
  next y st hv =>
    split at hs
    next z hz =>
      have hz' : z = y.toInt64 := (Option.some.inj hz).symm
      subst hz'
      exact q_s_nx hs (q_s_row hv fun H locs ls cells slots Q k => lv_i2l cx.1 cx.2.1 hdg rfl k)
    next => cases hs
  next => cases hs
theorem q_s_lcmp (cx : q_CX p s m args c S D cA cl nL own cc Ts) {len : Nat} (hlen : len = 1) (hdg : decode cc f.1 = .ok (.lcmp, 1)) (hs : q_lcmp q_O32 len f h ns = some (.inl (f', h', ns'))) : q_K p l e R s m args below meth c S b D cA cl nL f h ns f' h' ns' := by
  subst hlen
  unfold q_lcmp at hs
  split at hs
  next y x st hv => exact q_s_nx hs (q_s_row hv fun H locs ls cells slots Q k => W.lcmp cx.1 cx.2.1 hdg k)
  next => cases hs
theorem q_s_tsw (cx : q_CX p s m args c S D cA cl nL own cc Ts) {dflt lo hi : Int} {offs : Array Int} {r : List Nat} {len : Nat} (hlo : (Int32.ofInt lo).toInt = lo) (hhi : (Int32.ofInt hi).toInt = hi) (hdg : decode cc f.1 = .ok (.tableswitch dflt lo hi offs, len)) (ht0 : ∀ tg : Nat, r[0]? = some tg → (f.1 : Int) + dflt = (tg : Int)) (ht : ∀ (j tg : Nat), r[j + 1]? = some tg → ∃ off, offs[j]? = some off ∧ (f.1 : Int) + off = (tg : Int)) (hs : q_tsw q_O32 lo hi r f h ns = some (.inl (f', h', ns'))) : q_K p l e R s m args below meth c S b D cA cl nL f h ns f' h' ns' := by
  unfold q_tsw at hs
  split at hs
  next x st hv =>
    split at hs
    next tg htg =>
      cases hs
      have e1 : q_O32.2.2.2.1 2 x (q_O32.1 (Int32.ofInt lo)) = some (decide (x < Int32.ofInt lo)) := rfl
      have e2 : q_O32.2.2.2.1 4 x (q_O32.1 (Int32.ofInt hi)) = some (decide (Int32.ofInt hi < x)) := rfl
      rw [e1, e2] at htg
      refine q_K.same (q_s_row hv fun H locs ls cells slots Q k => ?_)
      by_cases h1 : x < Int32.ofInt lo
      · rw [decide_eq_true h1] at htg
        exact lv_tableOut cx.1 cx.2.1 hdg (Or.inl (by rw [← hlo]; exact Int32.lt_iff_toInt_lt.mp h1)) (ht0 tg htg) k
      · rw [decide_eq_false h1] at htg
        have h1' : ¬ x.toInt < lo := fun q => h1 (Int32.lt_iff_toInt_lt.mpr (by rw [hlo]; exact q))
        by_cases h2 : Int32.ofInt hi < x
        · rw [decide_eq_true h2] at htg
          exact lv_tableOut cx.1 cx.2.1 hdg (Or.inr (by rw [← hhi]; exact Int32.lt_iff_toInt_lt.mp h2)) (ht0 tg htg) k
        · rw [decide_eq_false h2] at htg
          have h2' : ¬ hi < x.toInt := fun q => h2 (Int32.lt_iff_toInt_lt.mpr (by rw [hhi]; exact q))
          obtain ⟨off, ho, hto⟩ := ht _ tg htg
          exact lv_tableIn cx.1 cx.2.1 hdg h1' h2' ho hto k
    next => cases hs
  next => cases hs
theorem q_dfs_at (O : q_O Int32) : ∀ (ks : List Nat) (i j : Nat), q_at (q_dfs O i ks) (i + j) = (ks[j]?).map (q_df O)
  | [], _, _ => rfl
  | k :: ks, i, j => by
    show q_at ((i, q_df O k) :: q_dfs O (i + 1) ks) (i + j) = _
    rw [q_at_cons]
    rcases j with _ | j
    · simp
    · rw [if_neg (by omega), show i + (j + 1) = (i + 1) + j by omega, q_dfs_at O ks (i + 1) j]
      simp
theorem q_df_ok {ty : FieldType} (hk : q_kd ty < 4) : defaultValue ty = q_ren S b (q_df q_O32 (q_kd ty)) := by
  cases ty <;> simp [q_kd] at hk <;> rfl
theorem q_s_new (cx : q_CX p s m args c S D cA cl nL own cc Ts) {ci idx len : Nat} {ks : List Nat} {C : String} {T : u_T} {N : Nat} {ty0 : Nat → FieldType} (hlen : len = 3) (hci : ci < 100) (hc : cl[ci]? = some (C, T, N)) (hcw : ∀ w ∈ u_ws C T N, w ∈ Ts) (hty : ∀ k, k < N → parseFieldDescriptor (T k).2.2.1 = some (ty0 k)) (hks : ks.length = N) (hkd : ∀ j, j < N → ks[j]? = some (q_kd (ty0 j)) ∧ q_kd (ty0 j) < 4) (hlk : Cond.classLink own idx C ∈ Ts ∧ Cond.instantiable C N ∈ Ts ∧ Cond.initialized C ∈ Ts) (hdg : decode cc f.1 = .ok (.new idx, 3)) (hs : q_new q_O32 (ci :: ks) len f h ns = some (.inl (f', h', ns'))) : q_K p l e R s m args below meth c S b D cA cl nL f h ns f' h' ns' := by
  subst hlen
  subst hks
  have hs : q_nx 3 f (.inr (.inr (h.length + 2)) :: f.2.2) (h ++ [(ci, ks.length, q_dfs q_O32 0 ks)]) (ns + ks.length) = some (.inl (f', h', ns')) := hs
  cases hs
  refine ⟨by simp, by omega, fun cells slots Q hcz hr1 hr2 g H locs ls hz hP hS hl => ?_⟩
  have hl1 : (h ++ [(ci, ks.length, q_dfs q_O32 0 ks)]).length - h.length = 1 := by simp
  have hl2 : ns + ks.length - ns = ks.length := by omega
  rw [hl1] at hr1 g
  rw [hl2] at hr2 g
  obtain ⟨hx, hb, -, hown, hts, hK, hS0⟩ := cx
  have hKn := hK.1 ci _ hc
  refine W.newcK hx hb hown (hts _ hlk.1) (hts _ hlk.2.1) (hts _ hlk.2.2) rfl hdg hr1 hr2 hKn.2.1 hz fun H1 kC hkC e1 z1 o1 => ?_
  have hk : ∀ (k : Nat) (x : Nat × va_E), (q_ws S b cA h)[k]? = some x → H1[x.1]? = H[x.1]? := fun k x hx => o1 x.1 (by rw [← hz]; exact (hP k x hx).lt)
  have hP1 : va_P D cl (q_ws S b cA (h ++ [(ci, ks.length, q_dfs q_O32 0 ks)])) H1 := by
    rw [q_ws_app]
    refine (hP.kept hk).app (fun k x hx => ?_)
    have hz : k < 1 := (List.getElem?_eq_some_iff.mp hx).1
    rw [show k = 0 by omega] at hx
    cases hx
    show va_at D cl (S + h.length, q_e S b cA (ci, ks.length, q_dfs q_O32 0 ks)) H1
    rw [show q_e S b cA (ci, ks.length, q_dfs q_O32 0 ks) = .inr (ci, q_fs S b (q_dfs q_O32 0 ks) ks.length) by unfold q_e; rw [if_pos hci]]
    refine ⟨_, hc, (u_born ty0 hts hcw hKn hkC e1 hty).to fun j hj => ?_⟩
    obtain ⟨h1, h2⟩ := hkd j hj
    have h3 : q_at (q_dfs q_O32 0 ks) j = some (q_df q_O32 (q_kd (ty0 j))) := by
      have := q_dfs_at q_O32 ks 0 j
      rw [Nat.zero_add] at this
      rw [this, h1]
      rfl
    have h4 := q_fs_at (S := S) (b := b) hj h3
    show defaultValue (ty0 j) = (q_fs S b (q_dfs q_O32 0 ks) ks.length).getD j .null
    rw [List.getD_eq_getElem?_getD, h4]
    exact q_df_ok h2
  have hS1 : va_S (fun q => S ≤ q) s.heap H1 locs := ⟨Nat.le_trans hS.1 (by omega), fun x h1 h2 => (o1 x (by rw [← hz]; exact Nat.lt_of_lt_of_le h1 hS.1)).trans (hS.2.1 x h1 h2), hS.2.2⟩
  exact g H1 locs ls (by rw [z1]; simp; omega) hP1 hS1 hl
def q_tg : ArrayType → Nat
  | .boolean => 102
  | .byte => 101
  | .int => 100
  | .long => 103
  | _ => 0
theorem q_s_newa (cx : q_CX p s m args c S D cA cl nL own cc Ts) {at0 : ArrayType} {tag len : Nat} (hlen : len = 2) (htag : q_tg at0 = tag) (h0 : tag ≠ 0) (hlk : Cond.arrayClass (newarray.typeOf at0) ∈ Ts) (hdg : decode cc f.1 = .ok (.newarray at0, 2)) (hs : q_newa q_O32 [tag] len f h ns = some (.inl (f', h', ns'))) : q_K p l e R s m args below meth c S b D cA cl nL f h ns f' h' ns' := by
  subst hlen
  unfold q_newa at hs
  split at hs
  next tag' n st he hv =>
    cases he
    split at hs
    next N hN =>
      cases hb : Nat.blt N 65536 with
      | false => rw [hb] at hs; cases hs
      | true =>
        rw [hb, cond_true] at hs
        cases hs
        have hN2 := q_blt hb
        obtain ⟨hn0, hnN⟩ := q_ix_spec hN
        refine ⟨by simp, by omega, fun cells slots Q hcz hr1 hr2 g H locs ls hz hP hS hl => ?_⟩
        have hl1 : (h ++ [(tag, N, ([] : q_U Int32))]).length - h.length = 1 := by simp
        have hl2 : ns + N - ns = N := by omega
        rw [hl1] at hr1 g
        rw [hl2] at hr2 g
        obtain ⟨hx, hcb, -, hown, hts, hK, hS0⟩ := cx
        rw [hv]
        refine va_newaK hx hcb (hts _ hlk) rfl hdg rfl hn0 hnN ?_ hr1 hr2 hz fun H1 cA' e1 z1 o1 hAr hNm => ?_
        · cases at0 <;> simp [q_tg] at htag <;> first | omega | (simp [newarray.typeOf, componentBytes]; omega)
        have hk : ∀ (k : Nat) (x : Nat × va_E), (q_ws S b cA h)[k]? = some x → H1[x.1]? = H[x.1]? := fun k x hx => o1 x.1 (by rw [← hz]; exact (hP k x hx).lt)
        have hP1 : va_P D cl (q_ws S b cA (h ++ [(tag, N, ([] : q_U Int32))])) H1 := by
          rw [q_ws_app]
          refine (hP.kept hk).app (fun k x hx => ?_)
          have hz : k < 1 := (List.getElem?_eq_some_iff.mp hx).1
          rw [show k = 0 by omega] at hx
          cases hx
          show va_at D cl (S + h.length, q_e S b cA (tag, N, [])) H1
          cases at0 <;> simp [q_tg] at htag <;> first | omega | skip
          · have e2 : cA' = cA 102 := Option.some.inj (hNm.symm.trans (hK.2 2 _ rfl).2)
            subst htag; subst e2
            rw [q_e_int (Or.inr (Or.inr rfl))]
            exact e1
          · have e2 : cA' = cA 101 := Option.some.inj (hNm.symm.trans (hK.2 1 _ rfl).2)
            subst htag; subst e2
            rw [q_e_int (Or.inr (Or.inl rfl))]
            exact e1
          · have e2 : cA' = cA 100 := Option.some.inj (hNm.symm.trans (hK.2 0 _ rfl).2)
            subst htag; subst e2
            rw [q_e_int (Or.inl rfl)]
            exact e1
          · have e2 : cA' = cA 103 := Option.some.inj (hNm.symm.trans (hK.2 3 _ rfl).2)
            subst htag; subst e2
            rw [q_e_long rfl]
            exact e1
        have hS1 : va_S (fun q => S ≤ q) s.heap H1 locs := ⟨Nat.le_trans hS.1 (by omega), fun x h1 h2 => (o1 x (by rw [← hz]; exact Nat.lt_of_lt_of_le h1 hS.1)).trans (hS.2.1 x h1 h2), hS.2.2⟩
        exact g H1 locs ls (by rw [z1]; simp; omega) hP1 hS1 hl
    next => cases hs
  next => cases hs
theorem q_cpy_at (O : q_O Int32) (q : q_C Int32) (t N sp dp : Nat) (u : q_U Int32) (k : Nat) : ∀ n, q_el O (t, N, q_cpy O q sp dp n u) k = if dp ≤ k ∧ k < dp + n then q_el O q (sp + (k - dp)) else q_el O (t, N, u) k
  | 0 => by
    rw [if_neg (by omega)]
    rfl
  | n + 1 => by
    show q_el O (t, N, (dp + n, q_el O q (sp + n)) :: q_cpy O q sp dp n u) k = _
    rw [q_el_cons, q_cpy_at O q t N sp dp u k n]
    by_cases h1 : dp + n = k
    · rw [if_pos h1, if_pos (by omega), show k - dp = n by omega]
    · rw [if_neg h1]
      by_cases h2 : dp ≤ k ∧ k < dp + n
      · rw [if_pos h2, if_pos (by omega)]
      · rw [if_neg h2, if_neg (by omega)]
theorem q_s_acpy (cx : q_CX p s m args c S D cA cl nL own cc Ts) {idx len : Nat} (hlen : len = 3) (hR : 1 ≤ R.frames ∧ 60 ≤ R.locals) (hlk : Cond.methodLink own idx arraycopyName ∈ Ts ∧ Cond.native arraycopyName ∈ Ts ∧ Cond.static arraycopyName ∈ Ts ∧ Cond.initialized "java/lang/System" ∈ Ts) (hdg : decode cc f.1 = .ok (.invokestatic idx, 3)) (hs : q_acpy q_O32 len f h ns = some (.inl (f', h', ns'))) : q_K p l e R s m args below meth c S b D cA cl nL f h ns f' h' ns' := by
  subst hlen
  unfold q_acpy at hs
  split at hs
  next n dp d sp o st hv =>
    split at hs
    next qs qd n' dp' sp' hqs hqd hn hdp hsp =>
      cases hb : Nat.beq qs.1 100 && (Nat.beq qd.1 100 && (Nat.ble (sp' + n') qs.2.1 && (Nat.ble (dp' + n') qd.2.1 && Nat.ble (q_cats st) 8))) with
      | false => rw [hb] at hs; cases hs
      | true =>
        rw [hb, cond_true] at hs
        simp only [Bool.and_eq_true] at hb
        obtain ⟨b1, b2, b3, b4, b5⟩ := hb
        cases hs
        obtain ⟨n0, n1⟩ := q_ix_spec hn
        obtain ⟨d0, d1⟩ := q_ix_spec hdp
        obtain ⟨s0, s1⟩ := q_ix_spec hsp
        refine ⟨by rw [List.length_set]; exact Nat.le_refl _, Nat.le_refl _, fun cells slots Q hcz _ _ g H locs ls hz hP hS hl => ?_⟩
        have e1 : qs.1 = 100 := q_beq b1
        have e2 : qd.1 = 100 := q_beq b2
        have hw1 := q_ws_at (S := S) (b := b) (cA := cA) hqs
        have hw2 := q_ws_at (S := S) (b := b) (cA := cA) hqd
        rw [q_e_int (Or.inl e1)] at hw1
        rw [q_e_int (Or.inl e2)] at hw2
        have e3 : q_e S b cA (qd.1, qd.2.1, q_cpy q_O32 qs sp' dp' n' qd.2.2) = .inl (cA qd.1, qd.2.1, .inl (va_cpy (fun j => q_in (q_el q_O32 qs j)) (fun j => q_in (q_el q_O32 qd j)) sp' dp' n')) := by
          obtain ⟨t, N, u⟩ := qd
          have hfun : (fun k => q_in (q_el q_O32 (t, N, q_cpy q_O32 qs sp' dp' n' u) k)) = va_cpy (fun j => q_in (q_el q_O32 qs j)) (fun j => q_in (q_el q_O32 (t, N, u) j)) sp' dp' n' := by
            funext k
            rw [q_cpy_at]
            unfold va_cpy
            by_cases hk : dp' ≤ k ∧ k < dp' + n'
            · rw [if_pos hk, if_pos hk]
            · rw [if_neg hk, if_neg hk]
          rw [q_e_int (q := (t, N, q_cpy q_O32 qs sp' dp' n' u)) (Or.inl e2)]
          simp only [hfun]
        rw [hv]
        refine va_copyi (ty := .int) cx.1 cx.2.1 (cx.2.2.1.trans hl.1.symm) cx.2.2.2.1 (cx.2.2.2.2.1 _ hlk.1) (cx.2.2.2.2.1 _ hlk.2.1) (cx.2.2.2.2.1 _ hlk.2.2.1) (cx.2.2.2.2.1 _ hlk.2.2.2) cx.2.2.2.2.2.1 hP (q_ws_D S b cA h) hS o d 0 0 hw1 hw2 (by rw [e1]; rfl) (by rw [e2]; rfl) rfl s0 d0 n0 (by rw [s1, n1]; exact Nat.le_of_ble_eq_true b3) (by rw [d1, n1]; exact Nat.le_of_ble_eq_true b4) (fun _ _ => rfl) hR.1 ?_ hdg ?_
        · rw [q_cats_map]
          have h1 := Nat.le_of_ble_eq_true b5
          have h2 : nativeFrameWords "java/lang/System" "arraycopy" 5 = 7 := by decide
          have h3 := hR.2
          omega
        · intro H1 locs1 hP1 _ hS1
          rw [s1, d1, n1, ← e3, ← q_ws_set] at hP1
          refine q_sz hP1 hS1 cx.2.2.2.2.2.2 (by rw [List.length_set]; exact hcz) fun hz1 => ?_
          have g1 := g H1 locs1 ls hz1 hP1 hS1 hl
          simp only [List.length_set, Nat.sub_self, Nat.add_zero] at g1
          exact g1
    next => cases hs
  next => cases hs
theorem q_s_obj (cx : q_CX p s m args c S D cA cl nL own cc Ts) {idx len : Nat} (hlen : len = 3) (hR : 1 ≤ R.frames ∧ 60 ≤ R.locals) (hlk : Cond.methodLink own idx objectInit ∈ Ts ∧ Cond.instanceMethod objectInit ∈ Ts ∧ Cond.code objectInit ⟨#[0xb1]⟩ 1 none ∈ Ts) (hdg : decode cc f.1 = .ok (.invokespecial idx, 3)) (hs : q_obj len f h ns = some (.inl (f', h', ns'))) : q_K p l e R s m args below meth c S b D cA cl nL f h ns f' h' ns' := by
  subst hlen
  unfold q_obj at hs
  split at hs
  next o st hv =>
    cases hb : Nat.ble (q_cats st) 8 with
    | false => rw [hb] at hs; cases hs
    | true =>
      rw [hb, cond_true] at hs
      refine q_s_nx hs fun cells slots Q g H locs ls hz hP hS hl => ?_
      rw [hv]
      exact W.objInit cx.1 cx.2.1 cx.2.2.2.1 (cx.2.2.2.2.1 _ hlk.1) (cx.2.2.2.2.1 _ hlk.2.1) (cx.2.2.2.2.1 _ hlk.2.2) rfl (hl.1.trans cx.2.2.1.symm) rfl hdg hR.1 (Nat.le_trans (Nat.add_le_add_right (lv_room (by rw [q_cats_map]; exact Nat.le_of_ble_eq_true hb)) 12) (by have h2 := hR.2; omega)) (g H locs ls hz hP hS hl)
  next => cases hs
end QS3
end
section
/-- a method: its name, code, locals, answer, how many values it takes -/
abbrev q_M : Type := MethodName × ByteArray × Nat × Option FieldType × Nat
def q_Pc (S b : Nat) (D : va_G) (cA : Nat → ClassId) (cl : List vw_C) (a : List (q_V Int32)) (h : q_H Int32) : Array Value → State → Prop := va_Pc (a.map (q_ren S b)) (fun U => U.heap.size = S + h.length ∧ va_P D cl (q_ws S b cA h) U.heap ∧ va_K D cl (q_tys cA) U)
def q_Qc (S b : Nat) (D : va_G) (cA : Nat → ClassId) (cl : List vw_C) (v : Option (q_V Int32)) (h' : q_H Int32) : Array Value → State → Outcome → State → Prop := fun _ st oc t => oc = .returned (v.map (q_ren S b)) ∧ t.heap.size = S + h'.length ∧ va_P D cl (q_ws S b cA h') t.heap ∧ va_F (fun q => S ≤ q) st t
def q_rm (d mc ms : Nat) : Room := { frames := d + 1, cells := mc, slots := ms, locals := 60 * (d + 1) }
/-- calls that are right: a method of the list, at any place of the heap, d calls deep -/
def q_CO (l : Launch) (cl : List vw_C) (Ts : List Cond) (ms : List q_M) (d : Nat) (cal : Nat → List (q_V Int32) → q_H Int32 → Nat → Option (q_R Int32)) : Prop :=
  ∀ (k : Nat) (M : q_M) (a : List (q_V Int32)) (h : q_H Int32) (ns : Nat) (v : Option (q_V Int32)) (h' : q_H Int32) (ns' : Nat), ms[k]? = some M → q_cats a ≤ M.2.2.1 → cal k a h ns = some (v, h', ns') → 1 ≤ d ∧ h.length ≤ h'.length ∧ ns ≤ ns' ∧ ∀ (S b : Nat) (D : va_G) (cA : Nat → ClassId),
    Met l M.1 (.code M.1 M.2.1 M.2.2.1 M.2.2.2.1 :: Ts) (q_rm (d - 1) (h'.length - h.length) (ns' - ns)) (q_Pc S b D cA cl a h) (q_Qc S b D cA cl v h') (h'.length - h.length) (ns' - ns) (fun q => S ≤ q)
theorem q_blind (S b : Nat) (D : va_G) (cA : Nat → ClassId) (cl : List vw_C) (a : List (q_V Int32)) (h : q_H Int32) : FrameBlind (q_Pc S b D cA cl a h) := by
  intro v U g mk q
  obtain ⟨q1, q2, q3, q4⟩ := q
  exact ⟨q1, q2, q3, va_K.moved (u := U) (U := U.calling g mk v) (Vm.Alike.refl U.vm) q4⟩
theorem q_take_spec {I : Type} : ∀ (n : Nat) (st acc a r : List (q_V I)), q_take n st acc = some (a, r) → ∃ xs, xs.length = n ∧ st = xs ++ r ∧ a = xs.reverse ++ acc
  | 0, st, acc, a, r, h => by cases h; exact ⟨[], rfl, rfl, rfl⟩
  | n + 1, [], acc, a, r, h => by cases h
  | n + 1, v :: st, acc, a, r, h => by
    obtain ⟨xs, h1, h2, h3⟩ := q_take_spec n st (v :: acc) a r h
    exact ⟨v :: xs, by rw [List.length_cons, h1], by rw [h2]; rfl, by rw [h3]; simp⟩
theorem q_may1 {I : Type} {x : List Nat} {a : List (q_V I)} {h : q_H I} (hm : q_may 1 x a h = true) : ∃ o r q ci, a = .inr (.inr (o + 2)) :: r ∧ h[o]? = some q ∧ x = [ci] ∧ q.1 = ci := by
  rcases a with _ | ⟨v | v | n, r⟩
  · cases hm
  · cases hm
  · cases hm
  · rcases n with _ | _ | o
    · cases hm
    · cases hm
    · have hm2 : q_mayV x (h[o]?) = true := hm
      unfold q_mayV at hm2
      split at hm2
      next q ci hq => exact ⟨o, r, q, ci, rfl, hq, rfl, q_beq hm2⟩
      next => cases hm2
theorem q_may2 {I : Type} {x : List Nat} {a : List (q_V I)} {h : q_H I} (hm : q_may 2 x a h = true) : ∃ o r, a = .inr (.inr (o + 2)) :: r := by
  rcases a with _ | ⟨v | v | n, r⟩
  · cases hm
  · cases hm
  · cases hm
  · rcases n with _ | _ | o
    · cases hm
    · cases hm
    · exact ⟨o, r, rfl⟩
section QS4
variable {p : Program} {l : Launch} {e : Env} {R : Room} {s : State} {m : MethodId} {args : Array Value} {below : List Frame} {meth : Method} {c : Code} {S b : Nat} {D : va_G} {cA : Nat → ClassId} {cl : List vw_C} {nL : Nat} {own : String} {cc : ByteArray} {Ts : List Cond}
variable {f f' : q_F Int32} {h h' : q_H Int32} {ns ns' : Nat}
theorem q_goes {H : Heap} {locs : List Loc} {cells slots mc ms : Nat} {Q : State → Prop} {pc : Nat} {ls : Array Slot} {st0 rest : List Value} {v : Option (q_V Int32)} {a : Array Value} (hr : va_Run p l e R s m args below meth c H locs cells slots mc ms (F0 m pc ls st0) rest (q_Qc S b D cA cl v h' a) (fun q => S ≤ q)) (hS : va_S (fun q => S ≤ q) s.heap H locs)
    (kk : ∀ (H1 : Heap) (locs1 : List Loc), H1.size = S + h'.length → va_P D cl (q_ws S b cA h') H1 → va_S (fun q => S ≤ q) s.heap H1 locs1 → W p l e R s m args below meth c H1 locs1 (cells + mc) (slots + ms) Q (F0 m (pc + 3) ls ((v.map (q_ren S b)).toList ++ rest))) : W p l e R s m args below meth c H locs cells slots Q (F0 m pc ls st0) := by
  intro T hT X
  obtain ⟨v', st₀, t, T', L, h0, X', hL, e1, e2, ⟨hv, hz, hP1, hz2, hk⟩, st⟩ := hr T hT X
  have hv' : v' = v.map (q_ren S b) := by cases hv; rfl
  subst hv'
  rw [h0] at hz2 hk
  obtain ⟨t2, a1, b1⟩ := kk T'.heap (locs ++ L) (by rw [e1]; exact hz) (by rw [e1]; exact hP1)
    ⟨Nat.le_trans hS.1 (by rw [e1]; exact hz2), fun q h1 h2 => by rw [e1, hk q (Nat.lt_of_lt_of_le h1 hS.1) h2]; exact hS.2.1 q h1 h2, fun q hq => by
      rcases List.mem_append.mp hq with h | h
      · exact hS.2.2 q h
      · exact hL q h⟩ T' rfl X'
  exact ⟨t2, st t2 a1, b1⟩
/-- what a called method is, by the words -/
abbrev q_MW (Ts : List Cond) (M : q_M) (n : Nat) : Prop := Cond.code M.1 M.2.1 M.2.2.1 M.2.2.2.1 ∈ Ts ∧ Cond.initialized M.1.cls ∈ Ts ∧ (M.1.cls ≠ "java/lang/invoke/MethodHandle" ∧ M.1.cls ≠ "java/lang/invoke/VarHandle" ∧ (parseMethodDescriptor M.1.desc).map (fun d => d.parameters.length) = some n) ∧ M.2.2.1 ≤ 40
/-- how a call is linked: 0 static, 1 by the receiver, 2 a constructor, 3 static of a nest mate -/
def q_MK (cl : List vw_C) (Ts : List Cond) (own : String) (idx : Nat) (M : q_M) (x : List Nat) : Nat → Prop
  | 0 => q_MW Ts M M.2.2.2.2 ∧ Cond.methodLink own idx M.1 ∈ Ts ∧ Cond.static M.1 ∈ Ts
  | 1 => ∃ n ci T N, M.2.2.2.2 = n + 1 ∧ q_MW Ts M n ∧ Cond.methodLink own idx M.1 ∈ Ts ∧ Cond.instanceMethod M.1 ∈ Ts ∧ Cond.selects M.1.cls M.1 M.1 ∈ Ts ∧ x = [ci] ∧ ci < 100 ∧ cl[ci]? = some (M.1.cls, T, N)
  | 2 => ∃ n, M.2.2.2.2 = n + 1 ∧ q_MW Ts M n ∧ Cond.methodLink own idx M.1 ∈ Ts ∧ Cond.instanceMethod M.1 ∈ Ts ∧ M.1.name = "<init>" ∧ M.2.2.2.1 = none
  | 3 => ∃ host, q_MW Ts M M.2.2.2.2 ∧ Cond.methodLinkNest own idx M.1 host ∈ Ts ∧ Cond.static M.1 ∈ Ts
  | _ => False
theorem q_s_inv (cx : q_CX p s m args c S D cA cl nL own cc Ts) {ms : List q_M} {d : Nat} {cal : Nat → List (q_V Int32) → q_H Int32 → Nat → Option (q_R Int32)} (hco : q_CO l cl Ts ms d cal) (hgood : GoodIn Ts Ts) (hR : d + 1 ≤ R.frames ∧ 60 * (d + 1) ≤ R.locals) {idx len sv kd k na ml : Nat} {x : List Nat} {M : q_M} (hlen : len = 3) (hM : ms[k]? = some M) (hna : na = M.2.2.2.2) (hml : ml = M.2.2.1) (hmk : q_MK cl Ts own idx M x kd)
    (hdg : (sv = 0 ∧ (kd = 0 ∨ kd = 3) ∧ decode cc f.1 = .ok (.invokestatic idx, 3)) ∨ (sv = 1 ∧ kd = 1 ∧ decode cc f.1 = .ok (.invokevirtual idx, 3)) ∨ (sv = 2 ∧ kd = 2 ∧ decode cc f.1 = .ok (.invokespecial idx, 3))) (hs : q_inv cal sv (k :: na :: ml :: x) len f h ns = some (.inl (f', h', ns'))) : q_K p l e R s m args below meth c S b D cA cl nL f h ns f' h' ns' := by
  subst hlen
  subst hna
  subst hml
  unfold q_inv at hs
  simp only at hs
  split at hs
  next a st htk =>
    cases hb : Nat.ble (q_cats st) 8 && (Nat.ble (q_cats a) M.2.2.1 && q_may sv x a h) with
    | false => rw [hb] at hs; cases hs
    | true =>
      rw [hb, cond_true] at hs
      simp only [Bool.and_eq_true] at hb
      obtain ⟨b1, b2, b3⟩ := hb
      split at hs
      next v h1 ns1 hcal =>
        cases hs
        obtain ⟨hd, hl1, hl2, hmet⟩ := hco k M a h ns v h' ns' hM (Nat.le_of_ble_eq_true b2) hcal
        obtain ⟨xs, x1, x2, x3⟩ := q_take_spec _ _ _ _ _ htk
        rw [List.append_nil] at x3
        have hst : f.2.2 = a.reverse ++ st := by rw [x2, x3, List.reverse_reverse]
        have hal : a.length = M.2.2.2.2 := by rw [x3, List.length_reverse, x1]
        refine ⟨hl1, hl2, fun cells slots Q hcz hr1 hr2 g H locs ls hz hP hS hl => ?_⟩
        have hroom : 2 * (F0 m f.1 ls (f.2.2.map (q_ren S b))).monitorRoom + ((st.map (q_ren S b)).map fun v => v.category).sum ≤ 8 := lv_room (by rw [q_cats_map]; exact Nat.le_of_ble_eq_true b1)
        have hts := cx.2.2.2.2.1
        have hfix : CallFix p m c cc nL s args Ts own := ⟨cx.1, cx.2.1, cx.2.2.1, cx.2.2.2.1, hts⟩
        have hK := cx.2.2.2.2.2.1
        have hmet := hmet S b D cA
        have hpre : ∀ U : State, U.heap = H → s.WarmedH U.vm → q_Pc S b D cA cl a h (a.map (q_ren S b)).toArray U := fun U hU hW => ⟨rfl, by rw [hU]; exact hz, by rw [hU]; exact hP, va_K.moved hW.alike hK⟩
        have hGw : ∀ {w : Cond}, w ∈ Ts → GoodIn Ts (w :: Ts) := fun hw w' hw' => (List.mem_cons.mp hw').elim (fun e => by rw [e]; exact hgood _ hw) (fun h2 => hgood _ h2)
        have hRR : M.2.2.1 ≤ 40 → (q_rm (d - 1) (h'.length - h.length) (ns' - ns)).frames + 1 ≤ R.frames ∧ 8 + (M.2.2.1 + 11) + (q_rm (d - 1) (h'.length - h.length) (ns' - ns)).locals ≤ R.locals := by
          intro h40
          have e1 : (q_rm (d - 1) (h'.length - h.length) (ns' - ns)).frames = d := by show d - 1 + 1 = d; omega
          have e2 : (q_rm (d - 1) (h'.length - h.length) (ns' - ns)).locals = 60 * d := by show 60 * (d - 1 + 1) = 60 * d; omega
          rw [e1, e2]
          obtain ⟨g1, g2⟩ := hR
          refine ⟨g1, ?_⟩
          omega
        have fin : va_Run p l e R s m args below meth c H locs cells slots (h'.length - h.length) (ns' - ns) (F0 m f.1 ls (f.2.2.map (q_ren S b))) (st.map (q_ren S b)) (q_Qc S b D cA cl v h' (a.map (q_ren S b)).toArray) (fun q => S ≤ q) → W p l e R s m args below meth c H locs cells slots Q (F0 m f.1 ls (f.2.2.map (q_ren S b))) := by
          intro hrun
          refine q_goes hrun hS fun H1 locs1 z1 P1 S1 => ?_
          have g1 := g H1 locs1 ls z1 P1 S1 hl
          rw [List.map_append] at g1
          have e3 : (v.map (q_ren S b)).toList = v.toList.map (q_ren S b) := by cases v <;> rfl
          rw [e3]
          exact g1
        apply fin
        rcases hdg with ⟨rfl, hkd, hd⟩ | ⟨rfl, rfl, hd⟩ | ⟨rfl, rfl, hd⟩
        · rcases hkd with rfl | rfl
          · obtain ⟨⟨w1, w2, w3, w4⟩, w5, w6⟩ := hmk
            exact va_runS (As := a.map (q_ren S b)) hfix hmet ⟨callB_of _ hts (hGw w1) rfl rfl rfl (hts _ w2) (hts _ w5) w3 (hRR w4), hts _ w6⟩ ⟨q_blind S b D cA cl a h, hpre⟩ rfl (by rw [List.length_map, hal]) hl.1 (by show f.2.2.map (q_ren S b) = _; rw [hst, List.map_append, List.map_reverse]) hroom hd ⟨hr1, hr2⟩
          · obtain ⟨host, ⟨w1, w2, w3, w4⟩, w5, w6⟩ := hmk
            exact va_runSN (As := a.map (q_ren S b)) hfix hmet ⟨⟨⟨rfl, rfl, (hRR w4).1, (hRR w4).2, pay_in hts (hGw w1), List.mem_cons_self⟩, hts _ w1, hts _ w2, ⟨w3.1, w3.2.1⟩, fun sig hsig => by have h2 := w3.2.2; rw [hsig] at h2; exact (Option.some.inj h2).symm, hts _ w5⟩, hts _ w6, trivial⟩ ⟨q_blind S b D cA cl a h, hpre⟩ rfl (by rw [List.length_map, hal]) hl.1 (by show f.2.2.map (q_ren S b) = _; rw [hst, List.map_append, List.map_reverse]) hroom hd ⟨hr1, hr2⟩
        · obtain ⟨n, ci, T, N, hn, ⟨w1, w2, w3, w4⟩, w5, w6, w7, hx, hci, hc⟩ := hmk
          obtain ⟨o, r, q, ci', ha, hq, hx', hqc⟩ := q_may1 b3
          rw [hx] at hx'
          cases hx'
          subst ha
          have hw := q_ws_at (S := S) (b := b) (cA := cA) hq
          rw [show q_e S b cA q = .inr (ci, q_fs S b q.2.2 q.2.1) by unfold q_e; rw [hqc, if_pos hci]] at hw
          exact va_runV (C := M.1.cls) (As := r.map (q_ren S b)) hfix hmet ⟨callB_of n hts (hGw w1) rfl rfl rfl (hts _ w2) (hts _ w5) w3 (hRR w4), hts _ w6, hts _ w7⟩ ⟨q_blind S b D cA cl _ h, va_recv hK hP hc hw, hpre⟩ rfl (by rw [List.length_map]; rw [List.length_cons] at hal; omega) hl.1 (by show f.2.2.map (q_ren S b) = _; rw [hst, List.map_append, List.map_reverse, List.map_cons, List.reverse_cons, List.append_assoc]; rfl) hroom hd ⟨hr1, hr2⟩
        · obtain ⟨n, hn, ⟨w1, w2, w3, w4⟩, w5, w6, w7, w8⟩ := hmk
          obtain ⟨o, r, ha⟩ := q_may2 b3
          subst ha
          rw [w8] at hmet w1
          exact va_runI (As := r.map (q_ren S b)) hfix hmet ⟨callB_of n hts (hGw w1) rfl rfl rfl (hts _ w2) (hts _ w5) w3 (hRR w4), w7, hts _ w6⟩ ⟨q_blind S b D cA cl _ h, hpre⟩ rfl (by rw [List.length_map]; rw [List.length_cons] at hal; omega) hl.1 (by show f.2.2.map (q_ren S b) = _; rw [hst, List.map_append, List.map_reverse, List.map_cons, List.reverse_cons, List.append_assoc]; rfl) hroom hd ⟨hr1, hr2⟩
      next => cases hs
  next => cases hs
end QS4
end
section
/-- a link: its kind, its entry in the pool, what it is -/
abbrev q_LT : Type := List (Nat × Nat × List Nat)
def q_lok (cl : List vw_C) (ty : Nat → Nat → FieldType) (Ts : List Cond) (ms : List q_M) (own : String) (q : Nat × Nat × List Nat) : Prop := match q.1, q.2.2 with
  | 1, [ci, k, kd] => ∃ C T N, cl[ci]? = some (C, T, N) ∧ k < N ∧ kd = q_kd (ty ci k) ∧ Cond.fieldLink own q.2.1 (T k).1 (T k).2.1 (T k).2.2.1 ∈ Ts
  | 3, ci :: ks => ∃ C T N, cl[ci]? = some (C, T, N) ∧ ks.length = N ∧ (∀ j, j < N → ks[j]? = some (q_kd (ty ci j)) ∧ q_kd (ty ci j) < 4) ∧ (Cond.classLink own q.2.1 C ∈ Ts ∧ Cond.instantiable C N ∈ Ts ∧ Cond.initialized C ∈ Ts)
  | 7, [] => Cond.methodLink own q.2.1 objectInit ∈ Ts ∧ Cond.instanceMethod objectInit ∈ Ts ∧ Cond.code objectInit ⟨#[0xb1]⟩ 1 none ∈ Ts
  | 8, [] => Cond.methodLink own q.2.1 arraycopyName ∈ Ts ∧ Cond.native arraycopyName ∈ Ts ∧ Cond.static arraycopyName ∈ Ts ∧ Cond.initialized "java/lang/System" ∈ Ts
  | 9, [v] => Cond.constant own q.2.1 (Int32.ofNat v) ∈ Ts
  | 10, [v] => Cond.constantLong own q.2.1 (Int64.ofNat v) ∈ Ts
  | 20, k :: na :: ml :: x => ∃ M, ms[k]? = some M ∧ na = M.2.2.2.2 ∧ ml = M.2.2.1 ∧ q_MK cl Ts own q.2.1 M x 0
  | 21, k :: na :: ml :: x => ∃ M, ms[k]? = some M ∧ na = M.2.2.2.2 ∧ ml = M.2.2.1 ∧ q_MK cl Ts own q.2.1 M x 1
  | 22, k :: na :: ml :: x => ∃ M, ms[k]? = some M ∧ na = M.2.2.2.2 ∧ ml = M.2.2.1 ∧ q_MK cl Ts own q.2.1 M x 2
  | 23, k :: na :: ml :: x => ∃ M, ms[k]? = some M ∧ na = M.2.2.2.2 ∧ ml = M.2.2.1 ∧ q_MK cl Ts own q.2.1 M x 3
  | _, _ => False
def q_has (lt : q_LT) (k i : Nat) (r : List Nat) : Bool := match lt with
  | [] => false
  | q :: lt => (Nat.beq q.1 k && (Nat.beq q.2.1 i && decide (q.2.2 = r))) || q_has lt k i r
def q_ln (ins : Jvm.ClassFile.Instr) (len : Nat) : Nat := match ins with
  | .aload _ | .iload _ | .lload _ | .astore _ | .istore _ | .lstore _ | .bipush _ | .ldc _ | .newarray _ => 2
  | .iinc _ _ | .sipush _ | .ldc_w _ | .ldc2_w _ | .ifCond _ _ | .if_icmp _ _ | .goto _ | .getfield _ | .putfield _ | .new _ | .invokevirtual _ | .invokestatic _ | .invokespecial _ => 3
  | .tableswitch _ _ _ _ => len
  | _ => 1
def q_tgt (pc : Nat) (off : Int) (r : List Nat) : Bool := match r with
  | [tg] => decide ((pc : Int) + off = (tg : Int))
  | _ => false
def q_tgs (pc : Nat) : List Int → List Nat → Bool
  | [], [] => true
  | o :: os, t :: ts => decide ((pc : Int) + o = (t : Int)) && q_tgs pc os ts
  | _, _ => false
/-- a field that may be put here -/
def q_mayP (cl : List vw_C) (own : String) (ini : Bool) (r : List Nat) : Bool := match r with
  | [ci, k, _] => (match cl[ci]? with
    | some q => !(q.2.1 k).2.2.2 || (ini && decide ((q.2.1 k).1 = own))
    | none => false)
  | _ => false
def q_ck2 (cl : List vw_C) (lt : q_LT) (own : String) (nL : Nat) (ret : Option FieldType) (ini : Bool) (pc : Nat) (ins : Jvm.ClassFile.Instr) (r : List Nat) : Bool := match ins with
  | .astore_n k => Nat.blt k.val nL
  | .istore_n k => Nat.blt k.val nL
  | .lstore_n k => Nat.blt (k.val + 1) nL
  | .astore i => Nat.blt i nL
  | .istore i => Nat.blt i nL
  | .lstore i => Nat.blt (i + 1) nL
  | .iinc i _ => Nat.blt i nL
  | .ldc i => q_has lt 9 i r
  | .ldc_w i => q_has lt 9 i r
  | .ldc2_w i => q_has lt 10 i r
  | .ifCond _ off => q_tgt pc off r
  | .if_icmp _ off => q_tgt pc off r
  | .goto off => q_tgt pc off r
  | .tableswitch d lo hi os => decide ((Int32.ofInt lo).toInt = lo) && (decide ((Int32.ofInt hi).toInt = hi) && q_tgs pc (d :: os.toList) r)
  | .getfield i => q_has lt 1 i r
  | .putfield i => q_has lt 1 i r && q_mayP cl own ini r
  | .new i => q_has lt 3 i r
  | .newarray a => (match r with
    | [tg] => Nat.beq (q_tg a) tg && Nat.blt 0 tg
    | _ => false)
  | .invokevirtual i => q_has lt 21 i r
  | .invokestatic i => (match r with
    | [] => q_has lt 8 i []
    | _ => q_has lt 20 i r || q_has lt 23 i r)
  | .invokespecial i => (match r with
    | [] => q_has lt 7 i []
    | _ => q_has lt 22 i r)
  | .ireturn => (match r, ret with
    | [kd], some t => Nat.beq kd (q_kd t) && Nat.blt kd 2
    | _, _ => false)
  | .lreturn => decide (ret = some .long)
  | .return_ => decide (ret = none)
  | _ => true
def q_ck1 (cl : List vw_C) (lt : q_LT) (own : String) (cc : ByteArray) (nL : Nat) (ret : Option FieldType) (ini : Bool) (pc : Nat) (q : q_I) : Bool :=
  decide (decode cc pc = .ok (q.1, q_ln q.1 q.2.1)) && (Nat.beq q.2.1 (q_ln q.1 q.2.1) && q_ck2 cl lt own nL ret ini pc q.1 q.2.2)
theorem q_has_spec {lt : q_LT} {k i : Nat} {r : List Nat} (h : q_has lt k i r = true) : (k, i, r) ∈ lt := by
  induction lt with
  | nil => cases h
  | cons q lt ih =>
    unfold q_has at h
    rcases (Bool.or_eq_true _ _).mp h with h | h
    · simp only [Bool.and_eq_true, decide_eq_true_eq] at h
      obtain ⟨h1, h2, h3⟩ := h
      have e1 := q_beq h1
      have e2 := q_beq h2
      obtain ⟨a, b, c⟩ := q
      simp only at e1 e2 h3
      subst e1; subst e2; subst h3
      exact List.mem_cons_self
    · exact List.mem_cons_of_mem _ (ih h)
theorem q_tgt_spec {pc : Nat} {off : Int} {r : List Nat} (h : q_tgt pc off r = true) : ∀ tg, r = [tg] → (pc : Int) + off = (tg : Int) := by
  intro tg e
  subst e
  simpa [q_tgt] using h
theorem q_tgs_spec {pc : Nat} : ∀ {os : List Int} {r : List Nat}, q_tgs pc os r = true → ∀ (j tg : Nat), r[j]? = some tg → ∃ off, os[j]? = some off ∧ (pc : Int) + off = (tg : Int)
  | [], [], _, j, tg, hj => by simp at hj
  | [], _ :: _, h, _, _, _ => by cases h
  | _ :: _, [], h, _, _, _ => by cases h
  | o :: os, t :: ts, h, j, tg, hj => by
    simp only [q_tgs, Bool.and_eq_true, decide_eq_true_eq] at h
    rcases j with _ | j
    · simp only [List.getElem?_cons_zero, Option.some.injEq] at hj
      subst hj
      exact ⟨o, rfl, h.1⟩
    · simp only [List.getElem?_cons_succ] at hj ⊢
      exact q_tgs_spec h.2 j tg hj
/-- what is known of the classes -/
abbrev q_CK (cl : List vw_C) (ty : Nat → Nat → FieldType) (Ts : List Cond) : Prop := cl.length ≤ 100 ∧ ∀ (ci : Nat) (C : String) (T : u_T) (N : Nat), cl[ci]? = some (C, T, N) → (∀ w ∈ u_ws C T N, w ∈ Ts) ∧ (∀ k, k < N → parseFieldDescriptor (T k).2.2.1 = some (ty ci k)) ∧ (∀ a, a < N → ∀ b, b < N → a ≠ b → (T a).2.1 ≠ (T b).2.1)
abbrev q_AK (Ts : List Cond) : Prop := Cond.arrayClass .int ∈ Ts ∧ Cond.arrayClass .byte ∈ Ts ∧ Cond.arrayClass .boolean ∈ Ts ∧ Cond.arrayClass .long ∈ Ts
section QS5
variable {p : Program} {l : Launch} {e : Env} {R : Room} {s : State} {m : MethodId} {args : Array Value} {below : List Frame} {meth : Method} {c : Code} {S b : Nat} {D : va_G} {cA : Nat → ClassId} {cl : List vw_C} {nL : Nat} {own : String} {cc : ByteArray} {Ts : List Cond}
variable {f f' : q_F Int32} {h h' : q_H Int32} {ns ns' : Nat}
set_option maxHeartbeats 4000000 in
theorem q_act_ok (cx : q_CX p s m args c S D cA cl nL own cc Ts) {ty : Nat → Nat → FieldType} (hck : q_CK cl ty Ts) (hak : q_AK Ts) {ms : List q_M} {lt : q_LT} (hlt : ∀ q ∈ lt, q_lok cl ty Ts ms own q) {d : Nat} {cal : Nat → List (q_V Int32) → q_H Int32 → Nat → Option (q_R Int32)} (hco : q_CO l cl Ts ms d cal) (hgood : GoodIn Ts Ts) (hR : d + 1 ≤ R.frames ∧ 60 * (d + 1) ≤ R.locals) {ret : Option FieldType} {ini : Bool} (hini : ini = true → meth.name = "<init>") {scr : Option (List Int32)} (hX : ∀ xs, scr = some xs → va_X b xs.length (fun j => xs.getD j 0) s s.heap ∧ b < s.heap.size ∧ ¬ S ≤ b)
    {ins : Jvm.ClassFile.Instr} {len : Nat} {r : List Nat} (hc : q_ck1 cl lt own cc nL ret ini f.1 (ins, len, r) = true) (hs : q_act q_O32 scr cal ins len r f h ns = some (.inl (f', h', ns'))) : q_K p l e R s m args below meth c S b D cA cl nL f h ns f' h' ns' := by
  simp only [q_ck1, Bool.and_eq_true, decide_eq_true_eq] at hc
  obtain ⟨hd, hl0, hc⟩ := hc
  have hl := q_beq hl0
  have hx := cx.1
  have hb := cx.2.1
  have hts := cx.2.2.2.2.1
  have hci : ∀ {ci : Nat} {q : vw_C}, cl[ci]? = some q → ci < 100 := fun hq => Nat.lt_of_lt_of_le (List.getElem?_eq_some_iff.mp hq).1 hck.1
  have hR1 : 1 ≤ R.frames ∧ 60 ≤ R.locals := ⟨by omega, by omega⟩
  cases ins with
  | aload_n k =>
    have hl : len = 1 := hl
    subst hl
    exact q_s_ld hs fun v hk H locs ls cells slots Q rest hls K => by
      obtain ⟨a, ha⟩ := q_kind1 (S := S) (b := b) hk
      rw [ha] at hls K
      exact lv_aload_n hx hb hd rfl hls K
  | aload k =>
    have hl : len = 2 := hl
    subst hl
    exact q_s_ld hs fun v hk H locs ls cells slots Q rest hls K => by
      obtain ⟨a, ha⟩ := q_kind1 (S := S) (b := b) hk
      rw [ha] at hls K
      exact lv_aload hx hb hd hls K
  | iload_n k =>
    have hl : len = 1 := hl
    subst hl
    exact q_s_ld hs fun v hk H locs ls cells slots Q rest hls K => by
      obtain ⟨a, ha⟩ := q_kind0 hk
      subst ha
      exact lv_iload_n hx hb hd rfl hls K
  | iload k =>
    have hl : len = 2 := hl
    subst hl
    exact q_s_ld hs fun v hk H locs ls cells slots Q rest hls K => by
      obtain ⟨a, ha⟩ := q_kind0 hk
      subst ha
      exact lv_iload hx hb hd hls K
  | lload_n k =>
    have hl : len = 1 := hl
    subst hl
    exact q_s_ld hs fun v hk H locs ls cells slots Q rest hls K => by
      obtain ⟨a, ha⟩ := q_kind2 hk
      subst ha
      exact lv_lload_n hx hb hd rfl hls K
  | lload k =>
    have hl : len = 2 := hl
    subst hl
    exact q_s_ld hs fun v hk H locs ls cells slots Q rest hls K => by
      obtain ⟨a, ha⟩ := q_kind2 hk
      subst ha
      exact lv_lload hx hb hd hls K
  | astore_n k =>
    have hl : len = 1 := hl
    subst hl
    exact q_s_st (by decide) hs fun v hk H locs ls cells slots Q rest lv lv' hh e K => by
      obtain ⟨a, ha⟩ := q_kind1 (S := S) (b := b) hk
      rw [ha] at e ⊢
      exact lv_astore_n hx hb hd rfl hh (q_blt hc) e K
  | astore k =>
    have hl : len = 2 := hl
    subst hl
    exact q_s_st (by decide) hs fun v hk H locs ls cells slots Q rest lv lv' hh e K => by
      obtain ⟨a, ha⟩ := q_kind1 (S := S) (b := b) hk
      rw [ha] at e ⊢
      exact lv_astore hx hb hd hh (q_blt hc) e K
  | istore_n k =>
    have hl : len = 1 := hl
    subst hl
    exact q_s_st (by decide) hs fun v hk H locs ls cells slots Q rest lv lv' hh e K => by
      obtain ⟨a, ha⟩ := q_kind0 hk
      subst ha
      exact lv_istore_n hx hb hd rfl hh (q_blt hc) e K
  | istore k =>
    have hl : len = 2 := hl
    subst hl
    exact q_s_st (by decide) hs fun v hk H locs ls cells slots Q rest lv lv' hh e K => by
      obtain ⟨a, ha⟩ := q_kind0 hk
      subst ha
      exact lv_istore hx hb hd hh (q_blt hc) e K
  | lstore_n k =>
    have hl : len = 1 := hl
    subst hl
    exact q_s_st2 hs fun v hk H locs ls cells slots Q rest lv lv' hh e K => by
      obtain ⟨a, ha⟩ := q_kind2 hk
      subst ha
      exact lv_lstore_n hx hb hd rfl hh (q_blt hc) e K
  | lstore k =>
    have hl : len = 2 := hl
    subst hl
    exact q_s_st2 hs fun v hk H locs ls cells slots Q rest lv lv' hh e K => by
      obtain ⟨a, ha⟩ := q_kind2 hk
      subst ha
      exact lv_lstore hx hb hd hh (q_blt hc) e K
  | iinc i n => exact q_s_iinc cx (q_blt hc) hl hd hs
  | iconst n =>
    have hl : len = 1 := hl
    subst hl
    exact q_s_nx hs (q_s_row rfl fun H locs ls cells slots Q K => lv_iconst hx hb hd rfl K)
  | bipush n =>
    have hl : len = 2 := hl
    subst hl
    exact q_s_nx hs (q_s_row rfl fun H locs ls cells slots Q K => lv_bipush hx hb hd rfl K)
  | sipush n =>
    have hl : len = 3 := hl
    subst hl
    exact q_s_nx hs (q_s_row rfl fun H locs ls cells slots Q K => lv_sipush hx hb hd rfl K)
  | lconst n =>
    have hl : len = 1 := hl
    subst hl
    exact q_s_nx hs (q_s_row rfl fun H locs ls cells slots Q K => lv_lconst hx hb hd rfl K)
  | ldc i =>
    have hl : len = 2 := hl
    subst hl
    rcases r with _ | ⟨v, _ | _⟩
    · cases hs
    · exact q_s_nx hs (q_s_row rfl fun H locs ls cells slots Q K => lv_ldc hx hb cx.2.2.2.1 (hts _ (hlt _ (q_has_spec hc))) hd K)
    · cases hs
  | ldc_w i =>
    have hl : len = 3 := hl
    subst hl
    rcases r with _ | ⟨v, _ | _⟩
    · cases hs
    · exact q_s_nx hs (q_s_row rfl fun H locs ls cells slots Q K => lv_ldcw hx hb cx.2.2.2.1 (hts _ (hlt _ (q_has_spec hc))) hd K)
    · cases hs
  | ldc2_w i =>
    have hl : len = 3 := hl
    subst hl
    rcases r with _ | ⟨v, _ | _⟩
    · cases hs
    · exact q_s_nx hs (q_s_row rfl fun H locs ls cells slots Q K => lv_ldc2 hx hb cx.2.2.2.1 (hts _ (hlt _ (q_has_spec hc))) hd K)
    · cases hs
  | iadd =>
    have hl : len = 1 := hl
    subst hl
    exact q_s_b2 (j := 0) hs fun x y z hz H locs ls cells slots Q rest K => by cases hz; exact lv_iadd hx hb hd K
  | isub =>
    have hl : len = 1 := hl
    subst hl
    exact q_s_b2 (j := 1) hs fun x y z hz H locs ls cells slots Q rest K => by cases hz; exact lv_isub hx hb hd K
  | imul =>
    have hl : len = 1 := hl
    subst hl
    exact q_s_b2 (j := 2) hs fun x y z hz H locs ls cells slots Q rest K => by cases hz; exact lv_imul hx hb hd K
  | iand =>
    have hl : len = 1 := hl
    subst hl
    exact q_s_b2 (j := 3) hs fun x y z hz H locs ls cells slots Q rest K => by cases hz; exact lv_iand hx hb hd K
  | ior =>
    have hl : len = 1 := hl
    subst hl
    exact q_s_b2 (j := 4) hs fun x y z hz H locs ls cells slots Q rest K => by cases hz; exact lv_ior hx hb hd K
  | ixor =>
    have hl : len = 1 := hl
    subst hl
    exact q_s_b2 (j := 5) hs fun x y z hz H locs ls cells slots Q rest K => by cases hz; exact lv_ixor hx hb hd K
  | ishl =>
    have hl : len = 1 := hl
    subst hl
    exact q_s_b2 (j := 6) hs fun x y z hz H locs ls cells slots Q rest K => by cases hz; exact lv_ishl hx hb hd K
  | ishr =>
    have hl : len = 1 := hl
    subst hl
    exact q_s_b2 (j := 7) hs fun x y z hz H locs ls cells slots Q rest K => by cases hz; exact lv_ishr hx hb hd K
  | iushr =>
    have hl : len = 1 := hl
    subst hl
    exact q_s_b2 (j := 8) hs fun x y z hz H locs ls cells slots Q rest K => by cases hz; exact lv_iushr hx hb hd rfl K
  | idiv =>
    have hl : len = 1 := hl
    subst hl
    exact q_s_b2 (j := 9) hs fun x y z hz H locs ls cells slots Q rest K => by
      by_cases hy : y = 0
      · simp [q_o2, hy] at hz
      · simp only [q_o2, if_neg hy] at hz
        cases hz
        exact lv_idiv hx hb hd hy K
  | irem =>
    have hl : len = 1 := hl
    subst hl
    exact q_s_b2 (j := 10) hs fun x y z hz H locs ls cells slots Q rest K => by
      by_cases hy : y = 0
      · simp [q_o2, hy] at hz
      · simp only [q_o2, if_neg hy] at hz
        cases hz
        exact lv_irem hx hb hd hy K
  | ineg =>
    have hl : len = 1 := hl
    subst hl
    exact q_s_b1 (j := 0) hs fun x z hz H locs ls cells slots Q rest K => by cases hz; exact lv_ineg hx hb hd K
  | i2b =>
    have hl : len = 1 := hl
    subst hl
    exact q_s_b1 (j := 1) hs fun x z hz H locs ls cells slots Q rest K => by cases hz; exact lv_i2b hx hb hd rfl K
  | i2c =>
    have hl : len = 1 := hl
    subst hl
    exact q_s_b1 (j := 2) hs fun x z hz H locs ls cells slots Q rest K => by cases hz; exact lv_i2c hx hb hd rfl K
  | ladd =>
    have hl : len = 1 := hl
    subst hl
    exact q_s_l2 (j := 0) hs fun x y z hz H locs ls cells slots Q rest K => by cases hz; exact lv_ladd hx hb hd K
  | lmul =>
    have hl : len = 1 := hl
    subst hl
    exact q_s_l2 (j := 1) hs fun x y z hz H locs ls cells slots Q rest K => by cases hz; exact lv_lmul hx hb hd K
  | lor =>
    have hl : len = 1 := hl
    subst hl
    exact q_s_l2 (j := 2) hs fun x y z hz H locs ls cells slots Q rest K => by cases hz; exact lv_lor hx hb hd K
  | i2l => exact q_s_i2l cx hl hd hs
  | lshl => exact q_s_lshl cx hl hd hs
  | lcmp => exact q_s_lcmp cx hl hd hs
  | dup => exact q_s_dup cx hl hd hs
  | dup2 => exact q_s_dup2 cx hl hd hs
  | pop => exact q_s_pop cx hl hd hs
  | ifCond cd off => exact q_s_if cx hl hd (q_tgt_spec hc) hs
  | if_icmp cd off => exact q_s_ic cx hl hd (q_tgt_spec hc) hs
  | goto off =>
    rcases r with _ | ⟨tg, _ | _⟩
    · cases hs
    · cases hs
      exact q_K.same (q_s_row rfl fun H locs ls cells slots Q K => lv_goto hx hb hd (q_tgt_spec (show q_tgt f.1 off [tg] = true from hc) tg rfl) K)
    · cases hs
  | tableswitch dflt lo hi offs =>
    have hc : (decide ((Int32.ofInt lo).toInt = lo) && (decide ((Int32.ofInt hi).toInt = hi) && q_tgs f.1 (dflt :: offs.toList) r)) = true := hc
    simp only [Bool.and_eq_true, decide_eq_true_eq] at hc
    refine q_s_tsw cx hc.1 hc.2.1 hd (fun tg htg => ?_) (fun j tg htg => ?_) hs
    · obtain ⟨off, h1, h2⟩ := q_tgs_spec hc.2.2 0 tg htg
      cases h1
      exact h2
    · obtain ⟨off, h1, h2⟩ := q_tgs_spec hc.2.2 (j + 1) tg htg
      exact ⟨off, by simpa using h1, h2⟩
  | getfield i =>
    have hk := hlt _ (q_has_spec hc)
    rcases r with _ | ⟨ci, _ | ⟨k, _ | ⟨kd, _ | _⟩⟩⟩
    · exact hk.elim
    · exact hk.elim
    · exact hk.elim
    · obtain ⟨C, T, N, h1, h2, h3, h4⟩ := hk
      exact q_s_getf cx hl (hci h1) h1 h2 (hck.2 _ _ _ _ h1).1 h4 hd hs
    · exact hk.elim
  | putfield i =>
    have hc : (q_has lt 1 i r && q_mayP cl own ini r) = true := hc
    rw [Bool.and_eq_true] at hc
    have hk := hlt _ (q_has_spec hc.1)
    have hm := hc.2
    rcases r with _ | ⟨ci, _ | ⟨k, _ | ⟨kd, _ | _⟩⟩⟩
    · exact hk.elim
    · exact hk.elim
    · exact hk.elim
    · obtain ⟨C, T, N, h1, h2, h3, h4⟩ := hk
      obtain ⟨g1, g2, g3⟩ := hck.2 _ _ _ _ h1
      refine q_s_putf cx hl (hci h1) h1 h2 g1 g2 g3 h3 ?_ h4 hd hs
      simp only [q_mayP, h1, Bool.or_eq_true, Bool.not_eq_true', Bool.and_eq_true, decide_eq_true_eq] at hm
      rcases hm with hm | ⟨hm1, hm2⟩
      · exact Or.inl hm
      · cases hf : (T k).2.2.2 with
        | false => exact Or.inl rfl
        | true => exact Or.inr ⟨rfl, hini hm1, hm2⟩
    · exact hk.elim
  | iaload => exact q_s_ald cx hl hX (Or.inl ⟨rfl, rfl, hd⟩) hs
  | baload => exact q_s_ald cx hl hX (Or.inr (Or.inl ⟨rfl, rfl, hd⟩)) hs
  | laload => exact q_s_ald cx hl hX (Or.inr (Or.inr ⟨rfl, rfl, hd⟩)) hs
  | iastore => exact q_s_ast cx hl (Or.inl ⟨rfl, hd⟩) hs
  | bastore => exact q_s_ast cx hl (Or.inr (Or.inl ⟨rfl, hd⟩)) hs
  | lastore => exact q_s_ast cx hl (Or.inr (Or.inr ⟨rfl, hd⟩)) hs
  | arraylength => exact q_s_alen cx hl hX hd hs
  | new i =>
    have hk := hlt _ (q_has_spec hc)
    rcases r with _ | ⟨ci, ks⟩
    · exact hk.elim
    · obtain ⟨C, T, N, h1, h2, h3, h4⟩ := hk
      obtain ⟨g1, g2, -⟩ := hck.2 _ _ _ _ h1
      exact q_s_new cx hl (hci h1) h1 g1 g2 h2 h3 h4 hd hs
  | newarray a =>
    rcases r with _ | ⟨tg, _ | _⟩
    · cases hc
    · have hc : (Nat.beq (q_tg a) tg && Nat.blt 0 tg) = true := hc
      rw [Bool.and_eq_true] at hc
      have h1 := q_beq hc.1
      have h2 := q_blt hc.2
      refine q_s_newa cx hl h1 (by omega) ?_ hd hs
      cases a <;> simp [q_tg] at h1 <;> first | omega | skip
      · exact hak.2.2.1
      · exact hak.2.1
      · exact hak.1
      · exact hak.2.2.2
    · cases hc
  | invokevirtual i =>
    have hk := hlt _ (q_has_spec hc)
    rcases r with _ | ⟨k, _ | ⟨na, _ | ⟨ml, x⟩⟩⟩
    · exact hk.elim
    · exact hk.elim
    · exact hk.elim
    · obtain ⟨M, h1, h2, h3, h4⟩ := hk
      exact q_s_inv cx hco hgood hR hl h1 h2 h3 h4 (Or.inr (Or.inl ⟨rfl, rfl, hd⟩)) hs
  | invokestatic i =>
    rcases r with _ | ⟨k, r⟩
    · exact q_s_acpy cx hl hR1 (hlt _ (q_has_spec hc)) hd hs
    · have hc : (q_has lt 20 i (k :: r) || q_has lt 23 i (k :: r)) = true := hc
      replace hs : q_inv cal 0 (k :: r) len f h ns = some (.inl (f', h', ns')) := hs
      rcases (Bool.or_eq_true _ _).mp hc with hc | hc
      · have hk := hlt _ (q_has_spec hc)
        rcases r with _ | ⟨na, _ | ⟨ml, x⟩⟩
        · exact hk.elim
        · exact hk.elim
        · obtain ⟨M, h1, h2, h3, h4⟩ := hk
          exact q_s_inv cx hco hgood hR hl h1 h2 h3 h4 (Or.inl ⟨rfl, Or.inl rfl, hd⟩) hs
      · have hk := hlt _ (q_has_spec hc)
        rcases r with _ | ⟨na, _ | ⟨ml, x⟩⟩
        · exact hk.elim
        · exact hk.elim
        · obtain ⟨M, h1, h2, h3, h4⟩ := hk
          exact q_s_inv cx hco hgood hR hl h1 h2 h3 h4 (Or.inl ⟨rfl, Or.inr rfl, hd⟩) hs
  | invokespecial i =>
    rcases r with _ | ⟨k, r⟩
    · exact q_s_obj cx hl hR1 (hlt _ (q_has_spec hc)) hd hs
    · have hk := hlt _ (q_has_spec (show q_has lt 22 i (k :: r) = true from hc))
      replace hs : q_inv cal 2 (k :: r) len f h ns = some (.inl (f', h', ns')) := hs
      rcases r with _ | ⟨na, _ | ⟨ml, x⟩⟩
      · exact hk.elim
      · exact hk.elim
      · obtain ⟨M, h1, h2, h3, h4⟩ := hk
        exact q_s_inv cx hco hgood hR hl h1 h2 h3 h4 (Or.inr (Or.inr ⟨rfl, rfl, hd⟩)) hs
  | ireturn =>
    replace hs : q_iret q_O32 r f h ns = some (.inl (f', h', ns')) := hs
    unfold q_iret at hs
    split at hs
    · next kd x _ =>
      cases hq : q_fit q_O32 kd (.inl x) with
      | true => rw [hq] at hs; cases hs
      | false => rw [hq] at hs; cases hs
    · cases hs
  | lreturn =>
    replace hs : q_lret f h ns = some (.inl (f', h', ns')) := hs
    unfold q_lret at hs
    split at hs <;> cases hs
  | return_ =>
    replace hs : q_ret f h ns = some (.inl (f', h', ns')) := hs
    unfold q_ret at hs
    split at hs <;> cases hs
  | _ => cases hs
end QS5
end
section
theorem q_nx_nr {I : Type} {n : Nat} {f : q_F I} {st : List (q_V I)} {h : q_H I} {ns : Nat} {x : q_R I} : ¬ q_nx n f st h ns = some (.inr x) := fun hh => by cases hh
theorem q_jmp_nr {I : Type} {r : List Nat} {n : Nat} {t : Option Bool} {f : q_F I} {st : List (q_V I)} {h : q_H I} {ns : Nat} {x : q_R I} : ¬ q_jmp r n t f st h ns = some (.inr x) := by
  intro hh
  unfold q_jmp at hh
  split at hh <;> cases hh
/-- only the three returns end a frame -/
theorem q_noret {I : Type} {O : q_O I} {scr : Option (List I)} {cal : Nat → List (q_V I) → q_H I → Nat → Option (q_R I)} {ins : Jvm.ClassFile.Instr} {len : Nat} {r : List Nat} {f : q_F I} {h : q_H I} {ns : Nat} {x : q_R I} (h1 : ins ≠ .ireturn) (h2 : ins ≠ .lreturn) (h3 : ins ≠ .return_) : ¬ q_act O scr cal ins len r f h ns = some (.inr x) := by
  have hld : ∀ t i len, ¬ q_ld t i len f h ns = some (.inr x) := by
    intro t i len hh
    unfold q_ld at hh
    split at hh
    · next v _ => cases hb : Nat.beq (q_kind v) t <;> rw [hb] at hh <;> cases hh
    · cases hh
  have hst : ∀ t i len, ¬ q_st t i len f h ns = some (.inr x) := by
    intro t i len hh
    unfold q_st at hh
    split at hh
    · next v _ _ => cases hb : Nat.beq (q_kind v) t <;> rw [hb] at hh <;> cases hh
    · cases hh
  have hb2 : ∀ j len, ¬ q_b2 O j len f h ns = some (.inr x) := by
    intro j len hh
    unfold q_b2 at hh
    split at hh
    · split at hh <;> cases hh
    · cases hh
  have hb1 : ∀ j len, ¬ q_b1 O j len f h ns = some (.inr x) := by
    intro j len hh
    unfold q_b1 at hh
    split at hh
    · split at hh <;> cases hh
    · cases hh
  have hl2 : ∀ j len, ¬ q_l2 j len f h ns = some (.inr x) := by
    intro j len hh
    unfold q_l2 at hh
    split at hh
    · split at hh <;> cases hh
    · cases hh
  have hald : ∀ tag kd len, ¬ q_ald O scr tag kd len f h ns = some (.inr x) := by
    intro tag kd len hh
    unfold q_ald at hh
    split at hh
    · split at hh
      · next q j _ _ => cases hb : (Nat.beq q.1 tag || (Nat.beq tag 101 && Nat.beq q.1 102)) && (Nat.blt j q.2.1 && Nat.beq (q_kind (q_el O q j)) kd) <;> rw [hb] at hh <;> cases hh
      · cases hh
    · split at hh
      · split at hh
        · cases hb : Nat.beq tag 100 <;> rw [hb] at hh <;> cases hh
        · cases hh
      · cases hh
    · cases hh
  have hast : ∀ tag len, ¬ q_ast O tag len f h ns = some (.inr x) := by
    intro tag len hh
    unfold q_ast at hh
    split at hh
    · split at hh
      · next q j _ _ =>
        cases hb : (Nat.beq q.1 tag || (Nat.beq tag 101 && Nat.beq q.1 102)) && Nat.blt j q.2.1
        · rw [hb] at hh; cases hh
        · rw [hb, cond_true] at hh
          split at hh <;> cases hh
      · cases hh
    · cases hh
  have hinv : ∀ sv r, ¬ q_inv cal sv r len f h ns = some (.inr x) := by
    intro sv r hh
    unfold q_inv at hh
    split at hh
    · next k na ml y =>
      split at hh
      · next a st _ =>
        cases hb : Nat.ble (q_cats st) 8 && (Nat.ble (q_cats a) ml && q_may sv y a h)
        · rw [hb] at hh; cases hh
        · rw [hb, cond_true] at hh
          split at hh <;> cases hh
      · cases hh
    · cases hh
  intro hs
  cases ins with
  | aload_n k => exact hld _ _ _ hs
  | aload k => exact hld _ _ _ hs
  | iload_n k => exact hld _ _ _ hs
  | iload k => exact hld _ _ _ hs
  | lload_n k => exact hld _ _ _ hs
  | lload k => exact hld _ _ _ hs
  | astore_n k => exact hst _ _ _ hs
  | astore k => exact hst _ _ _ hs
  | istore_n k => exact hst _ _ _ hs
  | istore k => exact hst _ _ _ hs
  | lstore_n k => exact hst _ _ _ hs
  | lstore k => exact hst _ _ _ hs
  | iadd => exact hb2 0 _ hs
  | isub => exact hb2 1 _ hs
  | imul => exact hb2 2 _ hs
  | iand => exact hb2 3 _ hs
  | ior => exact hb2 4 _ hs
  | ixor => exact hb2 5 _ hs
  | ishl => exact hb2 6 _ hs
  | ishr => exact hb2 7 _ hs
  | iushr => exact hb2 8 _ hs
  | idiv => exact hb2 9 _ hs
  | irem => exact hb2 10 _ hs
  | ineg => exact hb1 0 _ hs
  | i2b => exact hb1 1 _ hs
  | i2c => exact hb1 2 _ hs
  | ladd => exact hl2 0 _ hs
  | lmul => exact hl2 1 _ hs
  | lor => exact hl2 2 _ hs
  | iaload => exact hald _ _ _ hs
  | baload => exact hald _ _ _ hs
  | laload => exact hald _ _ _ hs
  | iastore => exact hast _ _ hs
  | bastore => exact hast _ _ hs
  | lastore => exact hast _ _ hs
  | invokevirtual i => exact hinv _ _ hs
  | iinc i n =>
    replace hs : q_iinc O i n len f h ns = some (.inr x) := hs
    unfold q_iinc at hs
    split at hs
    · split at hs <;> cases hs
    · cases hs
  | ldc i =>
    rcases r with _ | ⟨tg, _ | _⟩
    · cases hs
    · cases hs
    · cases hs
  | ldc_w i =>
    rcases r with _ | ⟨tg, _ | _⟩
    · cases hs
    · cases hs
    · cases hs
  | ldc2_w i =>
    rcases r with _ | ⟨tg, _ | _⟩
    · cases hs
    · cases hs
    · cases hs
  | i2l =>
    replace hs : q_i2l O len f h ns = some (.inr x) := hs
    unfold q_i2l at hs
    split at hs
    · split at hs <;> cases hs
    · cases hs
  | lshl =>
    replace hs : q_lshl O len f h ns = some (.inr x) := hs
    unfold q_lshl at hs
    split at hs
    · split at hs <;> cases hs
    · cases hs
  | lcmp =>
    replace hs : q_lcmp O len f h ns = some (.inr x) := hs
    unfold q_lcmp at hs
    split at hs <;> cases hs
  | dup =>
    replace hs : q_dup len f h ns = some (.inr x) := hs
    unfold q_dup at hs
    split at hs
    · next v _ _ => cases hb : Nat.beq (q_cat v) 1 <;> rw [hb] at hs <;> cases hs
    · cases hs
  | pop =>
    replace hs : q_pop len f h ns = some (.inr x) := hs
    unfold q_pop at hs
    split at hs
    · next v _ _ => cases hb : Nat.beq (q_cat v) 1 <;> rw [hb] at hs <;> cases hs
    · cases hs
  | dup2 =>
    replace hs : q_dup2 len f h ns = some (.inr x) := hs
    unfold q_dup2 at hs
    split at hs
    · next v w _ _ => cases hb : Nat.beq (q_cat v) 1 && Nat.beq (q_cat w) 1 <;> rw [hb] at hs <;> cases hs
    · cases hs
  | ifCond cd off =>
    replace hs : q_if O (q_cn cd) r len f h ns = some (.inr x) := hs
    unfold q_if at hs
    split at hs
    · exact q_jmp_nr hs
    · cases hs
  | if_icmp cd off =>
    replace hs : q_ic O (q_cn cd) r len f h ns = some (.inr x) := hs
    unfold q_ic at hs
    split at hs
    · exact q_jmp_nr hs
    · cases hs
  | goto off =>
    rcases r with _ | ⟨tg, _ | _⟩
    · cases hs
    · cases hs
    · cases hs
  | tableswitch dflt lo hi offs =>
    replace hs : q_tsw O lo hi r f h ns = some (.inr x) := hs
    unfold q_tsw at hs
    split at hs
    · split at hs <;> cases hs
    · cases hs
  | getfield i =>
    replace hs : q_getf r len f h ns = some (.inr x) := hs
    unfold q_getf at hs
    split at hs
    · next ci k _ _ _ _ =>
      split at hs
      · next q _ =>
        cases hb : Nat.beq q.1 ci && Nat.blt k q.2.1
        · rw [hb] at hs; cases hs
        · rw [hb, cond_true] at hs
          split at hs <;> cases hs
      · cases hs
    · cases hs
  | putfield i =>
    replace hs : q_putf O r len f h ns = some (.inr x) := hs
    unfold q_putf at hs
    split at hs
    · next ci k kd _ v _ _ _ =>
      split at hs
      · next q _ => cases hb : Nat.beq q.1 ci && (Nat.blt k q.2.1 && q_fit O kd v) <;> rw [hb] at hs <;> cases hs
      · cases hs
    · cases hs
  | arraylength =>
    replace hs : q_alen O scr len f h ns = some (.inr x) := hs
    unfold q_alen at hs
    split at hs
    · split at hs
      · next q _ => cases hb : Nat.blt 99 q.1 && Nat.blt q.1 104 <;> rw [hb] at hs <;> cases hs
      · cases hs
    · split at hs <;> cases hs
    · cases hs
  | new i =>
    replace hs : q_new O r len f h ns = some (.inr x) := hs
    unfold q_new at hs
    split at hs <;> cases hs
  | newarray a =>
    replace hs : q_newa O r len f h ns = some (.inr x) := hs
    unfold q_newa at hs
    split at hs
    · split at hs
      · next N _ => cases hb : Nat.blt N 65536 <;> rw [hb] at hs <;> cases hs
      · cases hs
    · cases hs
  | invokestatic i =>
    rcases r with _ | ⟨k, r⟩
    · replace hs : q_acpy O len f h ns = some (.inr x) := hs
      unfold q_acpy at hs
      split at hs
      · next st _ =>
        split at hs
        · next qs qd n dp sp _ _ _ _ _ => cases hb : Nat.beq qs.1 100 && (Nat.beq qd.1 100 && (Nat.ble (sp + n) qs.2.1 && (Nat.ble (dp + n) qd.2.1 && Nat.ble (q_cats st) 8))) <;> rw [hb] at hs <;> cases hs
        · cases hs
      · cases hs
    · exact hinv _ _ hs
  | invokespecial i =>
    rcases r with _ | ⟨k, r⟩
    · replace hs : q_obj len f h ns = some (.inr x) := hs
      unfold q_obj at hs
      split at hs
      · next st _ => cases hb : Nat.ble (q_cats st) 8 <;> rw [hb] at hs <;> cases hs
      · cases hs
    · exact hinv _ _ hs
  | ireturn => exact h1 rfl
  | lreturn => exact h2 rfl
  | return_ => exact h3 rfl
  | _ => cases hs
end
section
theorem q_act_ret_same {I : Type} {O : q_O I} {scr : Option (List I)} {cal : Nat → List (q_V I) → q_H I → Nat → Option (q_R I)} {ins : Jvm.ClassFile.Instr} {len : Nat} {r : List Nat} {f : q_F I} {h : q_H I} {ns : Nat} {v : Option (q_V I)} {h' : q_H I} {ns' : Nat} (hs : q_act O scr cal ins len r f h ns = some (.inr (v, h', ns'))) : h' = h ∧ ns' = ns := by
  by_cases h1 : ins = .ireturn
  · subst h1
    replace hs : q_iret O r f h ns = some (.inr (v, h', ns')) := hs
    simp only [q_iret, cond_eq_ite] at hs
    repeat' split at hs
    all_goals cases hs
    exact ⟨rfl, rfl⟩
  · by_cases h2 : ins = .lreturn
    · subst h2
      replace hs : q_lret f h ns = some (.inr (v, h', ns')) := hs
      simp only [q_lret] at hs
      repeat' split at hs
      all_goals cases hs
      exact ⟨rfl, rfl⟩
    · by_cases h3 : ins = .return_
      · subst h3
        replace hs : q_ret f h ns = some (.inr (v, h', ns')) := hs
        simp only [q_ret] at hs
        repeat' split at hs
        all_goals cases hs
        exact ⟨rfl, rfl⟩
      · exact absurd hs (q_noret h1 h2 h3)
theorem q_act_len {I : Type} {O : q_O I} {scr : Option (List I)} {cal : Nat → List (q_V I) → q_H I → Nat → Option (q_R I)} (hcal : ∀ k a h ns v h' ns', cal k a h ns = some (v, h', ns') → h.length ≤ h'.length ∧ ns ≤ ns') {ins : Jvm.ClassFile.Instr} {len : Nat} {r : List Nat} {f f' : q_F I} {h h' : q_H I} {ns ns' : Nat} (hs : q_act O scr cal ins len r f h ns = some (.inl (f', h', ns'))) : h.length ≤ h'.length ∧ ns ≤ ns' := by
  have hnx : ∀ {n : Nat} {st : List (q_V I)}, q_nx n f st h ns = some (.inl (f', h', ns')) → h.length ≤ h'.length ∧ ns ≤ ns' := fun hh => by cases hh; exact ⟨Nat.le_refl _, Nat.le_refl _⟩
  have hld : ∀ t i len, q_ld t i len f h ns = some (.inl (f', h', ns')) → h.length ≤ h'.length ∧ ns ≤ ns' := by
    intro t i len hs
    simp only [q_ld, q_nx, cond_eq_ite] at hs
    repeat' split at hs
    all_goals cases hs
    all_goals exact ⟨Nat.le_refl _, Nat.le_refl _⟩
  have hst : ∀ t i len, q_st t i len f h ns = some (.inl (f', h', ns')) → h.length ≤ h'.length ∧ ns ≤ ns' := by
    intro t i len hs
    simp only [q_st, q_nx] at hs
    split at hs
    · next v _ _ =>
      cases hb : Nat.beq (q_kind v) t <;> rw [hb] at hs <;> cases hs
      exact ⟨Nat.le_refl _, Nat.le_refl _⟩
    · cases hs
  have hb2 : ∀ j len, q_b2 O j len f h ns = some (.inl (f', h', ns')) → h.length ≤ h'.length ∧ ns ≤ ns' := by
    intro j len hs
    simp only [q_b2, q_nx] at hs
    repeat' split at hs
    all_goals cases hs
    all_goals exact ⟨Nat.le_refl _, Nat.le_refl _⟩
  have hb1 : ∀ j len, q_b1 O j len f h ns = some (.inl (f', h', ns')) → h.length ≤ h'.length ∧ ns ≤ ns' := by
    intro j len hs
    simp only [q_b1, q_nx] at hs
    repeat' split at hs
    all_goals cases hs
    all_goals exact ⟨Nat.le_refl _, Nat.le_refl _⟩
  have hl2 : ∀ j len, q_l2 j len f h ns = some (.inl (f', h', ns')) → h.length ≤ h'.length ∧ ns ≤ ns' := by
    intro j len hs
    simp only [q_l2, q_nx] at hs
    repeat' split at hs
    all_goals cases hs
    all_goals exact ⟨Nat.le_refl _, Nat.le_refl _⟩
  have hjmp : ∀ {r len t st}, q_jmp r len t f st h ns = some (.inl (f', h', ns')) → h.length ≤ h'.length ∧ ns ≤ ns' := by
    intro r len t st hs
    simp only [q_jmp, q_nx] at hs
    repeat' split at hs
    all_goals cases hs
    all_goals exact ⟨Nat.le_refl _, Nat.le_refl _⟩
  have hald : ∀ tag kd len, q_ald O scr tag kd len f h ns = some (.inl (f', h', ns')) → h.length ≤ h'.length ∧ ns ≤ ns' := by
    intro tag kd len hs
    simp only [q_ald, q_nx, cond_eq_ite] at hs
    repeat' split at hs
    all_goals cases hs
    all_goals exact ⟨Nat.le_refl _, Nat.le_refl _⟩
  have hast : ∀ tag len, q_ast O tag len f h ns = some (.inl (f', h', ns')) → h.length ≤ h'.length ∧ ns ≤ ns' := by
    intro tag len hs
    simp only [q_ast, q_nx, cond_eq_ite] at hs
    repeat' split at hs
    all_goals cases hs
    all_goals exact ⟨by rw [List.length_set]; exact Nat.le_refl _, Nat.le_refl _⟩
  have hinv : ∀ sv r, q_inv cal sv r len f h ns = some (.inl (f', h', ns')) → h.length ≤ h'.length ∧ ns ≤ ns' := by
    intro sv r hs
    simp only [q_inv, q_nx, cond_eq_ite] at hs
    split at hs
    · split at hs
      · split at hs
        · split at hs
          · next v h2 ns2 hc =>
            cases hs
            exact hcal _ _ _ _ _ _ _ hc
          · cases hs
        · cases hs
      · cases hs
    · cases hs
  cases ins with
  | aload_n k => exact hld _ _ _ hs
  | aload k => exact hld _ _ _ hs
  | iload_n k => exact hld _ _ _ hs
  | iload k => exact hld _ _ _ hs
  | lload_n k => exact hld _ _ _ hs
  | lload k => exact hld _ _ _ hs
  | astore_n k => exact hst _ _ _ hs
  | astore k => exact hst _ _ _ hs
  | istore_n k => exact hst _ _ _ hs
  | istore k => exact hst _ _ _ hs
  | lstore_n k => exact hst _ _ _ hs
  | lstore k => exact hst _ _ _ hs
  | iconst n => exact hnx hs
  | bipush n => exact hnx hs
  | sipush n => exact hnx hs
  | lconst n => exact hnx hs
  | iadd => exact hb2 0 _ hs
  | isub => exact hb2 1 _ hs
  | imul => exact hb2 2 _ hs
  | iand => exact hb2 3 _ hs
  | ior => exact hb2 4 _ hs
  | ixor => exact hb2 5 _ hs
  | ishl => exact hb2 6 _ hs
  | ishr => exact hb2 7 _ hs
  | iushr => exact hb2 8 _ hs
  | idiv => exact hb2 9 _ hs
  | irem => exact hb2 10 _ hs
  | ineg => exact hb1 0 _ hs
  | i2b => exact hb1 1 _ hs
  | i2c => exact hb1 2 _ hs
  | ladd => exact hl2 0 _ hs
  | lmul => exact hl2 1 _ hs
  | lor => exact hl2 2 _ hs
  | iaload => exact hald _ _ _ hs
  | baload => exact hald _ _ _ hs
  | laload => exact hald _ _ _ hs
  | iastore => exact hast _ _ hs
  | bastore => exact hast _ _ hs
  | lastore => exact hast _ _ hs
  | invokevirtual i => exact hinv _ _ hs
  | iinc i n =>
    replace hs : q_iinc O i n len f h ns = some (.inl (f', h', ns')) := hs
    simp only [q_iinc] at hs
    repeat' split at hs
    all_goals cases hs
    all_goals exact ⟨Nat.le_refl _, Nat.le_refl _⟩
  | ldc i =>
    rcases r with _ | ⟨tg, _ | _⟩
    · cases hs
    · exact hnx hs
    · cases hs
  | ldc_w i =>
    rcases r with _ | ⟨tg, _ | _⟩
    · cases hs
    · exact hnx hs
    · cases hs
  | ldc2_w i =>
    rcases r with _ | ⟨tg, _ | _⟩
    · cases hs
    · exact hnx hs
    · cases hs
  | i2l =>
    replace hs : q_i2l O len f h ns = some (.inl (f', h', ns')) := hs
    simp only [q_i2l, q_nx] at hs
    repeat' split at hs
    all_goals cases hs
    all_goals exact ⟨Nat.le_refl _, Nat.le_refl _⟩
  | lshl =>
    replace hs : q_lshl O len f h ns = some (.inl (f', h', ns')) := hs
    simp only [q_lshl, q_nx] at hs
    repeat' split at hs
    all_goals cases hs
    all_goals exact ⟨Nat.le_refl _, Nat.le_refl _⟩
  | lcmp =>
    replace hs : q_lcmp O len f h ns = some (.inl (f', h', ns')) := hs
    simp only [q_lcmp, q_nx] at hs
    repeat' split at hs
    all_goals cases hs
    all_goals exact ⟨Nat.le_refl _, Nat.le_refl _⟩
  | dup =>
    replace hs : q_dup len f h ns = some (.inl (f', h', ns')) := hs
    simp only [q_dup, q_nx, cond_eq_ite] at hs
    repeat' split at hs
    all_goals cases hs
    all_goals exact ⟨Nat.le_refl _, Nat.le_refl _⟩
  | pop =>
    replace hs : q_pop len f h ns = some (.inl (f', h', ns')) := hs
    simp only [q_pop, q_nx, cond_eq_ite] at hs
    repeat' split at hs
    all_goals cases hs
    all_goals exact ⟨Nat.le_refl _, Nat.le_refl _⟩
  | dup2 =>
    replace hs : q_dup2 len f h ns = some (.inl (f', h', ns')) := hs
    simp only [q_dup2, q_nx, cond_eq_ite] at hs
    repeat' split at hs
    all_goals cases hs
    all_goals exact ⟨Nat.le_refl _, Nat.le_refl _⟩
  | ifCond cd off =>
    replace hs : q_if O (q_cn cd) r len f h ns = some (.inl (f', h', ns')) := hs
    unfold q_if at hs
    split at hs
    · exact hjmp hs
    · cases hs
  | if_icmp cd off =>
    replace hs : q_ic O (q_cn cd) r len f h ns = some (.inl (f', h', ns')) := hs
    unfold q_ic at hs
    split at hs
    · exact hjmp hs
    · cases hs
  | goto off =>
    rcases r with _ | ⟨tg, _ | _⟩
    · cases hs
    · cases hs; exact ⟨Nat.le_refl _, Nat.le_refl _⟩
    · cases hs
  | tableswitch dflt lo hi offs =>
    replace hs : q_tsw O lo hi r f h ns = some (.inl (f', h', ns')) := hs
    unfold q_tsw at hs
    split at hs
    · split at hs
      · cases hs; exact ⟨Nat.le_refl _, Nat.le_refl _⟩
      · cases hs
    · cases hs
  | getfield i =>
    replace hs : q_getf r len f h ns = some (.inl (f', h', ns')) := hs
    simp only [q_getf, q_nx, cond_eq_ite] at hs
    repeat' split at hs
    all_goals cases hs
    all_goals exact ⟨Nat.le_refl _, Nat.le_refl _⟩
  | putfield i =>
    replace hs : q_putf O r len f h ns = some (.inl (f', h', ns')) := hs
    simp only [q_putf, q_nx, cond_eq_ite] at hs
    repeat' split at hs
    all_goals cases hs
    all_goals exact ⟨by rw [List.length_set]; exact Nat.le_refl _, Nat.le_refl _⟩
  | arraylength =>
    replace hs : q_alen O scr len f h ns = some (.inl (f', h', ns')) := hs
    simp only [q_alen, q_nx, cond_eq_ite] at hs
    repeat' split at hs
    all_goals cases hs
    all_goals exact ⟨Nat.le_refl _, Nat.le_refl _⟩
  | new i =>
    replace hs : q_new O r len f h ns = some (.inl (f', h', ns')) := hs
    simp only [q_new, q_nx] at hs
    split at hs
    · cases hs; exact ⟨by simp, by omega⟩
    · cases hs
  | newarray a =>
    replace hs : q_newa O r len f h ns = some (.inl (f', h', ns')) := hs
    simp only [q_newa, q_nx, cond_eq_ite] at hs
    repeat' split at hs
    all_goals cases hs
    all_goals exact ⟨by simp, by omega⟩
  | invokestatic i =>
    rcases r with _ | ⟨k, r⟩
    · replace hs : q_acpy O len f h ns = some (.inl (f', h', ns')) := hs
      simp only [q_acpy, q_nx, cond_eq_ite] at hs
      repeat' split at hs
      all_goals cases hs
      all_goals exact ⟨by rw [List.length_set]; exact Nat.le_refl _, Nat.le_refl _⟩
    · exact hinv _ _ hs
  | invokespecial i =>
    rcases r with _ | ⟨k, r⟩
    · replace hs : q_obj len f h ns = some (.inl (f', h', ns')) := hs
      simp only [q_obj, q_nx, cond_eq_ite] at hs
      repeat' split at hs
      all_goals cases hs
      all_goals exact ⟨Nat.le_refl _, Nat.le_refl _⟩
    · exact hinv _ _ hs
  | ireturn =>
    replace hs : q_iret O r f h ns = some (.inl (f', h', ns')) := hs
    simp only [q_iret, cond_eq_ite] at hs
    repeat' split at hs
    all_goals cases hs
  | lreturn =>
    replace hs : q_lret f h ns = some (.inl (f', h', ns')) := hs
    simp only [q_lret] at hs
    repeat' split at hs
    all_goals cases hs
  | return_ =>
    replace hs : q_ret f h ns = some (.inl (f', h', ns')) := hs
    simp only [q_ret] at hs
    repeat' split at hs
    all_goals cases hs
  | _ => cases hs
end
section
section QS6
variable {p : Program} {l : Launch} {e : Env} {R : Room} {s : State} {m : MethodId} {args : Array Value} {below : List Frame} {meth : Method} {c : Code} {S b : Nat} {D : va_G} {cA : Nat → ClassId} {cl : List vw_C} {nL : Nat} {own : String} {cc : ByteArray} {Ts : List Cond}
variable {f f' : q_F Int32} {h h' : q_H Int32} {ns ns' : Nat}
theorem q_act_ret (cx : q_CX p s m args c S D cA cl nL own cc Ts) (hlocks : meth.locks = false) {ret : Option FieldType} (hret : meth.sig.returnType = ret) {lt : q_LT} {ini : Bool} {cal : Nat → List (q_V Int32) → q_H Int32 → Nat → Option (q_R Int32)} {scr : Option (List Int32)} {v : Option (q_V Int32)}
    {ins : Jvm.ClassFile.Instr} {len : Nat} {r : List Nat} (hc : q_ck1 cl lt own cc nL ret ini f.1 (ins, len, r) = true) (hs : q_act q_O32 scr cal ins len r f h ns = some (.inr (v, h', ns'))) : h' = h ∧ ns' = ns ∧ ∀ (cells slots : Nat), q_G p l e R s m args below meth c S b D cA cl nL f h cells slots (MQ below (q_Qc S b D cA cl v h) args s cells slots (fun q => S ≤ q)) := by
  simp only [q_ck1, Bool.and_eq_true, decide_eq_true_eq] at hc
  obtain ⟨hd, hl0, hc⟩ := hc
  have hx := cx.1
  have hb := cx.2.1
  have hq : ∀ (v : Option (q_V Int32)) (H : Heap) (locs : List Loc), H.size = S + h.length → va_P D cl (q_ws S b cA h) H → va_S (fun q => S ≤ q) s.heap H locs → ∀ t : State, t.heap = H → s.WarmedH t.vm → q_Qc S b D cA cl v h args s (.returned (v.map (q_ren S b))) t :=
    fun v H locs hz hP hS t ht _ => ⟨rfl, by rw [ht]; exact hz, by rw [ht]; exact hP, hS.F ht⟩
  have hnx : ∀ {n : Nat} {st : List (q_V Int32)} {v : Option (q_V Int32)} {h2 h3 : q_H Int32} {n2 n3 : Nat}, ¬ q_nx n f st h2 n2 = some (.inr (v, h3, n3)) := fun hh => by cases hh
  cases ins with
  | ireturn =>
    replace hs : q_iret q_O32 r f h ns = some (.inr (v, h', ns')) := hs
    unfold q_iret at hs
    split at hs
    · next kd x hst =>
      cases hf : q_fit q_O32 kd (.inl x) with
      | false => rw [hf] at hs; cases hs
      | true =>
        rw [hf, cond_true] at hs
        cases hs
        refine ⟨rfl, rfl, fun cells slots H locs ls hz hP hS hl => ?_⟩
        rw [hst]
        have hc : (match ret with
          | some t => Nat.beq kd (q_kd t) && Nat.blt kd 2
          | none => false) = true := by
          cases ret with
          | none => cases hc
          | some t => exact hc
        cases ret with
        | none => cases hc
        | some t =>
          have hc : (Nat.beq kd (q_kd t) && Nat.blt kd 2) = true := hc
          rw [Bool.and_eq_true] at hc
          have e1 := q_beq hc.1
          subst e1
          exact W.zret hx hb hret (q_fit_ok (S := S) (b := b) hf).1 (hq (some (.inl x)) H locs hz hP hS) hS.2.2 hd hlocks
    · cases hs
  | lreturn =>
    replace hs : q_lret f h ns = some (.inr (v, h', ns')) := hs
    unfold q_lret at hs
    split at hs
    · next x hst =>
      cases hs
      refine ⟨rfl, rfl, fun cells slots H locs ls hz hP hS hl => ?_⟩
      rw [hst]
      have hc : ret = some .long := of_decide_eq_true hc
      exact W.lret hx hb (by rw [hret, hc]) (hq (some (.inr (.inl x))) H locs hz hP hS) hS.2.2 hd hlocks
    · cases hs
  | return_ =>
    replace hs : q_ret f h ns = some (.inr (v, h', ns')) := hs
    unfold q_ret at hs
    split at hs
    · next hst =>
      cases hs
      refine ⟨rfl, rfl, fun cells slots H locs ls hz hP hS hl => ?_⟩
      rw [hst]
      have hc : ret = none := of_decide_eq_true hc
      exact W.vret hx hb (by rw [hret, hc]) (hq none H locs hz hP hS) hS.2.2 hd hlocks
    · cases hs
  | _ => exact absurd hs (q_noret (by intro hh; cases hh) (by intro hh; cases hh) (by intro hh; cases hh))
end QS6
end
section
/-- a method's table is right: each entry is what its code holds there, linked as the words say -/
def q_TK1 (cl : List vw_C) (ty : Nat → Nat → FieldType) (Ts : List Cond) (ms : List q_M) (M : q_M) (t : q_T) : Prop :=
  plainName M.1.cls = true ∧ ∃ lt : q_LT, (∀ q ∈ lt, q_lok cl ty Ts ms M.1.cls q) ∧ ∀ (pc : Nat) (q : q_I), q_get t pc = some q → q.1 = .nop ∨ q_ck1 cl lt M.1.cls M.2.1 M.2.2.1 M.2.2.2.1 (decide (M.1.name = "<init>")) pc q = true
abbrev q_GH (cl : List vw_C) (ty : Nat → Nat → FieldType) (Ts : List Cond) (ms : List q_M) (ts : List q_T) : Prop :=
  q_CK cl ty Ts ∧ q_AK Ts ∧ GoodIn Ts Ts ∧ ts.length ≤ ms.length ∧ ∀ (k : Nat) (M : q_M) (t : q_T), ms[k]? = some M → ts[k]? = some t → q_TK1 cl ty Ts ms M t
theorem q_lgsl (S b : Nat) : ∀ a : List (q_V Int32), (lg_sl (a.map (q_ren S b))).length = q_cats a
  | [] => rfl
  | v :: a => by
    have ih := q_lgsl S b a
    simp only [lg_sl, List.map_cons, List.flatMap_cons, List.length_append] at ih ⊢
    rw [ih, q_cats, q_ren_cat]
    rcases v with x | y | n
    · rfl
    · rfl
    · rfl
theorem q_args_map (S b : Nat) : ∀ (a : List (q_V Int32)) (i : Nat), lv_args i (a.map (q_ren S b)) = (q_args i a).map (q_rl S b)
  | [], _ => rfl
  | v :: a, i => by
    show (i, q_ren S b v) :: lv_args (if (q_ren S b v).category = 2 then i + 2 else i + 1) (a.map (q_ren S b)) = (i, q_ren S b v) :: (q_args (bif Nat.beq (q_cat v) 2 then i + 2 else i + 1) a).map (q_rl S b)
    rw [q_args_map S b a, q_ren_cat]
    rcases v with x | y | n <;> rfl
/-- what a run of a method's frame gives -/
def q_EX (l : Launch) (cl : List vw_C) (Ts : List Cond) (d : Nat) (M : q_M) (f : q_F Int32) (h : q_H Int32) (ns : Nat) (v : Option (q_V Int32)) (h' : q_H Int32) (ns' : Nat) : Prop :=
  h.length ≤ h'.length ∧ ns ≤ ns' ∧ ∀ (p : Program) (e : Env) (R : Room) (s : State) (m : MethodId) (args : Array Value) (below : List Frame) (meth : Method) (c : Code) (S b : Nat) (D : va_G) (cA : Nat → ClassId) (cells slots : Nat),
    q_CX p s m args c S D cA cl M.2.2.1 M.1.cls M.2.1 Ts → meth.locks = false → meth.sig.returnType = M.2.2.2.1 → meth.name = M.1.name → d + 1 ≤ R.frames ∧ 60 * (d + 1) ≤ R.locals → s.heap.size + cells = S + h.length → cells + (h'.length - h.length) ≤ R.cells → slots + (ns' - ns) ≤ R.slots →
    q_G p l e R s m args below meth c S b D cA cl M.2.2.1 f h cells slots (MQ below (q_Qc S b D cA cl v h') args s (cells + (h'.length - h.length)) (slots + (ns' - ns)) (fun q => S ≤ q))
theorem q_met_of {l : Launch} {cl : List vw_C} {Ts : List Cond} {d : Nat} {M : q_M} {a : List (q_V Int32)} {h : q_H Int32} {ns : Nat} {v : Option (q_V Int32)} {h' : q_H Int32} {ns' : Nat} (hpl : plainName M.1.cls = true) (ha : q_cats a ≤ M.2.2.1) (hex : q_EX l cl Ts d M (0, q_args 0 a, []) h ns v h' ns') (S b : Nat) (D : va_G) (cA : Nat → ClassId) :
    Met l M.1 (.code M.1 M.2.1 M.2.2.1 M.2.2.2.1 :: Ts) (q_rm d (h'.length - h.length) (ns' - ns)) (q_Pc S b D cA cl a h) (q_Qc S b D cA cl v h') (h'.length - h.length) (ns' - ns) (fun q => S ≤ q) := by
  refine Met.ofW (cc := M.2.1) (maxL := M.2.2.1) (ret := M.2.2.2.1) hpl rfl ?_
  intro p e s m args below meth c s₁ B hml hv
  obtain ⟨rfl, hsz, hP, hK⟩ := hv
  have hts := atoms_spec (ws := .code M.1 M.2.1 M.2.2.1 M.2.2.2.1 :: Ts) B.pre
  have hown : s.vm.findClass M.1.cls = some m.cls := findClass_of_methodNamed B.named
  have hl := lv_entry (a.map (q_ren S b)) (n := M.2.2.1) (by rw [q_lgsl]; exact ha)
  rw [lg_entry_eq]
  rw [q_args_map] at hl
  have hS : va_S (fun q => S ≤ q) s.heap s.heap [] := va_S.rf
  have key := hex.2.2 p e (q_rm d (h'.length - h.length) (ns' - ns)) s m (a.map (q_ren S b)).toArray below meth c S b D cA 0 0 ⟨B.exec, B.bytes, hml, hown, fun w hw => hts w (List.mem_cons_of_mem _ hw), hK, by rw [hsz]; exact Nat.le_add_right _ _⟩ B.notSynchronized B.returns (name_of_methodNamed B.named B.method).1 ⟨Nat.le_refl _, Nat.le_refl _⟩ (by rw [hsz]; rfl) (by show 0 + _ ≤ _; rw [Nat.zero_add]; exact Nat.le_refl _) (by show 0 + _ ≤ _; rw [Nat.zero_add]; exact Nat.le_refl _) s.heap [] _ hsz hP hS hl
  rw [Nat.zero_add, Nat.zero_add] at key
  exact key
theorem q_step_inv {I : Type} {O : q_O I} {scr : Option (List I)} {cal : Nat → List (q_V I) → q_H I → Nat → Option (q_R I)} {t : q_T} {f : q_F I} {h : q_H I} {ns : Nat} {x : q_S I ⊕ q_R I} (hs : q_step O scr cal t f h ns = some x) : ∃ q, q_get t f.1 = some q ∧ q.1 ≠ .nop ∧ q_act O scr cal q.1 q.2.1 q.2.2 f h ns = some x := by
  unfold q_step at hs
  split at hs
  next q hq =>
    refine ⟨q, hq, fun hn => ?_, hs⟩
    rw [hn] at hs
    cases hs
  next => cases hs
theorem q_K.exec {l : Launch} {cl : List vw_C} {Ts : List Cond} {d : Nat} {M : q_M} {f f1 : q_F Int32} {h h1 : q_H Int32} {ns ns1 : Nat} {v : Option (q_V Int32)} {h' : q_H Int32} {ns' : Nat} (hk : ∀ (p : Program) (e : Env) (R : Room) (s : State) (m : MethodId) (args : Array Value) (below : List Frame) (meth : Method) (c : Code) (S b : Nat) (D : va_G) (cA : Nat → ClassId), q_CX p s m args c S D cA cl M.2.2.1 M.1.cls M.2.1 Ts → meth.name = M.1.name → d + 1 ≤ R.frames ∧ 60 * (d + 1) ≤ R.locals → q_K p l e R s m args below meth c S b D cA cl M.2.2.1 f h ns f1 h1 ns1) (hlen : h.length ≤ h1.length ∧ ns ≤ ns1) (hex : q_EX l cl Ts d M f1 h1 ns1 v h' ns') : q_EX l cl Ts d M f h ns v h' ns' := by
  obtain ⟨l1, l2⟩ := hlen
  obtain ⟨g1, g2, g3⟩ := hex
  refine ⟨Nat.le_trans l1 g1, Nat.le_trans l2 g2, fun p e R s m args below meth c S b D cA cells slots cx hlk hret hnm hR hcz hr1 hr2 => ?_⟩
  obtain ⟨-, -, k3⟩ := hk p e R s m args below meth c S b D cA cx hnm hR
  have e1 : cells + (h1.length - h.length) + (h'.length - h1.length) = cells + (h'.length - h.length) := by omega
  have e2 : slots + (ns1 - ns) + (ns' - ns1) = slots + (ns' - ns) := by omega
  refine k3 cells slots _ hcz (by omega) (by omega) ?_
  have key := g3 p e R s m args below meth c S b D cA (cells + (h1.length - h.length)) (slots + (ns1 - ns)) cx hlk hret hnm hR (by omega) (by omega) (by omega)
  rw [e1, e2] at key
  exact key
theorem q_exec_ok {l : Launch} {cl : List vw_C} {ty : Nat → Nat → FieldType} {Ts : List Cond} {ms : List q_M} {ts : List q_T} (G : q_GH cl ty Ts ms ts) : ∀ (n d k : Nat) (M : q_M) (t : q_T) (f : q_F Int32) (h : q_H Int32) (ns : Nat) (v : Option (q_V Int32)) (h' : q_H Int32) (ns' : Nat), ms[k]? = some M → ts[k]? = some t → q_exec q_O32 ts n d t f h ns = some (v, h', ns') → q_EX l cl Ts d M f h ns v h' ns' := by
  intro n
  induction n with
  | zero => intro d k M t f h ns v h' ns' _ _ hs; cases hs
  | succ n ih =>
    intro d k M t f h ns v h' ns' hM ht hs
    obtain ⟨hck, hak, hgood, hlen, hTK⟩ := id G
    obtain ⟨hpl, lt, hlt, htab⟩ := hTK k M t hM ht
    have hco : q_CO l cl Ts ms d (q_call q_O32 ts n d) := by
      intro k2 M2 a h2 ns2 v2 h2' ns2' hM2 ha hcal
      rcases d with _ | d
      · cases hcal
      · unfold q_call at hcal
        simp only at hcal
        split at hcal
        next t2 ht2 =>
          have hex := ih d k2 M2 t2 _ _ _ _ _ _ hM2 ht2 hcal
          exact ⟨by omega, hex.1, hex.2.1, fun S b D cA => q_met_of (hTK k2 M2 t2 hM2 ht2).1 ha hex S b D cA⟩
        next => cases hcal
    have hcl : ∀ k2 a h2 ns2 v2 h2' ns2', q_call q_O32 ts n d k2 a h2 ns2 = some (v2, h2', ns2') → h2.length ≤ h2'.length ∧ ns2 ≤ ns2' := by
      intro k2 a h2 ns2 v2 h2' ns2' hcal
      rcases d with _ | d
      · cases hcal
      · unfold q_call at hcal
        simp only at hcal
        split at hcal
        next t2 ht2 =>
          obtain ⟨M2, hM2⟩ : ∃ M2, ms[k2]? = some M2 := ⟨_, List.getElem?_eq_getElem (by have := (List.getElem?_eq_some_iff.mp ht2).1; omega)⟩
          have hex := ih d k2 M2 t2 _ _ _ _ _ _ hM2 ht2 hcal
          exact ⟨hex.1, hex.2.1⟩
        next => cases hcal
    rw [q_exec_succ] at hs
    split at hs
    next s1 hst =>
      obtain ⟨f1, h1, ns1⟩ := s1
      obtain ⟨q, hq, hnop, hact⟩ := q_step_inv hst
      have hc := (htab f.1 q hq).resolve_left hnop
      refine q_K.exec (fun p e R s m args below meth c S b D cA cx hnm hR => ?_) ?_ (ih d k M t f1 h1 ns1 v h' ns' hM ht hs)
      · exact q_act_ok cx hck hak hlt hco hgood hR (fun hi => by rw [hnm]; exact of_decide_eq_true hi) (fun xs hxs => by cases hxs) hc hact
      · exact q_act_len hcl hact
    next r hst =>
      cases hs
      obtain ⟨q, hq, hnop, hact⟩ := q_step_inv hst
      have hc := (htab f.1 q hq).resolve_left hnop
      obtain ⟨e1, e2⟩ := q_act_ret_same hact
      subst e1; subst e2
      refine ⟨Nat.le_refl _, Nat.le_refl _, fun p e R s m args below meth c S b D cA cells slots cx hlk hret hnm hR hcz hr1 hr2 => ?_⟩
      rw [Nat.sub_self, Nat.sub_self, Nat.add_zero, Nat.add_zero]
      exact (q_act_ret cx hlk hret hc hact).2.2 cells slots
    next => cases hs
end
section
/-! RUNS OVER OTHER INTS: where the ints of a run are names that d tells, and the operations keep to it, the told run is one of the machine's ints -/
def q_mV {A : Type} (d : A → Int32) : q_V A → q_V Int32
  | .inl a => .inl (d a)
  | .inr x => .inr x
def q_mU {A : Type} (d : A → Int32) (u : q_U A) : q_U Int32 := u.map (fun q => (q.1, q_mV d q.2))
def q_mC {A : Type} (d : A → Int32) (c : q_C A) : q_C Int32 := (c.1, c.2.1, q_mU d c.2.2)
def q_mH {A : Type} (d : A → Int32) (h : q_H A) : q_H Int32 := h.map (q_mC d)
def q_mL {A : Type} (d : A → Int32) (st : List (q_V A)) : List (q_V Int32) := st.map (q_mV d)
def q_mF {A : Type} (d : A → Int32) (f : q_F A) : q_F Int32 := (f.1, q_mU d f.2.1, q_mL d f.2.2)
def q_mS {A : Type} (d : A → Int32) (s : q_S A) : q_S Int32 := (q_mF d s.1, q_mH d s.2.1, s.2.2)
def q_mR {A : Type} (d : A → Int32) (r : q_R A) : q_R Int32 := (r.1.map (q_mV d), q_mH d r.2.1, r.2.2)
def q_mX {A : Type} (d : A → Int32) : q_S A ⊕ q_R A → q_S Int32 ⊕ q_R Int32
  | .inl s => .inl (q_mS d s)
  | .inr r => .inr (q_mR d r)
/-- the operations keep to what d tells -/
def q_Hm {A : Type} (O : q_O A) (d : A → Int32) : Prop :=
  (∀ c, d (O.1 c) = c) ∧ (∀ j a b z, O.2.1 j a b = some z → q_o2 j (d a) (d b) = some (d z)) ∧ (∀ j a z, O.2.2.1 j a = some z → q_o1 j (d a) = some (d z)) ∧ (∀ j a b t, O.2.2.2.1 j a b = some t → q_cm j (d a) (d b) = some t) ∧ (∀ a j, O.2.2.2.2.1 a = some j → q_ix (d a) = some j) ∧ (∀ a, O.2.2.2.2.2.1 a = true → q_ib (d a) = true) ∧ (∀ a v, O.2.2.2.2.2.2.1 a = some v → v = (d a).toInt) ∧ (∀ a v, O.2.2.2.2.2.2.2 a = some v → v = (d a).toInt64)
section SIM
variable {A : Type} {d : A → Int32} {O : q_O A}
theorem q_m_kind (v : q_V A) : q_kind (q_mV d v) = q_kind v := by
  rcases v with a | y | n
  · rfl
  · rfl
  · rcases n with _ | n <;> rfl
theorem q_m_cat (v : q_V A) : q_cat (q_mV d v) = q_cat v := by rcases v with a | y | n <;> rfl
theorem q_m_cats : ∀ st : List (q_V A), q_cats (q_mL d st) = q_cats st
  | [] => rfl
  | v :: st => by
    show q_cat (q_mV d v) + q_cats (q_mL d st) = _
    rw [q_m_cat, q_m_cats st]
    rfl
theorem q_m_at : ∀ (u : q_U A) (k : Nat), q_at (q_mU d u) k = (q_at u k).map (q_mV d)
  | [], _ => rfl
  | q :: u, k => by
    show (bif Nat.beq q.1 k then some (q_mV d q.2) else q_at (q_mU d u) k) = (bif Nat.beq q.1 k then some q.2 else q_at u k).map (q_mV d)
    rw [q_m_at u k]
    cases Nat.beq q.1 k <;> rfl
theorem q_m_filter (u : q_U A) (P : Nat × q_V A → Bool) (P' : Nat × q_V Int32 → Bool) (hP : ∀ q, P' (q.1, q_mV d q.2) = P q) : (q_mU d u).filter P' = q_mU d (u.filter P) := by
  unfold q_mU
  rw [List.filter_map]
  congr 1
  apply List.filter_congr
  intro q _
  exact hP q
theorem q_m_k1 (i : Nat) (q : Nat × q_V A) : q_keep1 i (q.1, q_mV d q.2) = q_keep1 i q := by simp only [q_keep1, q_m_cat]
theorem q_m_k2 (i : Nat) (q : Nat × q_V A) : q_keep2 i (q.1, q_mV d q.2) = q_keep2 i q := by simp only [q_keep2, q_m_cat]
theorem q_m_get (h : q_H A) (o : Nat) : (q_mH d h)[o]? = (h[o]?).map (q_mC d) := by simp [q_mH]
theorem q_m_set (h : q_H A) (o : Nat) (c : q_C A) : q_mH d (h.set o c) = (q_mH d h).set o (q_mC d c) := by simp [q_mH, List.map_set]
theorem q_m_len (h : q_H A) : (q_mH d h).length = h.length := by simp [q_mH]
theorem q_m_app (h : q_H A) (c : q_C A) : q_mH d (h ++ [c]) = q_mH d h ++ [q_mC d c] := by simp [q_mH]
theorem q_m_el (H : q_Hm O d) (q : q_C A) (i : Nat) : q_el q_O32 (q_mC d q) i = q_mV d (q_el O q i) := by
  unfold q_el
  rw [show (q_mC d q).2.2 = q_mU d q.2.2 from rfl, q_m_at, show (q_mC d q).1 = q.1 from rfl]
  cases q_at q.2.2 i with
  | some v => rfl
  | none =>
    show (bif Nat.beq q.1 103 then (.inr (.inl 0) : q_V Int32) else .inl 0) = q_mV d (bif Nat.beq q.1 103 then .inr (.inl 0) else .inl (O.1 0))
    cases Nat.beq q.1 103 with
    | true => rfl
    | false => exact congrArg Sum.inl (H.1 0).symm
theorem q_m_fit (H : q_Hm O d) {kd : Nat} {v : q_V A} (h : q_fit O kd v = true) : q_fit q_O32 kd (q_mV d v) = true := by
  rcases v with a | y | n
  · simp only [q_fit, Bool.or_eq_true, Bool.and_eq_true] at h
    show (Nat.beq kd 0 || (Nat.beq kd 1 && q_ib (d a))) = true
    rcases h with h | ⟨h1, h2⟩
    · rw [h]; rfl
    · rw [h1, H.2.2.2.2.2.1 a h2]; simp
  · exact h
  · exact h
theorem q_m_take : ∀ (n : Nat) (st acc : List (q_V A)), q_take n (q_mL d st) (q_mL d acc) = (q_take n st acc).map (fun q => (q_mL d q.1, q_mL d q.2))
  | 0, _, _ => rfl
  | n + 1, v :: st, acc => q_m_take n st (v :: acc)
  | _ + 1, [], _ => rfl
theorem q_m_args : ∀ (a : List (q_V A)) (i : Nat), q_args i (q_mL d a) = q_mU d (q_args i a)
  | [], _ => rfl
  | v :: a, i => by
    show (i, q_mV d v) :: q_args (bif Nat.beq (q_cat (q_mV d v)) 2 then i + 2 else i + 1) (q_mL d a) = (i, q_mV d v) :: q_mU d (q_args (bif Nat.beq (q_cat v) 2 then i + 2 else i + 1) a)
    rw [q_m_args a, q_m_cat]
theorem q_m_cpy (H : q_Hm O d) (q : q_C A) (sp dp : Nat) (u : q_U A) : ∀ n, q_cpy q_O32 (q_mC d q) sp dp n (q_mU d u) = q_mU d (q_cpy O q sp dp n u)
  | 0 => rfl
  | n + 1 => by
    show (dp + n, q_el q_O32 (q_mC d q) (sp + n)) :: q_cpy q_O32 (q_mC d q) sp dp n (q_mU d u) = _
    rw [q_m_cpy H q sp dp u n, q_m_el H]
    rfl
theorem q_m_df (H : q_Hm O d) (k : Nat) : q_mV d (q_df O k) = q_df q_O32 k := by
  unfold q_df
  split
  · rfl
  · rfl
  · exact congrArg Sum.inl (H.1 0)
theorem q_m_dfs (H : q_Hm O d) : ∀ (ks : List Nat) (i : Nat), q_mU d (q_dfs O i ks) = q_dfs q_O32 i ks
  | [], _ => rfl
  | k :: ks, i => by
    show (i, q_mV d (q_df O k)) :: q_mU d (q_dfs O (i + 1) ks) = _
    rw [q_m_df H, q_m_dfs H ks]
    rfl
theorem q_m_nx {n : Nat} {f : q_F A} {st : List (q_V A)} {h : q_H A} {ns : Nat} {x : q_S A ⊕ q_R A} (hs : q_nx n f st h ns = some x) : q_nx n (q_mF d f) (q_mL d st) (q_mH d h) ns = some (q_mX d x) := by
  cases hs
  rfl
theorem q_m_ld {t i len : Nat} {f : q_F A} {h : q_H A} {ns : Nat} {x : q_S A ⊕ q_R A} (hs : q_ld t i len f h ns = some x) : q_ld t i len (q_mF d f) (q_mH d h) ns = some (q_mX d x) := by
  unfold q_ld at hs ⊢
  rw [show (q_mF d f).2.1 = q_mU d f.2.1 from rfl, q_m_at]
  cases hv : q_at f.2.1 i with
  | none => rw [hv] at hs; cases hs
  | some v =>
    rw [hv] at hs
    simp only [Option.map_some, q_m_kind] at hs ⊢
    cases hb : Nat.beq (q_kind v) t with
    | false => rw [hb] at hs; cases hs
    | true =>
      rw [hb, cond_true] at hs
      rw [cond_true]
      exact q_m_nx hs
theorem q_m_st {t i len : Nat} {f : q_F A} {h : q_H A} {ns : Nat} {x : q_S A ⊕ q_R A} (hs : q_st t i len f h ns = some x) : q_st t i len (q_mF d f) (q_mH d h) ns = some (q_mX d x) := by
  obtain ⟨pc, u, st⟩ := f
  unfold q_st at hs ⊢
  rcases st with _ | ⟨v, st⟩
  · cases hs
  · show (bif Nat.beq (q_kind (q_mV d v)) t then some (.inl ((pc + len, (i, q_mV d v) :: (q_mU d u).filter (bif Nat.beq t 2 then q_keep2 i else q_keep1 i), q_mL d st), q_mH d h, ns)) else none) = some (q_mX d x)
    rw [q_m_kind]
    cases hb : Nat.beq (q_kind v) t with
    | false => simp only [hb] at hs; cases hs
    | true =>
      simp only [hb, cond_true] at hs
      cases hs
      rw [cond_true]
      cases Nat.beq t 2 with
      | true =>
        rw [cond_true, cond_true, q_m_filter u (q_keep2 i) (q_keep2 i) (q_m_k2 i)]
        rfl
      | false =>
        rw [cond_false, cond_false, q_m_filter u (q_keep1 i) (q_keep1 i) (q_m_k1 i)]
        rfl
theorem q_m_iinc (H : q_Hm O d) {i len : Nat} {n : Int} {f : q_F A} {h : q_H A} {ns : Nat} {x : q_S A ⊕ q_R A} (hs : q_iinc O i n len f h ns = some x) : q_iinc q_O32 i n len (q_mF d f) (q_mH d h) ns = some (q_mX d x) := by
  unfold q_iinc at hs ⊢
  rw [show (q_mF d f).2.1 = q_mU d f.2.1 from rfl, q_m_at]
  split at hs
  next a ha =>
    rw [ha]
    split at hs
    next y hy =>
      have h1 := H.2.1 _ _ _ _ hy
      rw [H.1] at h1
      show (match q_o2 0 (d a) (Int32.ofInt n) with
        | some y => some (.inl (((q_mF d f).1 + len, (i, .inl y) :: (q_mU d f.2.1).filter (q_keep1 i), (q_mF d f).2.2), q_mH d h, ns))
        | none => none) = some (q_mX d x)
      rw [h1]
      simp only
      cases hs
      rw [q_m_filter f.2.1 (q_keep1 i) (q_keep1 i) (q_m_k1 i)]
      rfl
    next => cases hs
  next => cases hs
theorem q_m_b2 (H : q_Hm O d) {j len : Nat} {f : q_F A} {h : q_H A} {ns : Nat} {x : q_S A ⊕ q_R A} (hs : q_b2 O j len f h ns = some x) : q_b2 q_O32 j len (q_mF d f) (q_mH d h) ns = some (q_mX d x) := by
  unfold q_b2 at hs ⊢
  split at hs
  next b a r hv =>
    rw [show (q_mF d f).2.2 = .inl (d b) :: .inl (d a) :: q_mL d r by show q_mL d f.2.2 = _; rw [hv]; rfl]
    split at hs
    next z hz =>
      have h1 : q_O32.2.1 j (d a) (d b) = some (d z) := H.2.1 _ _ _ _ hz
      simp only [h1]
      exact q_m_nx hs
    next => cases hs
  next => cases hs
theorem q_m_b1 (H : q_Hm O d) {j len : Nat} {f : q_F A} {h : q_H A} {ns : Nat} {x : q_S A ⊕ q_R A} (hs : q_b1 O j len f h ns = some x) : q_b1 q_O32 j len (q_mF d f) (q_mH d h) ns = some (q_mX d x) := by
  unfold q_b1 at hs ⊢
  split at hs
  next a r hv =>
    rw [show (q_mF d f).2.2 = .inl (d a) :: q_mL d r by show q_mL d f.2.2 = _; rw [hv]; rfl]
    split at hs
    next z hz =>
      have h1 : q_O32.2.2.1 j (d a) = some (d z) := H.2.2.1 _ _ _ hz
      simp only [h1]
      exact q_m_nx hs
    next => cases hs
  next => cases hs
theorem q_m_l2 {j len : Nat} {f : q_F A} {h : q_H A} {ns : Nat} {x : q_S A ⊕ q_R A} (hs : q_l2 j len f h ns = some x) : q_l2 j len (q_mF d f) (q_mH d h) ns = some (q_mX d x) := by
  unfold q_l2 at hs ⊢
  split at hs
  next b a r hv =>
    rw [show (q_mF d f).2.2 = .inr (.inl b) :: .inr (.inl a) :: q_mL d r by show q_mL d f.2.2 = _; rw [hv]; rfl]
    split at hs
    next z hz =>
      simp only [hz]
      exact q_m_nx hs
    next => cases hs
  next => cases hs
theorem q_m_lshl (H : q_Hm O d) {len : Nat} {f : q_F A} {h : q_H A} {ns : Nat} {x : q_S A ⊕ q_R A} (hs : q_lshl O len f h ns = some x) : q_lshl q_O32 len (q_mF d f) (q_mH d h) ns = some (q_mX d x) := by
  unfold q_lshl at hs ⊢
  split at hs
  next b a r hv =>
    rw [show (q_mF d f).2.2 = .inl (d b) :: .inr (.inl a) :: q_mL d r by show q_mL d f.2.2 = _; rw [hv]; rfl]
    split at hs
    next z hz =>
      have e := H.2.2.2.2.2.2.2 _ _ hz
      subst e
      exact q_m_nx hs
    next => cases hs
  next => cases hs
theorem q_m_i2l (H : q_Hm O d) {len : Nat} {f : q_F A} {h : q_H A} {ns : Nat} {x : q_S A ⊕ q_R A} (hs : q_i2l O len f h ns = some x) : q_i2l q_O32 len (q_mF d f) (q_mH d h) ns = some (q_mX d x) := by
  unfold q_i2l at hs ⊢
  split at hs
  next b r hv =>
    rw [show (q_mF d f).2.2 = .inl (d b) :: q_mL d r by show q_mL d f.2.2 = _; rw [hv]; rfl]
    split at hs
    next z hz =>
      have e := H.2.2.2.2.2.2.2 _ _ hz
      subst e
      exact q_m_nx hs
    next => cases hs
  next => cases hs
theorem q_m_lcmp (H : q_Hm O d) {len : Nat} {f : q_F A} {h : q_H A} {ns : Nat} {x : q_S A ⊕ q_R A} (hs : q_lcmp O len f h ns = some x) : q_lcmp q_O32 len (q_mF d f) (q_mH d h) ns = some (q_mX d x) := by
  unfold q_lcmp at hs ⊢
  split at hs
  next b a r hv =>
    rw [show (q_mF d f).2.2 = .inr (.inl b) :: .inr (.inl a) :: q_mL d r by show q_mL d f.2.2 = _; rw [hv]; rfl]
    have h1 := q_m_nx (d := d) hs
    rw [show q_mL d (.inl (O.1 (lg_cmp a b)) :: r) = .inl (lg_cmp a b) :: q_mL d r by show Sum.inl (d (O.1 _)) :: _ = _; rw [H.1]; rfl] at h1
    exact h1
  next => cases hs
theorem q_m_jmp {r : List Nat} {len : Nat} {t : Option Bool} {f : q_F A} {st : List (q_V A)} {h : q_H A} {ns : Nat} {x : q_S A ⊕ q_R A} (hs : q_jmp r len t f st h ns = some x) : q_jmp r len t (q_mF d f) (q_mL d st) (q_mH d h) ns = some (q_mX d x) := by
  unfold q_jmp at hs ⊢
  split at hs
  · cases hs; rfl
  · exact q_m_nx hs
  · cases hs
theorem q_jmp_t {r : List Nat} {len : Nat} {t : Option Bool} {f : q_F A} {st : List (q_V A)} {h : q_H A} {ns : Nat} {x : q_S A ⊕ q_R A} (hs : q_jmp r len t f st h ns = some x) : ∃ b, t = some b := by
  cases t with
  | none => cases hs
  | some b => exact ⟨b, rfl⟩
theorem q_m_if (H : q_Hm O d) {j : Nat} {r : List Nat} {len : Nat} {f : q_F A} {h : q_H A} {ns : Nat} {x : q_S A ⊕ q_R A} (hs : q_if O j r len f h ns = some x) : q_if q_O32 j r len (q_mF d f) (q_mH d h) ns = some (q_mX d x) := by
  unfold q_if at hs ⊢
  split at hs
  next a st hv =>
    rw [show (q_mF d f).2.2 = .inl (d a) :: q_mL d st by show q_mL d f.2.2 = _; rw [hv]; rfl]
    obtain ⟨b, hb⟩ := q_jmp_t hs
    have h1 := H.2.2.2.1 _ _ _ _ hb
    rw [H.1] at h1
    show q_jmp r len (q_cm j (d a) 0) (q_mF d f) (q_mL d st) (q_mH d h) ns = _
    rw [h1]
    rw [hb] at hs
    exact q_m_jmp hs
  next => cases hs
theorem q_m_ic (H : q_Hm O d) {j : Nat} {r : List Nat} {len : Nat} {f : q_F A} {h : q_H A} {ns : Nat} {x : q_S A ⊕ q_R A} (hs : q_ic O j r len f h ns = some x) : q_ic q_O32 j r len (q_mF d f) (q_mH d h) ns = some (q_mX d x) := by
  unfold q_ic at hs ⊢
  split at hs
  next b a st hv =>
    rw [show (q_mF d f).2.2 = .inl (d b) :: .inl (d a) :: q_mL d st by show q_mL d f.2.2 = _; rw [hv]; rfl]
    obtain ⟨t, ht⟩ := q_jmp_t hs
    have h1 := H.2.2.2.1 _ _ _ _ ht
    show q_jmp r len (q_cm j (d a) (d b)) (q_mF d f) (q_mL d st) (q_mH d h) ns = _
    rw [h1]
    rw [ht] at hs
    exact q_m_jmp hs
  next => cases hs
theorem q_m_tsw (H : q_Hm O d) {lo hi : Int} {r : List Nat} {f : q_F A} {h : q_H A} {ns : Nat} {x : q_S A ⊕ q_R A} (hs : q_tsw O lo hi r f h ns = some x) : q_tsw q_O32 lo hi r (q_mF d f) (q_mH d h) ns = some (q_mX d x) := by
  unfold q_tsw at hs ⊢
  split at hs
  next a st hv =>
    rw [show (q_mF d f).2.2 = .inl (d a) :: q_mL d st by show q_mL d f.2.2 = _; rw [hv]; rfl]
    split at hs
    next tg htg =>
      have hcm : ∀ (j : Nat) (c : Int32) (t : Bool), O.2.2.2.1 j a (O.1 c) = some t → q_O32.2.2.2.1 j (d a) (q_O32.1 c) = some t := by
        intro j c t ht
        have h1 := H.2.2.2.1 _ _ _ _ ht
        rw [H.1] at h1
        exact h1
      cases hs
      split at htg
      next h1 =>
        simp only [hcm 2 _ _ h1, htg]
        rfl
      next h1 h2 =>
        simp only [hcm 2 _ _ h1, hcm 4 _ _ h2, htg]
        rfl
      next h1 h2 =>
        split at htg
        next v hv2 =>
          have e := H.2.2.2.2.2.2.1 _ _ hv2
          subst e
          have h3 : q_O32.2.2.2.2.2.2.1 (d a) = some (d a).toInt := rfl
          simp only [hcm 2 _ _ h1, hcm 4 _ _ h2, h3, htg]
          rfl
        next => cases htg
      next => cases htg
    next => cases hs
  next => cases hs
end SIM
end
section
section SIM2
variable {A : Type} {d : A → Int32} {O : q_O A}
theorem q_m_getf {r : List Nat} {len : Nat} {f : q_F A} {h : q_H A} {ns : Nat} {x : q_S A ⊕ q_R A} (hs : q_getf r len f h ns = some x) : q_getf r len (q_mF d f) (q_mH d h) ns = some (q_mX d x) := by
  unfold q_getf at hs ⊢
  split at hs
  next ci k y o st hv =>
    rw [show (q_mF d f).2.2 = .inr (.inr (o + 2)) :: q_mL d st by show q_mL d f.2.2 = _; rw [hv]; rfl]
    simp only [q_m_get]
    split at hs
    next q hq =>
      rw [hq]
      simp only [Option.map_some, show (q_mC d q).1 = q.1 from rfl, show (q_mC d q).2.1 = q.2.1 from rfl, show (q_mC d q).2.2 = q_mU d q.2.2 from rfl, q_m_at]
      cases hb : Nat.beq q.1 ci && Nat.blt k q.2.1 with
      | false => rw [hb] at hs; cases hs
      | true =>
        rw [hb, cond_true] at hs
        rw [cond_true]
        split at hs
        next v hat =>
          rw [hat]
          exact q_m_nx hs
        next => cases hs
    next => cases hs
  next => cases hs
theorem q_m_putf (H : q_Hm O d) {r : List Nat} {len : Nat} {f : q_F A} {h : q_H A} {ns : Nat} {x : q_S A ⊕ q_R A} (hs : q_putf O r len f h ns = some x) : q_putf q_O32 r len (q_mF d f) (q_mH d h) ns = some (q_mX d x) := by
  unfold q_putf at hs ⊢
  split at hs
  next ci k kd y v o st hv =>
    rw [show (q_mF d f).2.2 = q_mV d v :: .inr (.inr (o + 2)) :: q_mL d st by show q_mL d f.2.2 = _; rw [hv]; rfl]
    simp only [q_m_get]
    split at hs
    next q hq =>
      rw [hq]
      show (bif Nat.beq q.1 ci && (Nat.blt k q.2.1 && q_fit q_O32 kd (q_mV d v)) then q_nx len (q_mF d f) (q_mL d st) ((q_mH d h).set o (q.1, q.2.1, (k, q_mV d v) :: q_mU d q.2.2)) ns else none) = some (q_mX d x)
      cases hb : Nat.beq q.1 ci && (Nat.blt k q.2.1 && q_fit O kd v) with
      | false => rw [hb] at hs; cases hs
      | true =>
        rw [hb, cond_true] at hs
        simp only [Bool.and_eq_true] at hb
        rw [hb.1, hb.2.1, q_m_fit H hb.2.2]
        have h1 := q_m_nx (d := d) hs
        rw [q_m_set] at h1
        exact h1
    next => cases hs
  next => cases hs
theorem q_m_ald (H : q_Hm O d) {scr : Option (List A)} {tag kd len : Nat} {f : q_F A} {h : q_H A} {ns : Nat} {x : q_S A ⊕ q_R A} (hs : q_ald O scr tag kd len f h ns = some x) : q_ald q_O32 (scr.map (fun l => l.map d)) tag kd len (q_mF d f) (q_mH d h) ns = some (q_mX d x) := by
  unfold q_ald at hs ⊢
  split at hs
  next i o st hv =>
    rw [show (q_mF d f).2.2 = .inl (d i) :: .inr (.inr (o + 2)) :: q_mL d st by show q_mL d f.2.2 = _; rw [hv]; rfl]
    simp only [q_m_get]
    split at hs
    next q j hq hj =>
      have h1 : q_O32.2.2.2.2.1 (d i) = some j := H.2.2.2.2.1 _ _ hj
      rw [hq]
      simp only [h1, Option.map_some, q_m_el H, q_m_kind, show (q_mC d q).1 = q.1 from rfl, show (q_mC d q).2.1 = q.2.1 from rfl]
      cases hb : (Nat.beq q.1 tag || (Nat.beq tag 101 && Nat.beq q.1 102)) && (Nat.blt j q.2.1 && Nat.beq (q_kind (q_el O q j)) kd) with
      | false => rw [hb] at hs; cases hs
      | true =>
        rw [hb, cond_true] at hs
        rw [cond_true]
        exact q_m_nx hs
    next => cases hs
  next i st hv =>
    rw [show (q_mF d f).2.2 = .inl (d i) :: .inr (.inr 1) :: q_mL d st by show q_mL d f.2.2 = _; rw [hv]; rfl]
    split at hs
    next xs j hj =>
      have h1 : q_O32.2.2.2.2.1 (d i) = some j := H.2.2.2.2.1 _ _ hj
      split at hs
      next a ha =>
        simp only [h1, Option.map_some, List.getElem?_map, ha]
        cases hb : Nat.beq tag 100 with
        | false => rw [hb] at hs; cases hs
        | true =>
          rw [hb, cond_true] at hs
          rw [cond_true]
          exact q_m_nx hs
      next => cases hs
    next => cases hs
  next => cases hs
theorem q_m_kp (H : q_Hm O d) {tag : Nat} {v w : q_V A} (hs : q_kp O tag v = some w) : q_kp q_O32 tag (q_mV d v) = some (q_mV d w) := by
  rcases v with a | y | n
  · unfold q_kp at hs ⊢
    show (bif Nat.beq tag 100 then some (.inl (d a)) else bif Nat.beq tag 101 then (match q_O32.2.2.1 1 (d a) with
      | some y => some (.inl y)
      | none => none) else bif Nat.beq tag 102 && q_O32.2.2.2.2.2.1 (d a) then some (.inl (d a)) else none) = some (q_mV d w)
    cases h1 : Nat.beq tag 100 with
    | true => simp only [h1, cond_true] at hs; cases hs; rfl
    | false =>
      simp only [h1, cond_false] at hs
      cases h2 : Nat.beq tag 101 with
      | true =>
        simp only [h2, cond_true] at hs
        rw [cond_false, cond_true]
        split at hs
        next z hz =>
          have h3 : q_O32.2.2.1 1 (d a) = some (d z) := H.2.2.1 _ _ _ hz
          rw [h3]
          cases hs
          rfl
        next => cases hs
      | false =>
        simp only [h2, cond_false] at hs
        cases h3 : Nat.beq tag 102 && O.2.2.2.2.2.1 a with
        | false => simp only [h3] at hs; cases hs
        | true =>
          simp only [h3, cond_true] at hs
          simp only [Bool.and_eq_true] at h3
          have h4 : q_O32.2.2.2.2.2.1 (d a) = true := H.2.2.2.2.2.1 _ h3.2
          rw [h3.1, h4]
          cases hs
          rfl
  · unfold q_kp at hs ⊢
    show (bif Nat.beq tag 103 then some (.inr (.inl y)) else none) = some (q_mV d w)
    cases h1 : Nat.beq tag 103 with
    | true => simp only [h1, cond_true] at hs; cases hs; rfl
    | false => simp only [h1] at hs; cases hs
  · cases hs
theorem q_m_ast (H : q_Hm O d) {tag len : Nat} {f : q_F A} {h : q_H A} {ns : Nat} {x : q_S A ⊕ q_R A} (hs : q_ast O tag len f h ns = some x) : q_ast q_O32 tag len (q_mF d f) (q_mH d h) ns = some (q_mX d x) := by
  unfold q_ast at hs ⊢
  split at hs
  next v i o st hv =>
    rw [show (q_mF d f).2.2 = q_mV d v :: .inl (d i) :: .inr (.inr (o + 2)) :: q_mL d st by show q_mL d f.2.2 = _; rw [hv]; rfl]
    simp only [q_m_get]
    split at hs
    next q j hq hj =>
      have h1 : q_O32.2.2.2.2.1 (d i) = some j := H.2.2.2.2.1 _ _ hj
      rw [hq]
      simp only [h1, Option.map_some, show (q_mC d q).1 = q.1 from rfl, show (q_mC d q).2.1 = q.2.1 from rfl]
      cases hb : (Nat.beq q.1 tag || (Nat.beq tag 101 && Nat.beq q.1 102)) && Nat.blt j q.2.1 with
      | false => rw [hb] at hs; cases hs
      | true =>
        rw [hb, cond_true] at hs
        rw [cond_true]
        split at hs
        next w hw =>
          rw [q_m_kp H hw]
          have h1 := q_m_nx (d := d) hs
          rw [q_m_set] at h1
          exact h1
        next => cases hs
    next => cases hs
  next => cases hs
theorem q_m_alen (H : q_Hm O d) {scr : Option (List A)} {len : Nat} {f : q_F A} {h : q_H A} {ns : Nat} {x : q_S A ⊕ q_R A} (hs : q_alen O scr len f h ns = some x) : q_alen q_O32 (scr.map (fun l => l.map d)) len (q_mF d f) (q_mH d h) ns = some (q_mX d x) := by
  unfold q_alen at hs ⊢
  split at hs
  next o st hv =>
    rw [show (q_mF d f).2.2 = .inr (.inr (o + 2)) :: q_mL d st by show q_mL d f.2.2 = _; rw [hv]; rfl]
    simp only [q_m_get]
    split at hs
    next q hq =>
      rw [hq]
      simp only [Option.map_some, show (q_mC d q).1 = q.1 from rfl, show (q_mC d q).2.1 = q.2.1 from rfl]
      cases hb : Nat.blt 99 q.1 && Nat.blt q.1 104 with
      | false => rw [hb] at hs; cases hs
      | true =>
        rw [hb, cond_true] at hs
        rw [cond_true]
        have h1 := q_m_nx (d := d) hs
        rw [show q_mL d (.inl (O.1 (Int32.ofNat q.2.1)) :: st) = .inl (Int32.ofNat q.2.1) :: q_mL d st by show Sum.inl (d (O.1 _)) :: _ = _; rw [H.1]; rfl] at h1
        exact h1
    next => cases hs
  next st hv =>
    rw [show (q_mF d f).2.2 = .inr (.inr 1) :: q_mL d st by show q_mL d f.2.2 = _; rw [hv]; rfl]
    split at hs
    next xs =>
      simp only [Option.map_some, List.length_map]
      have h1 := q_m_nx (d := d) hs
      rw [show q_mL d (.inl (O.1 (Int32.ofNat xs.length)) :: st) = .inl (Int32.ofNat xs.length) :: q_mL d st by show Sum.inl (d (O.1 _)) :: _ = _; rw [H.1]; rfl] at h1
      exact h1
    next => cases hs
  next => cases hs
theorem q_m_dup {len : Nat} {f : q_F A} {h : q_H A} {ns : Nat} {x : q_S A ⊕ q_R A} (hs : q_dup len f h ns = some x) : q_dup len (q_mF d f) (q_mH d h) ns = some (q_mX d x) := by
  unfold q_dup at hs ⊢
  split at hs
  next v st hv =>
    rw [show (q_mF d f).2.2 = q_mV d v :: q_mL d st by show q_mL d f.2.2 = _; rw [hv]; rfl]
    simp only [q_m_cat]
    cases hb : Nat.beq (q_cat v) 1 with
    | false => rw [hb] at hs; cases hs
    | true => rw [hb, cond_true] at hs; rw [cond_true]; exact q_m_nx hs
  next => cases hs
theorem q_m_pop {len : Nat} {f : q_F A} {h : q_H A} {ns : Nat} {x : q_S A ⊕ q_R A} (hs : q_pop len f h ns = some x) : q_pop len (q_mF d f) (q_mH d h) ns = some (q_mX d x) := by
  unfold q_pop at hs ⊢
  split at hs
  next v st hv =>
    rw [show (q_mF d f).2.2 = q_mV d v :: q_mL d st by show q_mL d f.2.2 = _; rw [hv]; rfl]
    simp only [q_m_cat]
    cases hb : Nat.beq (q_cat v) 1 with
    | false => rw [hb] at hs; cases hs
    | true => rw [hb, cond_true] at hs; rw [cond_true]; exact q_m_nx hs
  next => cases hs
theorem q_m_dup2 {len : Nat} {f : q_F A} {h : q_H A} {ns : Nat} {x : q_S A ⊕ q_R A} (hs : q_dup2 len f h ns = some x) : q_dup2 len (q_mF d f) (q_mH d h) ns = some (q_mX d x) := by
  unfold q_dup2 at hs ⊢
  split at hs
  next v w st hv =>
    rw [show (q_mF d f).2.2 = q_mV d v :: q_mV d w :: q_mL d st by show q_mL d f.2.2 = _; rw [hv]; rfl]
    simp only [q_m_cat]
    cases hb : Nat.beq (q_cat v) 1 && Nat.beq (q_cat w) 1 with
    | false => rw [hb] at hs; cases hs
    | true => rw [hb, cond_true] at hs; rw [cond_true]; exact q_m_nx hs
  next => cases hs
theorem q_m_new (H : q_Hm O d) {r : List Nat} {len : Nat} {f : q_F A} {h : q_H A} {ns : Nat} {x : q_S A ⊕ q_R A} (hs : q_new O r len f h ns = some x) : q_new q_O32 r len (q_mF d f) (q_mH d h) ns = some (q_mX d x) := by
  unfold q_new at hs ⊢
  split at hs
  next ci ks =>
    have h1 := q_m_nx (d := d) hs
    rw [q_m_app, show q_mC d (ci, ks.length, q_dfs O 0 ks) = (ci, ks.length, q_mU d (q_dfs O 0 ks)) from rfl, q_m_dfs H] at h1
    simp only [q_m_len]
    exact h1
  next => cases hs
theorem q_m_newa (H : q_Hm O d) {r : List Nat} {len : Nat} {f : q_F A} {h : q_H A} {ns : Nat} {x : q_S A ⊕ q_R A} (hs : q_newa O r len f h ns = some x) : q_newa q_O32 r len (q_mF d f) (q_mH d h) ns = some (q_mX d x) := by
  unfold q_newa at hs ⊢
  split at hs
  next tag n st hv =>
    rw [show (q_mF d f).2.2 = .inl (d n) :: q_mL d st by show q_mL d f.2.2 = _; rw [hv]; rfl]
    split at hs
    next N hN =>
      have h1 : q_O32.2.2.2.2.1 (d n) = some N := H.2.2.2.2.1 _ _ hN
      simp only [h1]
      cases hb : Nat.blt N 65536 with
      | false => rw [hb] at hs; cases hs
      | true =>
        rw [hb, cond_true] at hs
        rw [cond_true]
        have h2 := q_m_nx (d := d) hs
        rw [q_m_app] at h2
        simp only [q_m_len]
        exact h2
    next => cases hs
  next => cases hs
theorem q_m_acpy (H : q_Hm O d) {len : Nat} {f : q_F A} {h : q_H A} {ns : Nat} {x : q_S A ⊕ q_R A} (hs : q_acpy O len f h ns = some x) : q_acpy q_O32 len (q_mF d f) (q_mH d h) ns = some (q_mX d x) := by
  unfold q_acpy at hs ⊢
  split at hs
  next n dp q sp o st hv =>
    rw [show (q_mF d f).2.2 = .inl (d n) :: .inl (d dp) :: .inr (.inr (q + 2)) :: .inl (d sp) :: .inr (.inr (o + 2)) :: q_mL d st by show q_mL d f.2.2 = _; rw [hv]; rfl]
    simp only [q_m_get]
    split at hs
    next qs qd n' dp' sp' hqs hqd hn hdp hsp =>
      have h1 : q_O32.2.2.2.2.1 (d n) = some n' := H.2.2.2.2.1 _ _ hn
      have h2 : q_O32.2.2.2.2.1 (d dp) = some dp' := H.2.2.2.2.1 _ _ hdp
      have h3 : q_O32.2.2.2.2.1 (d sp) = some sp' := H.2.2.2.2.1 _ _ hsp
      rw [hqs, hqd]
      simp only [h1, h2, h3, Option.map_some, show (q_mC d qs).1 = qs.1 from rfl, show (q_mC d qd).1 = qd.1 from rfl, show (q_mC d qs).2.1 = qs.2.1 from rfl, show (q_mC d qd).2.1 = qd.2.1 from rfl, show (q_mC d qd).2.2 = q_mU d qd.2.2 from rfl, q_m_cats, q_m_cpy H]
      cases hb : Nat.beq qs.1 100 && (Nat.beq qd.1 100 && (Nat.ble (sp' + n') qs.2.1 && (Nat.ble (dp' + n') qd.2.1 && Nat.ble (q_cats st) 8))) with
      | false => rw [hb] at hs; cases hs
      | true =>
        rw [hb, cond_true] at hs
        rw [cond_true]
        have h4 := q_m_nx (d := d) hs
        rw [q_m_set] at h4
        exact h4
    next => cases hs
  next => cases hs
theorem q_m_may {sv : Nat} {y : List Nat} {a : List (q_V A)} {h : q_H A} : q_may sv y (q_mL d a) (q_mH d h) = q_may sv y a h := by
  rcases sv with _ | _ | _ | sv
  · rfl
  · rcases a with _ | ⟨v | v | n, r⟩
    · rfl
    · rfl
    · rfl
    · rcases n with _ | _ | o
      · rfl
      · rfl
      · show q_mayV y ((q_mH d h)[o]?) = q_mayV y (h[o]?)
        rw [q_m_get]
        cases h[o]? with
        | none => rfl
        | some q => rcases y with _ | ⟨ci, _ | _⟩ <;> rfl
  · rcases a with _ | ⟨v | v | n, r⟩
    · rfl
    · rfl
    · rfl
    · rcases n with _ | _ | o <;> rfl
  · rfl
theorem q_m_inv {cal : Nat → List (q_V A) → q_H A → Nat → Option (q_R A)} {cal' : Nat → List (q_V Int32) → q_H Int32 → Nat → Option (q_R Int32)} (hcal : ∀ k a h ns r, cal k a h ns = some r → cal' k (q_mL d a) (q_mH d h) ns = some (q_mR d r)) {sv : Nat} {r : List Nat} {len : Nat} {f : q_F A} {h : q_H A} {ns : Nat} {x : q_S A ⊕ q_R A} (hs : q_inv cal sv r len f h ns = some x) : q_inv cal' sv r len (q_mF d f) (q_mH d h) ns = some (q_mX d x) := by
  unfold q_inv at hs ⊢
  split at hs
  next k na ml y =>
    have h1 := q_m_take (d := d) na f.2.2 []
    split at hs
    next a st htk =>
      rw [htk] at h1
      have h1' : q_take na (q_mF d f).2.2 [] = some (q_mL d a, q_mL d st) := h1
      simp only [h1', q_m_cats, q_m_may]
      cases hb : Nat.ble (q_cats st) 8 && (Nat.ble (q_cats a) ml && q_may sv y a h) with
      | false => rw [hb] at hs; cases hs
      | true =>
        rw [hb, cond_true] at hs
        rw [cond_true]
        split at hs
        next v h2 ns2 hc =>
          rw [hcal _ _ _ _ _ hc]
          have h3 := q_m_nx (d := d) hs
          have e3 : (v.map (q_mV d)).toList ++ q_mL d st = q_mL d (v.toList ++ st) := by cases v <;> rfl
          show q_nx len (q_mF d f) ((v.map (q_mV d)).toList ++ q_mL d st) (q_mH d h2) ns2 = _
          rw [e3]
          cases hs
          rfl
        next => cases hs
    next => cases hs
  next => cases hs
theorem q_m_obj {len : Nat} {f : q_F A} {h : q_H A} {ns : Nat} {x : q_S A ⊕ q_R A} (hs : q_obj len f h ns = some x) : q_obj len (q_mF d f) (q_mH d h) ns = some (q_mX d x) := by
  unfold q_obj at hs ⊢
  split at hs
  next o st hv =>
    rw [show (q_mF d f).2.2 = .inr (.inr (o + 2)) :: q_mL d st by show q_mL d f.2.2 = _; rw [hv]; rfl]
    simp only [q_m_cats]
    cases hb : Nat.ble (q_cats st) 8 with
    | false => rw [hb] at hs; cases hs
    | true => rw [hb, cond_true] at hs; rw [cond_true]; exact q_m_nx hs
  next => cases hs
theorem q_m_iret (H : q_Hm O d) {r : List Nat} {f : q_F A} {h : q_H A} {ns : Nat} {x : q_S A ⊕ q_R A} (hs : q_iret O r f h ns = some x) : q_iret q_O32 r (q_mF d f) (q_mH d h) ns = some (q_mX d x) := by
  unfold q_iret at hs ⊢
  split at hs
  next kd a hv =>
    rw [show (q_mF d f).2.2 = [.inl (d a)] by show q_mL d f.2.2 = _; rw [hv]; rfl]
    cases hb : q_fit O kd (.inl a) with
    | false => rw [hb] at hs; cases hs
    | true =>
      rw [hb, cond_true] at hs
      have h1 : q_fit q_O32 kd (.inl (d a)) = true := q_m_fit H hb
      simp only [h1, cond_true]
      cases hs
      rfl
  next => cases hs
theorem q_m_lret {f : q_F A} {h : q_H A} {ns : Nat} {x : q_S A ⊕ q_R A} (hs : q_lret f h ns = some x) : q_lret (q_mF d f) (q_mH d h) ns = some (q_mX d x) := by
  unfold q_lret at hs ⊢
  split at hs
  next y hv =>
    rw [show (q_mF d f).2.2 = [.inr (.inl y)] by show q_mL d f.2.2 = _; rw [hv]; rfl]
    cases hs
    rfl
  next => cases hs
theorem q_m_ret {f : q_F A} {h : q_H A} {ns : Nat} {x : q_S A ⊕ q_R A} (hs : q_ret f h ns = some x) : q_ret (q_mF d f) (q_mH d h) ns = some (q_mX d x) := by
  unfold q_ret at hs ⊢
  split at hs
  next hv =>
    rw [show (q_mF d f).2.2 = [] by show q_mL d f.2.2 = _; rw [hv]; rfl]
    cases hs
    rfl
  next => cases hs
theorem q_m_k (H : q_Hm O d) {len : Nat} {c : Int32} {f : q_F A} {st : List (q_V A)} {h : q_H A} {ns : Nat} {x : q_S A ⊕ q_R A} (hs : q_nx len f (.inl (O.1 c) :: st) h ns = some x) : q_nx len (q_mF d f) (.inl c :: q_mL d st) (q_mH d h) ns = some (q_mX d x) := by
  have h1 := q_m_nx (d := d) hs
  rw [show q_mL d (.inl (O.1 c) :: st) = .inl c :: q_mL d st by show Sum.inl (d (O.1 _)) :: _ = _; rw [H.1]; rfl] at h1
  exact h1
theorem q_m_act (H : q_Hm O d) {scr : Option (List A)} {cal : Nat → List (q_V A) → q_H A → Nat → Option (q_R A)} {cal' : Nat → List (q_V Int32) → q_H Int32 → Nat → Option (q_R Int32)} (hcal : ∀ k a h ns r, cal k a h ns = some r → cal' k (q_mL d a) (q_mH d h) ns = some (q_mR d r)) {ins : Jvm.ClassFile.Instr} {len : Nat} {r : List Nat} {f : q_F A} {h : q_H A} {ns : Nat} {x : q_S A ⊕ q_R A} (hs : q_act O scr cal ins len r f h ns = some x) : q_act q_O32 (scr.map (fun l => l.map d)) cal' ins len r (q_mF d f) (q_mH d h) ns = some (q_mX d x) := by
  cases ins with
  | aload_n k => exact q_m_ld hs
  | aload k => exact q_m_ld hs
  | iload_n k => exact q_m_ld hs
  | iload k => exact q_m_ld hs
  | lload_n k => exact q_m_ld hs
  | lload k => exact q_m_ld hs
  | astore_n k => exact q_m_st hs
  | astore k => exact q_m_st hs
  | istore_n k => exact q_m_st hs
  | istore k => exact q_m_st hs
  | lstore_n k => exact q_m_st hs
  | lstore k => exact q_m_st hs
  | iinc i n => exact q_m_iinc H hs
  | iconst n => exact q_m_k H hs
  | bipush n => exact q_m_k H hs
  | sipush n => exact q_m_k H hs
  | lconst n => exact q_m_nx hs
  | ldc i =>
    rcases r with _ | ⟨v, _ | _⟩
    · cases hs
    · exact q_m_k H hs
    · cases hs
  | ldc_w i =>
    rcases r with _ | ⟨v, _ | _⟩
    · cases hs
    · exact q_m_k H hs
    · cases hs
  | ldc2_w i =>
    rcases r with _ | ⟨v, _ | _⟩
    · cases hs
    · exact q_m_nx hs
    · cases hs
  | iadd => exact q_m_b2 H (j := 0) hs
  | isub => exact q_m_b2 H (j := 1) hs
  | imul => exact q_m_b2 H (j := 2) hs
  | iand => exact q_m_b2 H (j := 3) hs
  | ior => exact q_m_b2 H (j := 4) hs
  | ixor => exact q_m_b2 H (j := 5) hs
  | ishl => exact q_m_b2 H (j := 6) hs
  | ishr => exact q_m_b2 H (j := 7) hs
  | iushr => exact q_m_b2 H (j := 8) hs
  | idiv => exact q_m_b2 H (j := 9) hs
  | irem => exact q_m_b2 H (j := 10) hs
  | ineg => exact q_m_b1 H (j := 0) hs
  | i2b => exact q_m_b1 H (j := 1) hs
  | i2c => exact q_m_b1 H (j := 2) hs
  | i2l => exact q_m_i2l H hs
  | ladd => exact q_m_l2 (j := 0) hs
  | lmul => exact q_m_l2 (j := 1) hs
  | lor => exact q_m_l2 (j := 2) hs
  | lshl => exact q_m_lshl H hs
  | lcmp => exact q_m_lcmp H hs
  | dup => exact q_m_dup hs
  | dup2 => exact q_m_dup2 hs
  | pop => exact q_m_pop hs
  | ifCond cd off => exact q_m_if H hs
  | if_icmp cd off => exact q_m_ic H hs
  | goto off =>
    rcases r with _ | ⟨tg, _ | _⟩
    · cases hs
    · cases hs; rfl
    · cases hs
  | tableswitch dflt lo hi offs => exact q_m_tsw H hs
  | getfield i => exact q_m_getf hs
  | putfield i => exact q_m_putf H hs
  | iaload => exact q_m_ald H hs
  | baload => exact q_m_ald H hs
  | laload => exact q_m_ald H hs
  | iastore => exact q_m_ast H hs
  | bastore => exact q_m_ast H hs
  | lastore => exact q_m_ast H hs
  | arraylength => exact q_m_alen H hs
  | new i => exact q_m_new H hs
  | newarray a => exact q_m_newa H hs
  | invokevirtual i => exact q_m_inv hcal hs
  | invokestatic i =>
    rcases r with _ | ⟨k, r⟩
    · exact q_m_acpy H hs
    · exact q_m_inv hcal hs
  | invokespecial i =>
    rcases r with _ | ⟨k, r⟩
    · exact q_m_obj hs
    · exact q_m_inv hcal hs
  | ireturn => exact q_m_iret H hs
  | lreturn => exact q_m_lret hs
  | return_ => exact q_m_ret hs
  | _ => cases hs
theorem q_m_step (H : q_Hm O d) {scr : Option (List A)} {cal : Nat → List (q_V A) → q_H A → Nat → Option (q_R A)} {cal' : Nat → List (q_V Int32) → q_H Int32 → Nat → Option (q_R Int32)} (hcal : ∀ k a h ns r, cal k a h ns = some r → cal' k (q_mL d a) (q_mH d h) ns = some (q_mR d r)) {t : q_T} {f : q_F A} {h : q_H A} {ns : Nat} {x : q_S A ⊕ q_R A} (hs : q_step O scr cal t f h ns = some x) : q_step q_O32 (scr.map (fun l => l.map d)) cal' t (q_mF d f) (q_mH d h) ns = some (q_mX d x) := by
  unfold q_step at hs ⊢
  rw [show (q_mF d f).1 = f.1 from rfl]
  split at hs
  next q hq =>
    exact q_m_act H hcal hs
  next => cases hs
theorem q_m_exec (H : q_Hm O d) (ts : List q_T) : ∀ (n dp : Nat) (t : q_T) (f : q_F A) (h : q_H A) (ns : Nat) (r : q_R A), q_exec O ts n dp t f h ns = some r → q_exec q_O32 ts n dp t (q_mF d f) (q_mH d h) ns = some (q_mR d r) := by
  intro n
  induction n with
  | zero => intro dp t f h ns r hs; cases hs
  | succ n ih =>
    intro dp t f h ns r hs
    have hcal : ∀ k a h ns r, q_call O ts n dp k a h ns = some r → q_call q_O32 ts n dp k (q_mL d a) (q_mH d h) ns = some (q_mR d r) := by
      intro k a h ns r hc
      rcases dp with _ | dp
      · cases hc
      · unfold q_call at hc ⊢
        simp only at hc ⊢
        split at hc
        next t2 ht2 =>
          have h1 := ih dp t2 (0, q_args 0 a, []) h ns r hc
          rw [show q_mF d (0, q_args 0 a, []) = (0, q_args 0 (q_mL d a), []) by rw [q_m_args]; rfl] at h1
          exact h1
        next => cases hc
    rw [q_exec_succ] at hs ⊢
    split at hs
    next s1 hst =>
      have h1 := q_m_step H hcal hst
      rw [show (Option.map (fun l => List.map d l) none : Option (List Int32)) = none from rfl] at h1
      rw [h1]
      exact ih dp t s1.1 s1.2.1 s1.2.2 r hs
    next r1 hst =>
      have h1 := q_m_step H hcal hst
      rw [show (Option.map (fun l => List.map d l) none : Option (List Int32)) = none from rfl] at h1
      rw [h1]
      cases hs
      rfl
    next => cases hs
theorem q_m_call (H : q_Hm O d) (ts : List q_T) (n dp : Nat) : ∀ k a h ns r, q_call O ts n dp k a h ns = some r → q_call q_O32 ts n dp k (q_mL d a) (q_mH d h) ns = some (q_mR d r) := by
  intro k a h ns r hc
  rcases dp with _ | dp
  · cases hc
  · unfold q_call at hc ⊢
    simp only at hc ⊢
    split at hc
    next t2 ht2 =>
      have h1 := q_m_exec H ts n dp t2 (0, q_args 0 a, []) h ns r hc
      rw [show q_mF d (0, q_args 0 a, []) = (0, q_args 0 (q_mL d a), []) by rw [q_m_args]; rfl] at h1
      exact h1
    next => cases hc
theorem q_m_iter (H : q_Hm O d) (ts : List q_T) (n dp : Nat) (t : q_T) (scr : Option (List A)) : ∀ (j : Nat) (s s' : q_S A), q_iter O scr ts n dp t j s = some s' → q_iter q_O32 (scr.map (fun l => l.map d)) ts n dp t j (q_mS d s) = some (q_mS d s') := by
  intro j
  induction j with
  | zero => intro s s' hs; cases hs; rfl
  | succ j ih =>
    intro s s' hs
    unfold q_iter at hs ⊢
    split at hs
    next s1 hst =>
      have h1 := q_m_step H (q_m_call H ts n dp) hst
      rw [show q_step q_O32 (scr.map (fun l => l.map d)) (q_call q_O32 ts n dp) t (q_mS d s).1 (q_mS d s).2.1 (q_mS d s).2.2 = some (.inl (q_mS d s1)) from h1]
      exact ih s1 s' hs
    next => cases hs
end SIM2
end
section
/-! THE SAME RUNS, QUICK TO REDUCE: maps in sixteen buckets for heap and cells; a table's entries are what is done there; what goes on is a function -/
noncomputable def q_hget {α : Type} (h : List α) : Nat → Option α :=
  List.rec (motive := fun _ => Nat → Option α) (fun _ => none) (fun x _ ih o => Nat.rec (motive := fun _ => Option α) (some x) (fun n _ => ih n) o) h
noncomputable def q_fat {α : Type} (u : List (Nat × α)) : Nat → Option α :=
  List.rec (motive := fun _ => Nat → Option α) (fun _ => none) (fun q _ ih k => Bool.rec (motive := fun _ => Option α) (ih k) (some q.2) (Nat.beq q.1 k)) u
noncomputable def q_mod {α : Type} (m : List α) : Nat → (α → α) → List α :=
  List.rec (motive := fun _ => Nat → (α → α) → List α) (fun _ _ => []) (fun x xs ih o g => Nat.rec (motive := fun _ => List α) (g x :: xs) (fun n _ => x :: ih n g) o) m
noncomputable def q_rp {α : Type} (k : Nat) (v : α) (b : List (Nat × α)) : List (Nat × α) :=
  List.rec (motive := fun _ => List (Nat × α)) [(k, v)] (fun q r ih => Bool.rec (motive := fun _ => List (Nat × α)) (q :: ih) ((k, v) :: r) (Nat.beq q.1 k)) b
abbrev q_Mp (α : Type) : Type := List (List (Nat × α))
def q_m0 {α : Type} : q_Mp α := [[], [], [], [], [], [], [], [], [], [], [], [], [], [], [], []]
noncomputable def q_mg {α : Type} (m : q_Mp α) (k : Nat) : Option α := match q_hget m (k % 16) with
  | some b => q_fat b k
  | none => none
noncomputable def q_ms {α : Type} (m : q_Mp α) (k : Nat) (v : α) : q_Mp α := q_mod m (k % 16) (q_rp k v)
theorem q_hget_eq {α : Type} : ∀ (h : List α) (o : Nat), q_hget h o = h[o]?
  | [], _ => rfl
  | _ :: _, 0 => rfl
  | x :: xs, o + 1 => by
    show q_hget xs o = _
    rw [q_hget_eq xs o, List.getElem?_cons_succ]
theorem q_fat_cons {α : Type} (q : Nat × α) (u : List (Nat × α)) (k : Nat) : q_fat (q :: u) k = bif Nat.beq q.1 k then some q.2 else q_fat u k := by
  show (Bool.rec (motive := fun _ => Option α) (q_fat u k) (some q.2) (Nat.beq q.1 k)) = _
  cases Nat.beq q.1 k <;> rfl
theorem q_fat_eq {α : Type} : ∀ (u : List (Nat × α)) (k : Nat), q_fat u k = q_at u k
  | [], _ => rfl
  | q :: u, k => by
    rw [q_fat_cons, q_fat_eq u k]
    rfl
theorem q_mod_len {α : Type} : ∀ (m : List α) (i : Nat) (g : α → α), (q_mod m i g).length = m.length
  | [], _, _ => rfl
  | _ :: _, 0, _ => rfl
  | x :: xs, i + 1, g => by
    show (x :: q_mod xs i g).length = _
    rw [List.length_cons, q_mod_len xs i g, List.length_cons]
theorem q_mod_get {α : Type} : ∀ (m : List α) (i : Nat) (g : α → α) (j : Nat), q_hget (q_mod m i g) j = if i = j then (q_hget m j).map g else q_hget m j
  | [], i, g, j => by
    show none = _
    split <;> rfl
  | x :: xs, 0, g, 0 => rfl
  | x :: xs, 0, g, j + 1 => by
    rw [if_neg (by omega)]
    rfl
  | x :: xs, i + 1, g, 0 => by
    rw [if_neg (by omega)]
    rfl
  | x :: xs, i + 1, g, j + 1 => by
    show q_hget (q_mod xs i g) j = if i + 1 = j + 1 then (q_hget xs j).map g else q_hget xs j
    rw [q_mod_get xs i g j]
    by_cases h : i = j
    · rw [if_pos h, if_pos (by omega)]
    · rw [if_neg h, if_neg (by omega)]
theorem q_rp_cons {α : Type} (k : Nat) (v : α) (q : Nat × α) (b : List (Nat × α)) : q_rp k v (q :: b) = bif Nat.beq q.1 k then (k, v) :: b else q :: q_rp k v b := by
  show (Bool.rec (motive := fun _ => List (Nat × α)) (q :: q_rp k v b) ((k, v) :: b) (Nat.beq q.1 k)) = _
  cases Nat.beq q.1 k <;> rfl
theorem q_beq_self (k : Nat) : Nat.beq k k = true := by
  cases h : Nat.beq k k with
  | true => rfl
  | false => exact absurd rfl (Nat.ne_of_beq_eq_false h)
theorem q_beq_ne {a b : Nat} (h : a ≠ b) : Nat.beq a b = false := by
  cases hb : Nat.beq a b with
  | true => exact absurd (Nat.eq_of_beq_eq_true hb) h
  | false => rfl
theorem q_rp_get {α : Type} (k : Nat) (v : α) (k' : Nat) : ∀ (b : List (Nat × α)), q_fat (q_rp k v b) k' = if k = k' then some v else q_fat b k'
  | [] => by
    show q_fat [(k, v)] k' = _
    rw [q_fat_cons]
    by_cases h : k = k'
    · subst h
      rw [q_beq_self, if_pos rfl]
      rfl
    · rw [q_beq_ne h, if_neg h]
      rfl
  | q :: b => by
    rw [q_rp_cons]
    cases hq : Nat.beq q.1 k with
    | true =>
      have e := q_beq hq
      rw [cond_true, q_fat_cons]
      by_cases h : k = k'
      · subst h
        rw [if_pos rfl, q_beq_self]
        rfl
      · rw [if_neg h, q_beq_ne h, cond_false, q_fat_cons, e, q_beq_ne h]
        rfl
    | false =>
      rw [cond_false, q_fat_cons, q_rp_get k v k' b, q_fat_cons]
      by_cases h : k = k'
      · subst h
        rw [if_pos rfl, if_pos rfl, hq]
        rfl
      · rw [if_neg h, if_neg h]
theorem q_ms_len {α : Type} (m : q_Mp α) (k : Nat) (v : α) : (q_ms m k v).length = m.length := q_mod_len _ _ _
theorem q_ms_get {α : Type} {m : q_Mp α} (hm : m.length = 16) (k : Nat) (v : α) (k' : Nat) : q_mg (q_ms m k v) k' = if k = k' then some v else q_mg m k' := by
  unfold q_mg q_ms
  rw [q_mod_get]
  by_cases h : k % 16 = k' % 16
  · rw [if_pos h]
    have hlt : k' % 16 < m.length := by rw [hm]; exact Nat.mod_lt _ (by decide)
    rw [q_hget_eq, List.getElem?_eq_getElem hlt]
    show q_fat (q_rp k v _) k' = _
    rw [q_rp_get]
  · rw [if_neg h, if_neg (fun e => h (by rw [e]))]
theorem q_m0_get {α : Type} (k : Nat) : q_mg (q_m0 (α := α)) k = none := by
  unfold q_mg
  rw [q_hget_eq]
  cases hb : (q_m0 (α := α))[k % 16]? with
  | none => rfl
  | some b =>
    have h1 := List.mem_of_getElem? hb
    simp only [q_m0, List.mem_cons, List.not_mem_nil, or_false, or_self] at h1
    subst h1
    rfl
abbrev q_Cf (I : Type) : Type := Nat × Nat × q_Mp (q_V I)
abbrev q_Hf (I : Type) : Type := Nat × q_Mp (q_Cf I)
abbrev q_Rf (I : Type) : Type := Option (q_V I) × q_Hf I × Nat
abbrev q_Kf (I P : Type) : Type := Nat → q_U I → List (q_V I) → q_Hf I → Nat → Option P
abbrev q_Lf (I : Type) : Type := Nat → List (q_V I) → q_Hf I → Nat → Option (q_Rf I)
abbrev q_Y (I P : Type) : Type := q_O I → Option (List I) → q_Lf I → (q_Rf I → Option P) → q_Kf I P → Nat → q_U I → List (q_V I) → q_Hf I → Nat → Option P
/-- the same cell, the same heap -/
def q_rc {I : Type} (c : q_Cf I) (q : q_C I) : Prop := c.1 = q.1 ∧ c.2.1 = q.2.1 ∧ c.2.2.length = 16 ∧ ∀ k, q_mg c.2.2 k = q_at q.2.2 k
def q_rh {I : Type} (F : q_Hf I) (h : q_H I) : Prop := F.1 = h.length ∧ F.2.length = 16 ∧ ∀ o c, q_mg F.2 o = some c → ∃ q, h[o]? = some q ∧ q_rc c q
theorem q_rh_set {I : Type} {F : q_Hf I} {h : q_H I} (H : q_rh F h) {o : Nat} {q0 : q_C I} (ho : h[o]? = some q0) {c : q_Cf I} {q : q_C I} (hc : q_rc c q) : q_rh (F.1, q_ms F.2 o c) (h.set o q) := by
  obtain ⟨h1, h2, h3⟩ := H
  refine ⟨by rw [List.length_set]; exact h1, by rw [q_ms_len]; exact h2, fun o' c' hg => ?_⟩
  have hlt : o < h.length := (List.getElem?_eq_some_iff.mp ho).1
  replace hg : q_mg (q_ms F.2 o c) o' = some c' := hg
  rw [q_ms_get h2] at hg
  by_cases e : o = o'
  · subst e
    rw [if_pos rfl] at hg
    cases hg
    exact ⟨q, by rw [List.getElem?_set_self hlt], hc⟩
  · rw [if_neg e] at hg
    rw [List.getElem?_set_ne e]
    exact h3 o' c' hg
theorem q_rh_app {I : Type} {F : q_Hf I} {h : q_H I} (H : q_rh F h) {c : q_Cf I} {q : q_C I} (hc : q_rc c q) : q_rh (F.1 + 1, q_ms F.2 F.1 c) (h ++ [q]) := by
  obtain ⟨h1, h2, h3⟩ := H
  refine ⟨by rw [List.length_append, ← h1]; rfl, by rw [q_ms_len]; exact h2, fun o' c' hg => ?_⟩
  replace hg : q_mg (q_ms F.2 F.1 c) o' = some c' := hg
  rw [q_ms_get h2] at hg
  by_cases e : F.1 = o'
  · subst e
    rw [if_pos rfl] at hg
    cases hg
    exact ⟨q, by rw [h1, List.getElem?_append_right (Nat.le_refl _), Nat.sub_self]; rfl, hc⟩
  · rw [if_neg e] at hg
    obtain ⟨q', hq', hc'⟩ := h3 o' c' hg
    exact ⟨q', by rw [List.getElem?_append_left (List.getElem?_eq_some_iff.mp hq').1]; exact hq', hc'⟩
theorem q_rc_put {I : Type} {c : q_Cf I} {q : q_C I} (hc : q_rc c q) (k : Nat) (v : q_V I) : q_rc (c.1, c.2.1, q_ms c.2.2 k v) (q.1, q.2.1, (k, v) :: q.2.2) := by
  obtain ⟨h1, h2, h3, h4⟩ := hc
  refine ⟨h1, h2, by show (q_ms c.2.2 k v).length = 16; rw [q_ms_len]; exact h3, fun k' => ?_⟩
  show q_mg (q_ms c.2.2 k v) k' = q_at ((k, v) :: q.2.2) k'
  rw [q_ms_get h3, q_at_cons, h4 k']
end
section
def q_z {I : Type} (q : q_I) (O : q_O I) (scr : Option (List I)) (cal : Nat → List (q_V I) → q_H I → Nat → Option (q_R I)) (f : q_F I) (h : q_H I) (ns : Nat) : q_X I := q_act O scr cal q.1 q.2.1 q.2.2 f h ns
section QUICK2
variable {I P : Type}
noncomputable def q_f_ld (t i len : Nat) : q_Y I P := fun _ _ _ _ k pc ls st F ns => match q_fat ls i with
  | some v => bif Nat.beq (q_kind v) t then k (pc + len) ls (v :: st) F ns else none
  | none => none
/-- what changes the frame alone -/
def q_f_fr (n : q_O I → q_F I → Option (q_F I)) : q_Y I P := fun O _ _ _ k pc ls st F ns => match n O (pc, ls, st) with
  | some (pc, ls, st) => k pc ls st F ns
  | none => none
def q_fo {I : Type} (x : q_X I) : Option (q_F I) := match x with
  | some (.inl s) => some s.1
  | _ => none
def q_f_st (t i len : Nat) : q_Y I P := q_f_fr (fun _ f => q_fo (q_st t i len f [] 0))
def q_f_iinc (i : Nat) (n : Int) (len : Nat) : q_Y I P := q_f_fr (fun O f => q_fo (q_iinc O i n len f [] 0))
def q_f_k (c : Int32) (len : Nat) : q_Y I P := fun O _ _ _ k pc ls st F ns => k (pc + len) ls (.inl (O.1 c) :: st) F ns
def q_f_lk (c : Int64) (len : Nat) : q_Y I P := fun _ _ _ _ k pc ls st F ns => k (pc + len) ls (.inr (.inl c) :: st) F ns
def q_f_b2 (j len : Nat) : q_Y I P := fun O _ _ _ k pc ls st F ns => match st with
  | .inl y :: .inl x :: r => (match O.2.1 j x y with
    | some z => k (pc + len) ls (.inl z :: r) F ns
    | none => none)
  | _ => none
def q_f_b1 (j len : Nat) : q_Y I P := q_f_fr (fun O f => q_fo (q_b1 O j len f [] 0))
def q_f_i2l (len : Nat) : q_Y I P := q_f_fr (fun O f => q_fo (q_i2l O len f [] 0))
def q_f_l2 (j len : Nat) : q_Y I P := q_f_fr (fun _ f => q_fo (q_l2 j len f [] 0))
def q_f_lshl (len : Nat) : q_Y I P := q_f_fr (fun O f => q_fo (q_lshl O len f [] 0))
def q_f_lcmp (len : Nat) : q_Y I P := q_f_fr (fun O f => q_fo (q_lcmp O len f [] 0))
def q_f_dup (len : Nat) : q_Y I P := q_f_fr (fun _ f => q_fo (q_dup len f [] 0))
def q_f_dup2 (len : Nat) : q_Y I P := q_f_fr (fun _ f => q_fo (q_dup2 len f [] 0))
def q_f_pop (len : Nat) : q_Y I P := q_f_fr (fun _ f => q_fo (q_pop len f [] 0))
def q_f_tsw (lo hi : Int) (r : List Nat) : q_Y I P := q_f_fr (fun O f => q_fo (q_tsw O lo hi r f [] 0))
def q_f_obj (len : Nat) : q_Y I P := q_f_fr (fun _ f => q_fo (q_obj len f [] 0))
def q_f_jmp (r : List Nat) (len : Nat) (t : Option Bool) (k : q_Kf I P) (pc : Nat) (ls : q_U I) (st : List (q_V I)) (F : q_Hf I) (ns : Nat) : Option P := match t, r with
  | some true, [tg] => k tg ls st F ns
  | some false, [_] => k (pc + len) ls st F ns
  | _, _ => none
def q_f_if (j : Nat) (r : List Nat) (len : Nat) : q_Y I P := fun O _ _ _ k pc ls st F ns => match st with
  | .inl x :: st => q_f_jmp r len (O.2.2.2.1 j x (O.1 0)) k pc ls st F ns
  | _ => none
def q_f_ic (j : Nat) (r : List Nat) (len : Nat) : q_Y I P := fun O _ _ _ k pc ls st F ns => match st with
  | .inl y :: .inl x :: st => q_f_jmp r len (O.2.2.2.1 j x y) k pc ls st F ns
  | _ => none
def q_f_goto (tg : Nat) : q_Y I P := fun _ _ _ _ k _ ls st F ns => k tg ls st F ns
noncomputable def q_f_getf (r : List Nat) (len : Nat) : q_Y I P := fun _ _ _ _ kk pc ls st F ns => match r, st with
  | ci :: k :: _, .inr (.inr (o + 2)) :: st => (match q_mg F.2 o with
    | some q => bif Nat.beq q.1 ci && Nat.blt k q.2.1 then (match q_mg q.2.2 k with
        | some v => kk (pc + len) ls (v :: st) F ns
        | none => none) else none
    | none => none)
  | _, _ => none
noncomputable def q_f_putf (r : List Nat) (len : Nat) : q_Y I P := fun O _ _ _ kk pc ls st F ns => match r, st with
  | ci :: k :: kd :: _, v :: .inr (.inr (o + 2)) :: st => (match q_mg F.2 o with
    | some q => bif Nat.beq q.1 ci && (Nat.blt k q.2.1 && q_fit O kd v) then kk (pc + len) ls st (F.1, q_ms F.2 o (q.1, q.2.1, q_ms q.2.2 k v)) ns else none
    | none => none)
  | _, _ => none
noncomputable def q_f_el (O : q_O I) (q : q_Cf I) (i : Nat) : q_V I := match q_mg q.2.2 i with
  | some v => v
  | none => bif Nat.beq q.1 103 then .inr (.inl 0) else .inl (O.1 0)
noncomputable def q_f_ald (tag kd len : Nat) : q_Y I P := fun O scr _ _ kk pc ls st F ns => match st with
  | .inl i :: .inr (.inr (o + 2)) :: st => (match q_mg F.2 o, O.2.2.2.2.1 i with
    | some q, some j => bif (Nat.beq q.1 tag || (Nat.beq tag 101 && Nat.beq q.1 102)) && (Nat.blt j q.2.1 && Nat.beq (q_kind (q_f_el O q j)) kd) then kk (pc + len) ls (q_f_el O q j :: st) F ns else none
    | _, _ => none)
  | .inl i :: .inr (.inr 1) :: st => (match scr, O.2.2.2.2.1 i with
    | some xs, some j => (match xs[j]? with
      | some x => bif Nat.beq tag 100 then kk (pc + len) ls (.inl x :: st) F ns else none
      | none => none)
    | _, _ => none)
  | _ => none
noncomputable def q_f_ast (tag len : Nat) : q_Y I P := fun O _ _ _ kk pc ls st F ns => match st with
  | v :: .inl i :: .inr (.inr (o + 2)) :: st => (match q_mg F.2 o, O.2.2.2.2.1 i with
    | some q, some j => bif (Nat.beq q.1 tag || (Nat.beq tag 101 && Nat.beq q.1 102)) && Nat.blt j q.2.1 then (match q_kp O q.1 v with
        | some w => kk (pc + len) ls st (F.1, q_ms F.2 o (q.1, q.2.1, q_ms q.2.2 j w)) ns
        | none => none) else none
    | _, _ => none)
  | _ => none
noncomputable def q_f_alen (len : Nat) : q_Y I P := fun O scr _ _ kk pc ls st F ns => match st with
  | .inr (.inr (o + 2)) :: st => (match q_mg F.2 o with
    | some q => bif Nat.blt 99 q.1 && Nat.blt q.1 104 then kk (pc + len) ls (.inl (O.1 (Int32.ofNat q.2.1)) :: st) F ns else none
    | none => none)
  | .inr (.inr 1) :: st => (match scr with
    | some xs => kk (pc + len) ls (.inl (O.1 (Int32.ofNat xs.length)) :: st) F ns
    | none => none)
  | _ => none
noncomputable def q_f_dfs (O : q_O I) : Nat → List Nat → q_Mp (q_V I)
  | _, [] => q_m0
  | i, k :: ks => q_ms (q_f_dfs O (i + 1) ks) i (q_df O k)
noncomputable def q_f_new (r : List Nat) (len : Nat) : q_Y I P := fun O _ _ _ kk pc ls st F ns => match r with
  | ci :: ks => kk (pc + len) ls (.inr (.inr (F.1 + 2)) :: st) (F.1 + 1, q_ms F.2 F.1 (ci, ks.length, q_f_dfs O 0 ks)) (ns + ks.length)
  | _ => none
noncomputable def q_f_newa (r : List Nat) (len : Nat) : q_Y I P := fun O _ _ _ kk pc ls st F ns => match r, st with
  | [tag], .inl n :: st => (match O.2.2.2.2.1 n with
    | some N => bif Nat.blt N 65536 then kk (pc + len) ls (.inr (.inr (F.1 + 2)) :: st) (F.1 + 1, q_ms F.2 F.1 (tag, N, q_m0)) (ns + N) else none
    | none => none)
  | _, _ => none
noncomputable def q_f_cpy (O : q_O I) (q : q_Cf I) (sp dp : Nat) : Nat → q_Mp (q_V I) → q_Mp (q_V I)
  | 0, u => u
  | n + 1, u => q_ms (q_f_cpy O q sp dp n u) (dp + n) (q_f_el O q (sp + n))
noncomputable def q_f_acpy (len : Nat) : q_Y I P := fun O _ _ _ kk pc ls st F ns => match st with
  | .inl n :: .inl dp :: .inr (.inr (d + 2)) :: .inl sp :: .inr (.inr (o + 2)) :: st => (match q_mg F.2 o, q_mg F.2 d, O.2.2.2.2.1 n, O.2.2.2.2.1 dp, O.2.2.2.2.1 sp with
    | some qs, some qd, some n, some dp, some sp => bif Nat.beq qs.1 100 && (Nat.beq qd.1 100 && (Nat.ble (sp + n) qs.2.1 && (Nat.ble (dp + n) qd.2.1 && Nat.ble (q_cats st) 8))) then
        kk (pc + len) ls st (F.1, q_ms F.2 d (qd.1, qd.2.1, q_f_cpy O qs sp dp n qd.2.2)) ns else none
    | _, _, _, _, _ => none)
  | _ => none
def q_f_mayV (x : List Nat) (c : Option (q_Cf I)) : Bool := match c, x with
  | some q, [ci] => Nat.beq q.1 ci
  | _, _ => false
noncomputable def q_f_may (sv : Nat) (x : List Nat) (a : List (q_V I)) (F : q_Hf I) : Bool := match sv, a with
  | 0, _ => true
  | 1, .inr (.inr (o + 2)) :: _ => q_f_mayV x (q_mg F.2 o)
  | 2, .inr (.inr (_ + 2)) :: _ => true
  | _, _ => false
noncomputable def q_f_inv (sv : Nat) (r : List Nat) (len : Nat) : q_Y I P := fun _ _ cal _ kk pc ls st F ns => match r with
  | k :: na :: ml :: x => (match q_take na st [] with
    | some (a, st) => bif Nat.ble (q_cats st) 8 && (Nat.ble (q_cats a) ml && q_f_may sv x a F) then (match cal k a F ns with
        | some (v, F', ns') => kk (pc + len) ls (v.toList ++ st) F' ns'
        | none => none) else none
    | none => none)
  | _ => none
def q_f_iret (r : List Nat) : q_Y I P := fun O _ _ rt _ _ _ st F ns => match r, st with
  | [kd], [.inl x] => bif q_fit O kd (.inl x) then rt (some (.inl x), F, ns) else none
  | _, _ => none
def q_f_lret : q_Y I P := fun _ _ _ rt _ _ _ st F ns => match st with
  | [.inr (.inl x)] => rt (some (.inr (.inl x)), F, ns)
  | _ => none
def q_f_ret : q_Y I P := fun _ _ _ rt _ _ _ st F ns => match st with
  | [] => rt (none, F, ns)
  | _ => none
def q_f_no : q_Y I P := fun _ _ _ _ _ _ _ _ _ _ => none
noncomputable def q_y (q : q_I) : q_Y I P := match q.1 with
  | .aload_n k => q_f_ld 1 k.val q.2.1
  | .iload_n k => q_f_ld 0 k.val q.2.1
  | .lload_n k => q_f_ld 2 k.val q.2.1
  | .aload i => q_f_ld 1 i q.2.1
  | .iload i => q_f_ld 0 i q.2.1
  | .lload i => q_f_ld 2 i q.2.1
  | .astore_n k => q_f_st 1 k.val q.2.1
  | .istore_n k => q_f_st 0 k.val q.2.1
  | .lstore_n k => q_f_st 2 k.val q.2.1
  | .astore i => q_f_st 1 i q.2.1
  | .istore i => q_f_st 0 i q.2.1
  | .lstore i => q_f_st 2 i q.2.1
  | .iinc i n => q_f_iinc i n q.2.1
  | .iconst n => q_f_k (Int32.ofInt n) q.2.1
  | .bipush n => q_f_k (Int8.ofInt n).toInt32 q.2.1
  | .sipush n => q_f_k (Int16.ofInt n).toInt32 q.2.1
  | .lconst n => q_f_lk (Int64.ofNat n.val) q.2.1
  | .ldc _ => (match q.2.2 with
    | [v] => q_f_k (Int32.ofNat v) q.2.1
    | _ => q_f_no)
  | .ldc_w _ => (match q.2.2 with
    | [v] => q_f_k (Int32.ofNat v) q.2.1
    | _ => q_f_no)
  | .ldc2_w _ => (match q.2.2 with
    | [v] => q_f_lk (Int64.ofNat v) q.2.1
    | _ => q_f_no)
  | .iadd => q_f_b2 0 q.2.1
  | .isub => q_f_b2 1 q.2.1
  | .imul => q_f_b2 2 q.2.1
  | .iand => q_f_b2 3 q.2.1
  | .ior => q_f_b2 4 q.2.1
  | .ixor => q_f_b2 5 q.2.1
  | .ishl => q_f_b2 6 q.2.1
  | .ishr => q_f_b2 7 q.2.1
  | .iushr => q_f_b2 8 q.2.1
  | .idiv => q_f_b2 9 q.2.1
  | .irem => q_f_b2 10 q.2.1
  | .ineg => q_f_b1 0 q.2.1
  | .i2b => q_f_b1 1 q.2.1
  | .i2c => q_f_b1 2 q.2.1
  | .i2l => q_f_i2l q.2.1
  | .ladd => q_f_l2 0 q.2.1
  | .lmul => q_f_l2 1 q.2.1
  | .lor => q_f_l2 2 q.2.1
  | .lshl => q_f_lshl q.2.1
  | .lcmp => q_f_lcmp q.2.1
  | .dup => q_f_dup q.2.1
  | .dup2 => q_f_dup2 q.2.1
  | .pop => q_f_pop q.2.1
  | .ifCond cd _ => q_f_if (q_cn cd) q.2.2 q.2.1
  | .if_icmp cd _ => q_f_ic (q_cn cd) q.2.2 q.2.1
  | .goto _ => (match q.2.2 with
    | [tg] => q_f_goto tg
    | _ => q_f_no)
  | .tableswitch _ lo hi _ => q_f_tsw lo hi q.2.2
  | .getfield _ => q_f_getf q.2.2 q.2.1
  | .putfield _ => q_f_putf q.2.2 q.2.1
  | .iaload => q_f_ald 100 0 q.2.1
  | .baload => q_f_ald 101 0 q.2.1
  | .laload => q_f_ald 103 2 q.2.1
  | .iastore => q_f_ast 100 q.2.1
  | .bastore => q_f_ast 101 q.2.1
  | .lastore => q_f_ast 103 q.2.1
  | .arraylength => q_f_alen q.2.1
  | .new _ => q_f_new q.2.2 q.2.1
  | .newarray _ => q_f_newa q.2.2 q.2.1
  | .invokevirtual _ => q_f_inv 1 q.2.2 q.2.1
  | .invokestatic _ => (match q.2.2 with
    | [] => q_f_acpy q.2.1
    | _ => q_f_inv 0 q.2.2 q.2.1)
  | .invokespecial _ => (match q.2.2 with
    | [] => q_f_obj q.2.1
    | _ => q_f_inv 2 q.2.2 q.2.1)
  | .ireturn => q_f_iret q.2.2
  | .lreturn => q_f_lret
  | .return_ => q_f_ret
  | _ => q_f_no
abbrev q_YT (I P : Type) : Type := List (List (q_Y I P))
noncomputable def q_yt (t : q_T) : q_YT I P := t.map (fun r => r.map q_y)
noncomputable def q_fetch (t : q_YT I P) (pc : Nat) : Option (q_Y I P) := match q_hget t (pc / 16) with
  | some r => q_hget r (pc % 16)
  | none => none
noncomputable def q_fcal (fs : List (q_YT I (q_Rf I))) (ih : Nat → q_YT I (q_Rf I) → q_Kf I (q_Rf I)) (d : Nat) : q_Lf I := fun k a F ns => match d with
  | 0 => none
  | d + 1 => (match q_hget fs k with
    | some t => ih d t 0 (q_args 0 a) [] F ns
    | none => none)
noncomputable def q_frun (O : q_O I) (fs : List (q_YT I (q_Rf I))) (n : Nat) : Nat → q_YT I (q_Rf I) → q_Kf I (q_Rf I) :=
  Nat.rec (motive := fun _ => Nat → q_YT I (q_Rf I) → q_Kf I (q_Rf I)) (fun _ _ _ _ _ _ _ => none) (fun _ ih d t pc ls st F ns => match q_fetch t pc with
    | some y => y O none (q_fcal fs ih d) some (ih d t) pc ls st F ns
    | none => none) n
abbrev q_Sf (I : Type) : Type := Nat × q_U I × List (q_V I) × q_Hf I × Nat
/-- the frame of t, until it stands at pe -/
noncomputable def q_ftill (O : q_O I) (scr : Option (List I)) (fs : List (q_YT I (q_Rf I))) (n d : Nat) (t : q_YT I (q_Sf I)) (pe : Nat) (j : Nat) : q_Kf I (q_Sf I) :=
  Nat.rec (motive := fun _ => q_Kf I (q_Sf I)) (fun _ _ _ _ _ => none) (fun _ ih pc ls st F ns => bif Nat.beq pc pe then some (pc, ls, st, F, ns) else match q_fetch t pc with
    | some y => y O scr (q_fcal fs (q_frun O fs n) d) (fun _ => none) ih pc ls st F ns
    | none => none) j
end QUICK2
end
section
/-! INTS THAT ARE NAMES: .inl c: the int c (mod 2^32); .inr (i, s, m): the name i, shifted right by s, then (m 1) its low byte, (m 2, 3) a byte once, twice -/
abbrev q_A : Type := Nat ⊕ (Nat × Nat × Nat)
def q_M32 : Nat := 4294967296
def q_dc (c : Nat) : Int32 := Int32.ofNat c
def q_en (x : Int32) : Nat := x.toBitVec.toNat
theorem q_dc_en (x : Int32) : q_dc (q_en x) = x := by
  unfold q_dc q_en
  apply Int32.toBitVec_inj.mp
  rw [Int32.toBitVec_ofNat']
  simp
/-- an int's place among all, the least one at 0 -/
def q_sg (c : Nat) : Nat := (c + 2147483648) % 4294967296
/-- what is told of the names: the and of name 5 with 63; bounds of the names 0, 1, 2; whether 0 and 1 differ -/
abbrev q_Kn : Type := Option Nat × List (Nat × Nat) × Bool
def q_bd (K : q_Kn) (i : Nat) : Nat × Nat := match K.2.1[i]? with
  | some q => q
  | none => (0, 4294967295)
def q_ds (x : Int32) : Nat → Int32
  | 0 => x
  | s + 1 => x >>> (Int32.ofNat (s + 1) &&& 31)
def q_d (ρ : Nat → Int32) : q_A → Int32
  | .inl c => q_dc c
  | .inr (i, s, m) => (match m with
    | 0 => q_ds (ρ i) s
    | 1 => q_ds (ρ i) s &&& 255
    | 2 => (q_ds (ρ i) s).toInt8.toInt32
    | _ => (q_ds (ρ i) s).toInt8.toInt32.toInt8.toInt32)
def q_a2 (K : q_Kn) (j : Nat) (a b : q_A) : Option q_A := match a, b with
  | .inl a, .inl b => bif Nat.beq j 0 then some (.inl ((a + b) % 4294967296)) else (match q_o2 j (q_dc a) (q_dc b) with
    | some z => some (.inl (q_en z))
    | none => none)
  | .inl 0, .inr t => bif Nat.beq j 0 then some (.inr t) else none
  | .inr (i, 0, 0), .inl b => bif Nat.beq j 7 then (bif Nat.blt b 32 then some (.inr (i, b, 0)) else none) else
      bif Nat.beq j 3 then (bif Nat.beq b 255 then some (.inr (i, 0, 1)) else bif Nat.beq b 63 && Nat.beq i 5 then (match K.1 with
        | some k => some (.inl k)
        | none => none) else none) else none
  | .inr (i, s + 1, 0), .inl b => bif Nat.beq j 3 && Nat.beq b 255 then some (.inr (i, s + 1, 1)) else none
  | _, _ => none
def q_a1 (j : Nat) (a : q_A) : Option q_A := match a with
  | .inl a => (match q_o1 j (q_dc a) with
    | some z => some (.inl (q_en z))
    | none => none)
  | .inr (i, s, 0) => bif Nat.beq j 1 then some (.inr (i, s, 2)) else none
  | .inr (i, s, 2) => bif Nat.beq j 1 then some (.inr (i, s, 3)) else none
  | _ => none
/-- compares of places -/
def q_pl (j x y : Nat) : Option Bool := match j with
  | 0 => some (Nat.beq x y)
  | 1 => some (!(Nat.beq x y))
  | 2 => some (Nat.blt x y)
  | 3 => some (Nat.ble y x)
  | 4 => some (Nat.blt y x)
  | 5 => some (Nat.ble x y)
  | _ => none
/-- compares of what lies in l..u with y -/
def q_pb (j l u y : Nat) : Option Bool := match j with
  | 0 => bif Nat.blt y l || Nat.blt u y then some false else none
  | 1 => bif Nat.blt y l || Nat.blt u y then some true else none
  | 2 => bif Nat.blt u y then some true else bif Nat.ble y l then some false else none
  | 3 => bif Nat.blt u y then some false else bif Nat.ble y l then some true else none
  | 4 => bif Nat.blt y l then some true else bif Nat.ble u y then some false else none
  | 5 => bif Nat.blt y l then some false else bif Nat.ble u y then some true else none
  | _ => none
def q_pe (j : Nat) (t : Bool) : Option Bool := match j with
  | 0 => some t
  | 1 => some (!t)
  | _ => none
def q_ac (K : q_Kn) (j : Nat) (a b : q_A) : Option Bool := match a, b with
  | .inl a, .inl b => bif Nat.blt a 4294967296 && Nat.blt b 4294967296 then q_pl j (q_sg a) (q_sg b) else none
  | .inr (i, 0, 0), .inl b => bif Nat.blt b 4294967296 then q_pb j (q_bd K i).1 (q_bd K i).2 (q_sg b) else none
  | .inr (i, 0, 0), .inr (i', 0, 0) => bif Nat.beq i i' then q_pe j true else bif K.2.2 && (Nat.beq i 0 && Nat.beq i' 1) then q_pe j false else none
  | _, _ => none
def q_ai (a : q_A) : Option Nat := match a with
  | .inl a => bif Nat.blt a 2147483648 then some a else none
  | _ => none
def q_ab (a : q_A) : Bool := match a with
  | .inl a => Nat.beq a 0 || Nat.beq a 1
  | _ => false
def q_at32 (a : q_A) : Option Int := match a with
  | .inl a => bif Nat.blt a 2147483648 then some (Int.ofNat a) else none
  | _ => none
def q_at64 (a : q_A) : Option Int64 := match a with
  | .inl a => some (q_dc a).toInt64
  | _ => none
def q_OA (K : q_Kn) : q_O q_A := (fun x => .inl (q_en x), q_a2 K, q_a1, q_ac K, q_ai, q_ab, q_at32, q_at64)
def q_K0 : q_Kn := (none, [], false)
end
section
/-! THE DATA OF THIS CLAIM FOR THE SMALL MACHINE (printed by wip/gen/gen2.py out of the listing): classes, methods, tables -/
def g_T0 : u_T := fun k => match k with
  | 0 => ("GoodbyeQuay$Formula", "steps", "[I", true)
  | 1 => ("GoodbyeQuay$Formula", "stack", "[I", true)
  | 2 => ("GoodbyeQuay$Formula", "values", "[I", true)
  | 3 => ("GoodbyeQuay$Formula", "size", "I", false)
  | _ => ("GoodbyeQuay$Formula", "units", "I", false)
def g_y0 : Nat → FieldType := fun k => match k with
  | 0 => .array .int
  | 1 => .array .int
  | 2 => .array .int
  | 3 => .int
  | _ => .int
def g_T1 : u_T := fun k => match k with
  | 0 => ("GoodbyeQuay$Orders", "worths", "[I", true)
  | 1 => ("GoodbyeQuay$Orders", "best", "[I", true)
  | 2 => ("GoodbyeQuay$Orders", "path", "[I", true)
  | 3 => ("GoodbyeQuay$Orders", "knownKeys", "[I", true)
  | 4 => ("GoodbyeQuay$Orders", "knownWorths", "[I", true)
  | 5 => ("GoodbyeQuay$Orders", "trial", "LGoodbyeQuay$Trial;", true)
  | 6 => ("GoodbyeQuay$Orders", "size", "I", false)
  | _ => ("GoodbyeQuay$Orders", "most", "I", false)
def g_y1 : Nat → FieldType := fun k => match k with
  | 0 => .array .int
  | 1 => .array .int
  | 2 => .array .int
  | 3 => .array .int
  | 4 => .array .int
  | 5 => .object "GoodbyeQuay$Trial"
  | 6 => .int
  | _ => .int
def g_T2 : u_T := fun k => match k with
  | 0 => ("GoodbyeQuay$Past", "rows", "[I", true)
  | 1 => ("GoodbyeQuay$Past", "oldest", "I", false)
  | 2 => ("GoodbyeQuay$Past", "undoable", "I", false)
  | _ => ("GoodbyeQuay$Past", "redoable", "I", false)
def g_y2 : Nat → FieldType := fun k => match k with
  | 0 => .array .int
  | 1 => .int
  | 2 => .int
  | _ => .int
def g_T3 : u_T := fun k => match k with
  | 0 => ("GoodbyeQuay$Places", "times", "[I", true)
  | 1 => ("GoodbyeQuay$Places", "points", "[I", true)
  | 2 => ("GoodbyeQuay$Places", "holders", "[I", true)
  | _ => ("GoodbyeQuay$Places", "size", "I", false)
def g_y3 : Nat → FieldType := fun k => match k with
  | 0 => .array .int
  | 1 => .array .int
  | 2 => .array .int
  | _ => .int
def g_T4 : u_T := fun k => match k with
  | 0 => ("GoodbyeQuay$Reader", "tape", "LGoodbyeQuay$Tape;", true)
  | 1 => ("GoodbyeQuay$Reader", "into", "LGoodbyeQuay$Told;", false)
  | 2 => ("GoodbyeQuay$Reader", "place", "I", false)
  | 3 => ("GoodbyeQuay$Reader", "start", "I", false)
  | 4 => ("GoodbyeQuay$Reader", "kind", "I", false)
  | 5 => ("GoodbyeQuay$Reader", "number", "I", false)
  | 6 => ("GoodbyeQuay$Reader", "name", "J", false)
  | 7 => ("GoodbyeQuay$Reader", "linesTold", "I", false)
  | 8 => ("GoodbyeQuay$Reader", "fault", "I", false)
  | _ => ("GoodbyeQuay$Reader", "faultAt", "I", false)
def g_y4 : Nat → FieldType := fun k => match k with
  | 0 => .object "GoodbyeQuay$Tape"
  | 1 => .object "GoodbyeQuay$Told"
  | 2 => .int
  | 3 => .int
  | 4 => .int
  | 5 => .int
  | 6 => .long
  | 7 => .int
  | 8 => .int
  | _ => .int
def g_T5 : u_T := fun k => match k with
  | 0 => ("GoodbyeQuay$Sight", "time", "I", false)
  | 1 => ("GoodbyeQuay$Sight", "size", "I", false)
  | 2 => ("GoodbyeQuay$Sight", "pairs", "I", false)
  | 3 => ("GoodbyeQuay$Sight", "minutes", "[I", true)
  | 4 => ("GoodbyeQuay$Sight", "manies", "[I", true)
  | 5 => ("GoodbyeQuay$Sight", "are", "[Z", true)
  | 6 => ("GoodbyeQuay$Sight", "toldAt", "[I", true)
  | 7 => ("GoodbyeQuay$Sight", "untoldAt", "[I", true)
  | 8 => ("GoodbyeQuay$Sight", "outAt", "[I", true)
  | _ => ("GoodbyeQuay$Sight", "groups", "[I", true)
def g_y5 : Nat → FieldType := fun k => match k with
  | 0 => .int
  | 1 => .int
  | 2 => .int
  | 3 => .array .int
  | 4 => .array .int
  | 5 => .array .boolean
  | 6 => .array .int
  | 7 => .array .int
  | 8 => .array .int
  | _ => .array .int
def g_T6 : u_T := fun k => match k with
  | 0 => ("GoodbyeQuay$State", "line", "[I", true)
  | 1 => ("GoodbyeQuay$State", "size", "I", false)
  | 2 => ("GoodbyeQuay$State", "how", "[I", true)
  | 3 => ("GoodbyeQuay$State", "briefs", "I", false)
  | 4 => ("GoodbyeQuay$State", "railPair", "[I", true)
  | 5 => ("GoodbyeQuay$State", "railTime", "[I", true)
  | 6 => ("GoodbyeQuay$State", "waited", "I", false)
  | 7 => ("GoodbyeQuay$State", "waves", "I", false)
  | 8 => ("GoodbyeQuay$State", "minute", "I", false)
  | _ => ("GoodbyeQuay$State", "seed", "I", false)
def g_y6 : Nat → FieldType := fun k => match k with
  | 0 => .array .int
  | 1 => .int
  | 2 => .array .int
  | 3 => .int
  | 4 => .array .int
  | 5 => .array .int
  | 6 => .int
  | 7 => .int
  | 8 => .int
  | _ => .int
def g_T7 : u_T := fun k => match k with
  | 0 => ("GoodbyeQuay$Tape", "bytes", "[B", true)
  | _ => ("GoodbyeQuay$Tape", "size", "I", false)
def g_y7 : Nat → FieldType := fun k => match k with
  | 0 => .array .byte
  | _ => .int
def g_T8 : u_T := fun k => match k with
  | 0 => ("GoodbyeQuay$Told", "ships", "I", false)
  | 1 => ("GoodbyeQuay$Told", "shipNames", "[J", true)
  | 2 => ("GoodbyeQuay$Told", "sails", "[I", true)
  | 3 => ("GoodbyeQuay$Told", "waits", "[I", true)
  | 4 => ("GoodbyeQuay$Told", "pairs", "I", false)
  | 5 => ("GoodbyeQuay$Told", "pairNames", "[J", true)
  | 6 => ("GoodbyeQuay$Told", "shipOf", "[I", true)
  | 7 => ("GoodbyeQuay$Told", "needs", "[I", true)
  | 8 => ("GoodbyeQuay$Told", "loves", "[I", true)
  | 9 => ("GoodbyeQuay$Told", "custom", "I", false)
  | 10 => ("GoodbyeQuay$Told", "rails", "I", false)
  | 11 => ("GoodbyeQuay$Told", "quarrels", "I", false)
  | 12 => ("GoodbyeQuay$Told", "draw", "I", false)
  | _ => ("GoodbyeQuay$Told", "formula", "LGoodbyeQuay$Formula;", true)
def g_y8 : Nat → FieldType := fun k => match k with
  | 0 => .int
  | 1 => .array .long
  | 2 => .array .int
  | 3 => .array .int
  | 4 => .int
  | 5 => .array .long
  | 6 => .array .int
  | 7 => .array .int
  | 8 => .array .int
  | 9 => .int
  | 10 => .int
  | 11 => .int
  | 12 => .int
  | _ => .object "GoodbyeQuay$Formula"
def g_T9 : u_T := fun k => match k with
  | 0 => ("GoodbyeQuay$Trial", "told", "LGoodbyeQuay$Told;", false)
  | 1 => ("GoodbyeQuay$Trial", "line", "[I", true)
  | 2 => ("GoodbyeQuay$Trial", "size", "I", false)
  | 3 => ("GoodbyeQuay$Trial", "needs", "[I", true)
  | 4 => ("GoodbyeQuay$Trial", "guestShip", "I", false)
  | 5 => ("GoodbyeQuay$Trial", "sails", "[I", true)
  | 6 => ("GoodbyeQuay$Trial", "briefs", "I", false)
  | 7 => ("GoodbyeQuay$Trial", "custom", "I", false)
  | 8 => ("GoodbyeQuay$Trial", "quarrels", "I", false)
  | 9 => ("GoodbyeQuay$Trial", "seed", "I", false)
  | 10 => ("GoodbyeQuay$Trial", "rails", "I", false)
  | 11 => ("GoodbyeQuay$Trial", "railPair", "[I", true)
  | 12 => ("GoodbyeQuay$Trial", "railTime", "[I", true)
  | 13 => ("GoodbyeQuay$Trial", "freeAt", "[I", true)
  | 14 => ("GoodbyeQuay$Trial", "start", "I", false)
  | 15 => ("GoodbyeQuay$Trial", "saidBefore", "I", false)
  | 16 => ("GoodbyeQuay$Trial", "said", "I", false)
  | 17 => ("GoodbyeQuay$Trial", "missed", "I", false)
  | 18 => ("GoodbyeQuay$Trial", "outAt", "[I", true)
  | _ => ("GoodbyeQuay$Trial", "endAt", "[I", true)
def g_y9 : Nat → FieldType := fun k => match k with
  | 0 => .object "GoodbyeQuay$Told"
  | 1 => .array .int
  | 2 => .int
  | 3 => .array .int
  | 4 => .int
  | 5 => .array .int
  | 6 => .int
  | 7 => .int
  | 8 => .int
  | 9 => .int
  | 10 => .int
  | 11 => .array .int
  | 12 => .array .int
  | 13 => .array .int
  | 14 => .int
  | 15 => .int
  | 16 => .int
  | 17 => .int
  | 18 => .array .int
  | _ => .array .int
def g_T10 : u_T := fun k => match k with
  | 0 => ("GoodbyeQuay", "tape", "LGoodbyeQuay$Tape;", true)
  | 1 => ("GoodbyeQuay", "reader", "LGoodbyeQuay$Reader;", true)
  | 2 => ("GoodbyeQuay", "told", "LGoodbyeQuay$Told;", false)
  | 3 => ("GoodbyeQuay", "unused", "LGoodbyeQuay$Told;", false)
  | 4 => ("GoodbyeQuay", "now", "LGoodbyeQuay$State;", true)
  | 5 => ("GoodbyeQuay", "past", "LGoodbyeQuay$Past;", true)
  | 6 => ("GoodbyeQuay", "boxes", "[I", true)
  | 7 => ("GoodbyeQuay", "fullBoxes", "I", false)
  | 8 => ("GoodbyeQuay", "trial", "LGoodbyeQuay$Trial;", true)
  | 9 => ("GoodbyeQuay", "orders", "LGoodbyeQuay$Orders;", true)
  | 10 => ("GoodbyeQuay", "places", "LGoodbyeQuay$Places;", true)
  | 11 => ("GoodbyeQuay", "sight", "LGoodbyeQuay$Sight;", true)
  | 12 => ("GoodbyeQuay", "counts", "[I", true)
  | 13 => ("GoodbyeQuay", "pile", "[I", true)
  | _ => ("GoodbyeQuay", "pileSize", "I", false)
def g_y10 : Nat → FieldType := fun k => match k with
  | 0 => .object "GoodbyeQuay$Tape"
  | 1 => .object "GoodbyeQuay$Reader"
  | 2 => .object "GoodbyeQuay$Told"
  | 3 => .object "GoodbyeQuay$Told"
  | 4 => .object "GoodbyeQuay$State"
  | 5 => .object "GoodbyeQuay$Past"
  | 6 => .array .int
  | 7 => .int
  | 8 => .object "GoodbyeQuay$Trial"
  | 9 => .object "GoodbyeQuay$Orders"
  | 10 => .object "GoodbyeQuay$Places"
  | 11 => .object "GoodbyeQuay$Sight"
  | 12 => .array .int
  | 13 => .array .int
  | _ => .int
def g_T11 : u_T := fun k => match k with
  | 0 => ("GoodbyeQuayModel", "tape", "[I", true)
  | 1 => ("GoodbyeQuayModel", "taped", "I", false)
  | 2 => ("GoodbyeQuayModel", "fault", "I", false)
  | 3 => ("GoodbyeQuayModel", "faultPlace", "I", false)
  | 4 => ("GoodbyeQuayModel", "at", "I", false)
  | 5 => ("GoodbyeQuayModel", "size", "I", false)
  | 6 => ("GoodbyeQuayModel", "sort", "I", false)
  | 7 => ("GoodbyeQuayModel", "place", "I", false)
  | 8 => ("GoodbyeQuayModel", "number", "I", false)
  | 9 => ("GoodbyeQuayModel", "word", "J", false)
  | 10 => ("GoodbyeQuayModel", "nName", "[J", true)
  | 11 => ("GoodbyeQuayModel", "nStep", "[I", true)
  | 12 => ("GoodbyeQuayModel", "nArg", "[I", true)
  | 13 => ("GoodbyeQuayModel", "step", "[I", true)
  | 14 => ("GoodbyeQuayModel", "arg", "[I", true)
  | 15 => ("GoodbyeQuayModel", "open", "[I", true)
  | 16 => ("GoodbyeQuayModel", "values", "[I", true)
  | 17 => ("GoodbyeQuayModel", "nMany", "I", false)
  | 18 => ("GoodbyeQuayModel", "formSteps", "I", false)
  | 19 => ("GoodbyeQuayModel", "opens", "I", false)
  | 20 => ("GoodbyeQuayModel", "nUnits", "I", false)
  | 21 => ("GoodbyeQuayModel", "units", "I", false)
  | 22 => ("GoodbyeQuayModel", "ownUnits", "I", false)
  | 23 => ("GoodbyeQuayModel", "deep", "I", false)
  | 24 => ("GoodbyeQuayModel", "nHasForm", "Z", false)
  | 25 => ("GoodbyeQuayModel", "hasForm", "Z", false)
  | 26 => ("GoodbyeQuayModel", "asks", "[I", true)
  | 27 => ("GoodbyeQuayModel", "customNow", "I", false)
  | 28 => ("GoodbyeQuayModel", "railsNow", "I", false)
  | 29 => ("GoodbyeQuayModel", "lateShip", "I", false)
  | 30 => ("GoodbyeQuayModel", "lateBy", "I", false)
  | 31 => ("GoodbyeQuayModel", "nSails", "[I", true)
  | 32 => ("GoodbyeQuayModel", "nWaits", "[I", true)
  | 33 => ("GoodbyeQuayModel", "nShipOf", "[I", true)
  | 34 => ("GoodbyeQuayModel", "nNeeds", "[I", true)
  | 35 => ("GoodbyeQuayModel", "nLoves", "[I", true)
  | 36 => ("GoodbyeQuayModel", "sails", "[I", true)
  | 37 => ("GoodbyeQuayModel", "waits", "[I", true)
  | 38 => ("GoodbyeQuayModel", "shipOf", "[I", true)
  | 39 => ("GoodbyeQuayModel", "needs", "[I", true)
  | 40 => ("GoodbyeQuayModel", "loves", "[I", true)
  | 41 => ("GoodbyeQuayModel", "nShips", "I", false)
  | 42 => ("GoodbyeQuayModel", "nPairs", "I", false)
  | 43 => ("GoodbyeQuayModel", "nCustom", "I", false)
  | 44 => ("GoodbyeQuayModel", "nRails", "I", false)
  | 45 => ("GoodbyeQuayModel", "nQuarrels", "I", false)
  | 46 => ("GoodbyeQuayModel", "nDraw", "I", false)
  | 47 => ("GoodbyeQuayModel", "ships", "I", false)
  | 48 => ("GoodbyeQuayModel", "pairs", "I", false)
  | 49 => ("GoodbyeQuayModel", "custom", "I", false)
  | 50 => ("GoodbyeQuayModel", "rails", "I", false)
  | 51 => ("GoodbyeQuayModel", "quarrels", "I", false)
  | 52 => ("GoodbyeQuayModel", "seed", "I", false)
  | 53 => ("GoodbyeQuayModel", "nHasCustom", "Z", false)
  | 54 => ("GoodbyeQuayModel", "nHasRails", "Z", false)
  | 55 => ("GoodbyeQuayModel", "nHasQuarrels", "Z", false)
  | 56 => ("GoodbyeQuayModel", "nHasDraw", "Z", false)
  | 57 => ("GoodbyeQuayModel", "now", "[I", true)
  | 58 => ("GoodbyeQuayModel", "air", "[I", true)
  | 59 => ("GoodbyeQuayModel", "holdFor", "I", false)
  | 60 => ("GoodbyeQuayModel", "heldYet", "[I", true)
  | 61 => ("GoodbyeQuayModel", "isDue", "[Z", true)
  | 62 => ("GoodbyeQuayModel", "gone", "I", false)
  | 63 => ("GoodbyeQuayModel", "saidBehind", "[I", true)
  | 64 => ("GoodbyeQuayModel", "stepsBehind", "[I", true)
  | 65 => ("GoodbyeQuayModel", "were", "[I", true)
  | 66 => ("GoodbyeQuayModel", "acts", "I", false)
  | 67 => ("GoodbyeQuayModel", "undone", "I", false)
  | 68 => ("GoodbyeQuayModel", "lies", "[I", true)
  | 69 => ("GoodbyeQuayModel", "row", "[I", true)
  | 70 => ("GoodbyeQuayModel", "lain", "I", false)
  | 71 => ("GoodbyeQuayModel", "pointsTo", "[I", true)
  | 72 => ("GoodbyeQuayModel", "comesTo", "[I", true)
  | 73 => ("GoodbyeQuayModel", "sightAt", "[I", true)
  | 74 => ("GoodbyeQuayModel", "sightMany", "[I", true)
  | 75 => ("GoodbyeQuayModel", "sightTold", "[I", true)
  | 76 => ("GoodbyeQuayModel", "sightUntold", "[I", true)
  | 77 => ("GoodbyeQuayModel", "sightIs", "[Z", true)
  | 78 => ("GoodbyeQuayModel", "sights", "I", false)
  | 79 => ("GoodbyeQuayModel", "time", "I", false)
  | 80 => ("GoodbyeQuayModel", "was", "[I", true)
  | 81 => ("GoodbyeQuayModel", "tally", "[I", true)
  | 82 => ("GoodbyeQuayModel", "isFit", "[Z", true)
  | 83 => ("GoodbyeQuayModel", "hasBox", "[Z", true)
  | _ => ("GoodbyeQuayModel", "boxes", "[I", true)
def g_y11 : Nat → FieldType := fun k => match k with
  | 0 => .array .int
  | 1 => .int
  | 2 => .int
  | 3 => .int
  | 4 => .int
  | 5 => .int
  | 6 => .int
  | 7 => .int
  | 8 => .int
  | 9 => .long
  | 10 => .array .long
  | 11 => .array .int
  | 12 => .array .int
  | 13 => .array .int
  | 14 => .array .int
  | 15 => .array .int
  | 16 => .array .int
  | 17 => .int
  | 18 => .int
  | 19 => .int
  | 20 => .int
  | 21 => .int
  | 22 => .int
  | 23 => .int
  | 24 => .boolean
  | 25 => .boolean
  | 26 => .array .int
  | 27 => .int
  | 28 => .int
  | 29 => .int
  | 30 => .int
  | 31 => .array .int
  | 32 => .array .int
  | 33 => .array .int
  | 34 => .array .int
  | 35 => .array .int
  | 36 => .array .int
  | 37 => .array .int
  | 38 => .array .int
  | 39 => .array .int
  | 40 => .array .int
  | 41 => .int
  | 42 => .int
  | 43 => .int
  | 44 => .int
  | 45 => .int
  | 46 => .int
  | 47 => .int
  | 48 => .int
  | 49 => .int
  | 50 => .int
  | 51 => .int
  | 52 => .int
  | 53 => .boolean
  | 54 => .boolean
  | 55 => .boolean
  | 56 => .boolean
  | 57 => .array .int
  | 58 => .array .int
  | 59 => .int
  | 60 => .array .int
  | 61 => .array .boolean
  | 62 => .int
  | 63 => .array .int
  | 64 => .array .int
  | 65 => .array .int
  | 66 => .int
  | 67 => .int
  | 68 => .array .int
  | 69 => .array .int
  | 70 => .int
  | 71 => .array .int
  | 72 => .array .int
  | 73 => .array .int
  | 74 => .array .int
  | 75 => .array .int
  | 76 => .array .int
  | 77 => .array .boolean
  | 78 => .int
  | 79 => .int
  | 80 => .array .int
  | 81 => .array .int
  | 82 => .array .boolean
  | 83 => .array .boolean
  | _ => .array .int
def g_cl : List vw_C := [("GoodbyeQuay$Formula", g_T0, 5), ("GoodbyeQuay$Orders", g_T1, 8), ("GoodbyeQuay$Past", g_T2, 4), ("GoodbyeQuay$Places", g_T3, 4), ("GoodbyeQuay$Reader", g_T4, 10), ("GoodbyeQuay$Sight", g_T5, 10), ("GoodbyeQuay$State", g_T6, 10), ("GoodbyeQuay$Tape", g_T7, 2), ("GoodbyeQuay$Told", g_T8, 14), ("GoodbyeQuay$Trial", g_T9, 20), ("GoodbyeQuay", g_T10, 15), ("GoodbyeQuayModel", g_T11, 85)]
def g_ty : Nat → Nat → FieldType := fun c k => match c with
  | 0 => g_y0 k
  | 1 => g_y1 k
  | 2 => g_y2 k
  | 3 => g_y3 k
  | 4 => g_y4 k
  | 5 => g_y5 k
  | 6 => g_y6 k
  | 7 => g_y7 k
  | 8 => g_y8 k
  | 9 => g_y9 k
  | 10 => g_y10 k
  | _ => g_y11 k
def g_m0 : q_M := (⟨"GoodbyeQuay", "<init>", "()V"⟩, prog_1_method_1_code, 1, none, 1)
def g_m1 : q_M := (⟨"GoodbyeQuay", "about", "(I)I"⟩, prog_1_method_14_code, 2, some .int, 2)
def g_m2 : q_M := (⟨"GoodbyeQuay", "aboutKept", "(I)I"⟩, prog_1_method_15_code, 2, some .int, 2)
def g_m3 : q_M := (⟨"GoodbyeQuay", "agreeOnShort", "(IZ)I"⟩, prog_1_method_23_code, 3, some .int, 3)
def g_m4 : q_M := (⟨"GoodbyeQuay", "aside", "(I)I"⟩, prog_1_method_54_code, 6, some .int, 2)
def g_m5 : q_M := (⟨"GoodbyeQuay", "ask", "(II)I"⟩, prog_1_method_69_code, 8, some .int, 3)
def g_m6 : q_M := (⟨"GoodbyeQuay", "await", "(I)I"⟩, prog_1_method_26_code, 2, some .int, 2)
def g_m7 : q_M := (⟨"GoodbyeQuay", "back", "(I)I"⟩, prog_1_method_30_code, 2, some .int, 2)
def g_m8 : q_M := (⟨"GoodbyeQuay", "bitsOf", "(I)I"⟩, prog_1_method_74_code, 2, some .int, 2)
def g_m9 : q_M := (⟨"GoodbyeQuay", "blame", "(II)I"⟩, prog_1_method_59_code, 9, some .int, 3)
def g_m10 : q_M := (⟨"GoodbyeQuay", "change", "(II)I"⟩, prog_1_method_20_code, 5, some .int, 3)
def g_m11 : q_M := (⟨"GoodbyeQuay", "commonDivisor", "(II)I"⟩, prog_1_method_62_code, 6, some .int, 2)
def g_m12 : q_M := (⟨"GoodbyeQuay", "count", "()I"⟩, prog_1_method_36_code, 1, some .int, 1)
def g_m13 : q_M := (⟨"GoodbyeQuay", "countNow", "()I"⟩, prog_1_method_81_code, 1, some .int, 1)
def g_m14 : q_M := (⟨"GoodbyeQuay", "dearest", "()I"⟩, prog_1_method_46_code, 2, some .int, 1)
def g_m15 : q_M := (⟨"GoodbyeQuay", "delay", "(II)I"⟩, prog_1_method_57_code, 5, some .int, 3)
def g_m16 : q_M := (⟨"GoodbyeQuay", "empty", "()I"⟩, prog_1_method_35_code, 1, some .int, 1)
def g_m17 : q_M := (⟨"GoodbyeQuay", "end", "(I)I"⟩, prog_1_method_3_code, 2, some .int, 2)
def g_m18 : q_M := (⟨"GoodbyeQuay", "fault", "(I)I"⟩, prog_1_method_5_code, 2, some .int, 2)
def g_m19 : q_M := (⟨"GoodbyeQuay", "feed", "(IIIII)I"⟩, prog_1_method_2_code, 6, some .int, 6)
def g_m20 : q_M := (⟨"GoodbyeQuay", "fits", "(I)I"⟩, prog_1_method_67_code, 2, some .int, 2)
def g_m21 : q_M := (⟨"GoodbyeQuay", "fondest", "()I"⟩, prog_1_method_13_code, 4, some .int, 1)
def g_m22 : q_M := (⟨"GoodbyeQuay", "giveUp", "(I)I"⟩, prog_1_method_24_code, 2, some .int, 2)
def g_m23 : q_M := (⟨"GoodbyeQuay", "grudge", "(I)I"⟩, prog_1_method_58_code, 5, some .int, 2)
def g_m24 : q_M := (⟨"GoodbyeQuay", "hold", "(I)I"⟩, prog_1_method_44_code, 5, some .int, 2)
def g_m25 : q_M := (⟨"GoodbyeQuay", "holds", "(II)Z"⟩, prog_1_method_75_code, 2, some .boolean, 2)
def g_m26 : q_M := (⟨"GoodbyeQuay", "image", "(I)I"⟩, prog_1_method_29_code, 2, some .int, 2)
def g_m27 : q_M := (⟨"GoodbyeQuay", "inQueue", "(I)Z"⟩, prog_1_method_72_code, 2, some .boolean, 2)
def g_m28 : q_M := (⟨"GoodbyeQuay", "insist", "(I)I"⟩, prog_1_method_22_code, 2, some .int, 2)
def g_m29 : q_M := (⟨"GoodbyeQuay", "isFewer", "(II)Z"⟩, prog_1_method_50_code, 2, some .boolean, 2)
def g_m30 : q_M := (⟨"GoodbyeQuay", "isPair", "(I)Z"⟩, prog_1_method_71_code, 2, some .boolean, 2)
def g_m31 : q_M := (⟨"GoodbyeQuay", "isShip", "(I)Z"⟩, prog_1_method_70_code, 2, some .boolean, 2)
def g_m32 : q_M := (⟨"GoodbyeQuay", "join", "(I)I"⟩, prog_1_method_25_code, 2, some .int, 2)
def g_m33 : q_M := (⟨"GoodbyeQuay", "last", "(II)I"⟩, prog_1_method_41_code, 4, some .int, 3)
def g_m34 : q_M := (⟨"GoodbyeQuay", "later", "(I)I"⟩, prog_1_method_66_code, 2, some .int, 2)
def g_m35 : q_M := (⟨"GoodbyeQuay", "law", "(I)I"⟩, prog_1_method_39_code, 2, some .int, 2)
def g_m36 : q_M := (⟨"GoodbyeQuay", "layBestOrder", "()I"⟩, prog_1_method_47_code, 2, some .int, 1)
def g_m37 : q_M := (⟨"GoodbyeQuay", "length", "(I)I"⟩, prog_1_method_10_code, 2, some .int, 2)
def g_m38 : q_M := (⟨"GoodbyeQuay", "lets", "(I)I"⟩, prog_1_method_43_code, 2, some .int, 2)
def g_m39 : q_M := (⟨"GoodbyeQuay", "lies", "(I)I"⟩, prog_1_method_63_code, 2, some .int, 2)
def g_m40 : q_M := (⟨"GoodbyeQuay", "litter", "()I"⟩, prog_1_method_38_code, 1, some .int, 1)
def g_m41 : q_M := (⟨"GoodbyeQuay", "love", "()I"⟩, prog_1_method_37_code, 1, some .int, 1)
def g_m42 : q_M := (⟨"GoodbyeQuay", "loveOf", "(I)I"⟩, prog_1_method_79_code, 4, some .int, 2)
def g_m43 : q_M := (⟨"GoodbyeQuay", "minute", "()I"⟩, prog_1_method_16_code, 2, some .int, 1)
def g_m44 : q_M := (⟨"GoodbyeQuay", "missing", "()I"⟩, prog_1_method_34_code, 1, some .int, 1)
def g_m45 : q_M := (⟨"GoodbyeQuay", "odds", "(II)I"⟩, prog_1_method_60_code, 6, some .int, 3)
def g_m46 : q_M := (⟨"GoodbyeQuay", "openTrial", "()V"⟩, prog_1_method_80_code, 1, none, 1)
def g_m47 : q_M := (⟨"GoodbyeQuay", "order", "()I"⟩, prog_1_method_45_code, 2, some .int, 1)
def g_m48 : q_M := (⟨"GoodbyeQuay", "pair", "(II)I"⟩, prog_1_method_7_code, 3, some .int, 3)
def g_m49 : q_M := (⟨"GoodbyeQuay", "partOf", "(III)I"⟩, prog_1_method_61_code, 4, some .int, 3)
def g_m50 : q_M := (⟨"GoodbyeQuay", "quay", "()I"⟩, prog_1_method_4_code, 3, some .int, 1)
def g_m51 : q_M := (⟨"GoodbyeQuay", "queue", "(I)I"⟩, prog_1_method_8_code, 2, some .int, 2)
def g_m52 : q_M := (⟨"GoodbyeQuay", "rail", "(II)I"⟩, prog_1_method_9_code, 3, some .int, 3)
def g_m53 : q_M := (⟨"GoodbyeQuay", "redo", "()Z"⟩, prog_1_method_28_code, 1, some .boolean, 1)
def g_m54 : q_M := (⟨"GoodbyeQuay", "room", "()I"⟩, prog_1_method_42_code, 3, some .int, 1)
def g_m55 : q_M := (⟨"GoodbyeQuay", "runWithout", "(I)V"⟩, prog_1_method_83_code, 2, none, 2)
def g_m56 : q_M := (⟨"GoodbyeQuay", "says", "(I)I"⟩, prog_1_method_32_code, 2, some .int, 2)
def g_m57 : q_M := (⟨"GoodbyeQuay", "second", "()I"⟩, prog_1_method_40_code, 1, some .int, 1)
def g_m58 : q_M := (⟨"GoodbyeQuay", "seen", "(IIZ)I"⟩, prog_1_method_64_code, 4, some .int, 4)
def g_m59 : q_M := (⟨"GoodbyeQuay", "setOrSize", "(II)I"⟩, prog_1_method_51_code, 2, some .int, 2)
def g_m60 : q_M := (⟨"GoodbyeQuay", "ship", "(II)I"⟩, prog_1_method_6_code, 3, some .int, 3)
def g_m61 : q_M := (⟨"GoodbyeQuay", "shorten", "(I)I"⟩, prog_1_method_21_code, 2, some .int, 2)
def g_m62 : q_M := (⟨"GoodbyeQuay", "shortest", "(I)I"⟩, prog_1_method_48_code, 6, some .int, 2)
def g_m63 : q_M := (⟨"GoodbyeQuay", "soonest", "()I"⟩, prog_1_method_12_code, 4, some .int, 1)
def g_m64 : q_M := (⟨"GoodbyeQuay", "spare", "(I)I"⟩, prog_1_method_49_code, 7, some .int, 2)
def g_m65 : q_M := (⟨"GoodbyeQuay", "steps", "(I)I"⟩, prog_1_method_33_code, 2, some .int, 2)
def g_m66 : q_M := (⟨"GoodbyeQuay", "sure", "(II)I"⟩, prog_1_method_68_code, 7, some .int, 3)
def g_m67 : q_M := (⟨"GoodbyeQuay", "swap", "(I)I"⟩, prog_1_method_52_code, 8, some .int, 2)
def g_m68 : q_M := (⟨"GoodbyeQuay", "trade", "()I"⟩, prog_1_method_56_code, 3, some .int, 1)
def g_m69 : q_M := (⟨"GoodbyeQuay", "triedCount", "()I"⟩, prog_1_method_82_code, 1, some .int, 1)
def g_m70 : q_M := (⟨"GoodbyeQuay", "undo", "()Z"⟩, prog_1_method_27_code, 1, some .boolean, 1)
def g_m71 : q_M := (⟨"GoodbyeQuay", "untell", "(I)Z"⟩, prog_1_method_65_code, 2, some .boolean, 2)
def g_m72 : q_M := (⟨"GoodbyeQuay", "waves", "()I"⟩, prog_1_method_11_code, 1, some .int, 1)
def g_m73 : q_M := (⟨"GoodbyeQuay", "will", "(III)I"⟩, prog_1_method_31_code, 4, some .int, 4)
def g_m74 : q_M := (⟨"GoodbyeQuay", "wish", "(I)I"⟩, prog_1_method_55_code, 3, some .int, 2)
def g_m75 : q_M := (⟨"GoodbyeQuay$Formula", "<init>", "()V"⟩, prog_2_method_1_code, 1, none, 1)
def g_m76 : q_M := (⟨"GoodbyeQuay$Orders", "<init>", "(LGoodbyeQuay$Trial;)V"⟩, prog_3_method_1_code, 2, none, 2)
def g_m77 : q_M := (⟨"GoodbyeQuay$Orders", "findBest", "(I)I"⟩, prog_3_method_2_code, 3, some .int, 2)
def g_m78 : q_M := (⟨"GoodbyeQuay$Orders", "goOn", "(III)V"⟩, prog_3_method_3_code, 9, none, 4)
def g_m79 : q_M := (⟨"GoodbyeQuay$Orders", "keepIfMore", "(I)V"⟩, prog_3_method_4_code, 2, none, 2)
def g_m80 : q_M := (⟨"GoodbyeQuay$Past", "<init>", "()V"⟩, prog_4_method_1_code, 1, none, 1)
def g_m81 : q_M := (⟨"GoodbyeQuay$Past", "restart", "(LGoodbyeQuay$State;)V"⟩, prog_4_method_2_code, 2, none, 2)
def g_m82 : q_M := (⟨"GoodbyeQuay$Past", "rowNow", "()I"⟩, prog_4_method_6_code, 1, some .int, 1)
def g_m83 : q_M := (⟨"GoodbyeQuay$Past", "takeAgain", "(LGoodbyeQuay$State;)Z"⟩, prog_4_method_5_code, 2, some .boolean, 2)
def g_m84 : q_M := (⟨"GoodbyeQuay$Past", "takeBack", "(LGoodbyeQuay$State;)Z"⟩, prog_4_method_4_code, 2, some .boolean, 2)
def g_m85 : q_M := (⟨"GoodbyeQuay$Places", "<init>", "()V"⟩, prog_5_method_1_code, 1, none, 1)
def g_m86 : q_M := (⟨"GoodbyeQuay$Places", "tradeAll", "(I)I"⟩, prog_5_method_4_code, 9, some .int, 2)
def g_m87 : q_M := (⟨"GoodbyeQuay$Reader", "<init>", "(LGoodbyeQuay$Tape;LGoodbyeQuay$Told;)V"⟩, prog_6_method_1_code, 3, none, 3)
def g_m88 : q_M := (⟨"GoodbyeQuay$Reader", "advance", "()V"⟩, prog_6_method_4_code, 2, none, 1)
def g_m89 : q_M := (⟨"GoodbyeQuay$Reader", "isBlank", "(I)Z"⟩, prog_6_method_8_code, 1, some .boolean, 1)
def g_m90 : q_M := (⟨"GoodbyeQuay$Reader", "readInto", "(LGoodbyeQuay$Told;)Z"⟩, prog_6_method_2_code, 3, some .boolean, 2)
def g_m91 : q_M := (⟨"GoodbyeQuay$Sight", "<init>", "()V"⟩, prog_7_method_1_code, 1, none, 1)
def g_m92 : q_M := (⟨"GoodbyeQuay$Sight", "fitting", "(I)I"⟩, prog_7_method_5_code, 4, some .int, 2)
def g_m93 : q_M := (⟨"GoodbyeQuay$Sight", "restart", "(LGoodbyeQuay$Trial;LGoodbyeQuay$Told;LGoodbyeQuay$State;)V"⟩, prog_7_method_2_code, 5, none, 4)
def g_m94 : q_M := (⟨"GoodbyeQuay$Sight", "takeOut", "(I)Z"⟩, prog_7_method_4_code, 2, some .boolean, 2)
def g_m95 : q_M := (⟨"GoodbyeQuay$State", "<init>", "()V"⟩, prog_8_method_1_code, 1, none, 1)
def g_m96 : q_M := (⟨"GoodbyeQuay$State", "begin", "(LGoodbyeQuay$Told;)V"⟩, prog_8_method_2_code, 3, none, 2)
def g_m97 : q_M := (⟨"GoodbyeQuay$State", "bitsOf", "(II)I"⟩, prog_8_method_10_code, 5, some .int, 3)
def g_m98 : q_M := (⟨"GoodbyeQuay$State", "isEmpty", "()Z"⟩, prog_8_method_5_code, 3, some .boolean, 1)
def g_m99 : q_M := (⟨"GoodbyeQuay$State", "saveTo", "([II)V"⟩, prog_8_method_3_code, 4, none, 3)
def g_m100 : q_M := (⟨"GoodbyeQuay$Tape", "<init>", "()V"⟩, prog_9_method_1_code, 1, none, 1)
def g_m101 : q_M := (⟨"GoodbyeQuay$Tape", "byteAt", "(I)I"⟩, prog_9_method_3_code, 2, some .int, 2)
def g_m102 : q_M := (⟨"GoodbyeQuay$Tape", "put", "(I)V"⟩, prog_9_method_2_code, 3, none, 2)
def g_m103 : q_M := (⟨"GoodbyeQuay$Told", "<init>", "()V"⟩, prog_10_method_1_code, 1, none, 1)
def g_m104 : q_M := (⟨"GoodbyeQuay$Told", "clear", "()V"⟩, prog_10_method_2_code, 1, none, 1)
def g_m105 : q_M := (⟨"GoodbyeQuay$Trial", "<init>", "(LGoodbyeQuay$Told;)V"⟩, prog_11_method_1_code, 2, none, 2)
def g_m106 : q_M := (⟨"GoodbyeQuay$Trial", "emptyIn", "()I"⟩, prog_11_method_17_code, 3, some .int, 1)
def g_m107 : q_M := (⟨"GoodbyeQuay$Trial", "leaveOut", "(I)V"⟩, prog_11_method_5_code, 4, none, 2)
def g_m108 : q_M := (⟨"GoodbyeQuay$Trial", "open", "(LGoodbyeQuay$Told;LGoodbyeQuay$State;)V"⟩, prog_11_method_2_code, 5, none, 3)
def g_m109 : q_M := (⟨"GoodbyeQuay$Trial", "openRails", "(I)V"⟩, prog_11_method_8_code, 4, none, 2)
def g_m110 : q_M := (⟨"GoodbyeQuay$Trial", "run", "(I)V"⟩, prog_11_method_6_code, 3, none, 2)
def g_m111 : q_M := (⟨"GoodbyeQuayModel", "<init>", "()V"⟩, prog_13_method_1_code, 1, none, 1)
def g_m112 : q_M := (⟨"GoodbyeQuayModel", "about", "(I)I"⟩, prog_13_method_152_code, 2, some .int, 2)
def g_m113 : q_M := (⟨"GoodbyeQuayModel", "asTold", "()V"⟩, prog_13_method_52_code, 2, none, 1)
def g_m114 : q_M := (⟨"GoodbyeQuayModel", "aside", "(I)I"⟩, prog_13_method_130_code, 6, some .int, 2)
def g_m115 : q_M := (⟨"GoodbyeQuayModel", "ask", "(II)I"⟩, prog_13_method_147_code, 5, some .int, 3)
def g_m116 : q_M := (⟨"GoodbyeQuayModel", "await", "(I)I"⟩, prog_13_method_88_code, 2, some .int, 2)
def g_m117 : q_M := (⟨"GoodbyeQuayModel", "back", "(I)I"⟩, prog_13_method_150_code, 3, some .int, 2)
def g_m118 : q_M := (⟨"GoodbyeQuayModel", "bestOrder", "(I)I"⟩, prog_13_method_102_code, 7, some .int, 2)
def g_m119 : q_M := (⟨"GoodbyeQuayModel", "blame", "(II)I"⟩, prog_13_method_124_code, 7, some .int, 3)
def g_m120 : q_M := (⟨"GoodbyeQuayModel", "change", "(II)I"⟩, prog_13_method_82_code, 3, some .int, 3)
def g_m121 : q_M := (⟨"GoodbyeQuayModel", "count", "()I"⟩, prog_13_method_98_code, 1, some .int, 1)
def g_m122 : q_M := (⟨"GoodbyeQuayModel", "countHere", "()I"⟩, prog_13_method_69_code, 1, some .int, 1)
def g_m123 : q_M := (⟨"GoodbyeQuayModel", "dearest", "()I"⟩, prog_13_method_104_code, 1, some .int, 1)
def g_m124 : q_M := (⟨"GoodbyeQuayModel", "delay", "(II)I"⟩, prog_13_method_119_code, 5, some .int, 3)
def g_m125 : q_M := (⟨"GoodbyeQuayModel", "divisor", "(II)I"⟩, prog_13_method_122_code, 5, some .int, 2)
def g_m126 : q_M := (⟨"GoodbyeQuayModel", "doAllSay", "(I)Z"⟩, prog_13_method_107_code, 2, some .boolean, 2)
def g_m127 : q_M := (⟨"GoodbyeQuayModel", "empty", "()I"⟩, prog_13_method_97_code, 1, some .int, 1)
def g_m128 : q_M := (⟨"GoodbyeQuayModel", "end", "(I)I"⟩, prog_13_method_4_code, 2, some .int, 2)
def g_m129 : q_M := (⟨"GoodbyeQuayModel", "fault", "(I)I"⟩, prog_13_method_47_code, 2, some .int, 2)
def g_m130 : q_M := (⟨"GoodbyeQuayModel", "feed", "(IIIII)I"⟩, prog_13_method_2_code, 6, some .int, 6)
def g_m131 : q_M := (⟨"GoodbyeQuayModel", "fill", "()V"⟩, prog_13_method_53_code, 2, none, 1)
def g_m132 : q_M := (⟨"GoodbyeQuayModel", "fits", "(I)I"⟩, prog_13_method_144_code, 2, some .int, 2)
def g_m133 : q_M := (⟨"GoodbyeQuayModel", "fondest", "()I"⟩, prog_13_method_132_code, 3, some .int, 1)
def g_m134 : q_M := (⟨"GoodbyeQuayModel", "four", "(I)V"⟩, prog_13_method_3_code, 3, none, 2)
def g_m135 : q_M := (⟨"GoodbyeQuayModel", "giveUp", "(I)I"⟩, prog_13_method_86_code, 2, some .int, 2)
def g_m136 : q_M := (⟨"GoodbyeQuayModel", "goOn", "()V"⟩, prog_13_method_67_code, 1, none, 1)
def g_m137 : q_M := (⟨"GoodbyeQuayModel", "grudge", "(I)I"⟩, prog_13_method_120_code, 4, some .int, 2)
def g_m138 : q_M := (⟨"GoodbyeQuayModel", "here", "(I)I"⟩, prog_13_method_5_code, 2, some .int, 2)
def g_m139 : q_M := (⟨"GoodbyeQuayModel", "hold", "(I)I"⟩, prog_13_method_111_code, 4, some .int, 2)
def g_m140 : q_M := (⟨"GoodbyeQuayModel", "howMany", "(I)I"⟩, prog_13_method_151_code, 4, some .int, 2)
def g_m141 : q_M := (⟨"GoodbyeQuayModel", "image", "(I)I"⟩, prog_13_method_149_code, 3, some .int, 2)
def g_m142 : q_M := (⟨"GoodbyeQuayModel", "insist", "(I)I"⟩, prog_13_method_85_code, 2, some .int, 2)
def g_m143 : q_M := (⟨"GoodbyeQuayModel", "isBox", "(I)Z"⟩, prog_13_method_148_code, 1, some .boolean, 1)
def g_m144 : q_M := (⟨"GoodbyeQuayModel", "isEmpty", "()Z"⟩, prog_13_method_66_code, 3, some .boolean, 1)
def g_m145 : q_M := (⟨"GoodbyeQuayModel", "isFree", "(I)Z"⟩, prog_13_method_63_code, 2, some .boolean, 2)
def g_m146 : q_M := (⟨"GoodbyeQuayModel", "isIn", "(III)Z"⟩, prog_13_method_48_code, 3, some .boolean, 3)
def g_m147 : q_M := (⟨"GoodbyeQuayModel", "isPair", "(I)Z"⟩, prog_13_method_50_code, 2, some .boolean, 2)
def g_m148 : q_M := (⟨"GoodbyeQuayModel", "isQueued", "(I)Z"⟩, prog_13_method_75_code, 2, some .boolean, 2)
def g_m149 : q_M := (⟨"GoodbyeQuayModel", "isShip", "(I)Z"⟩, prog_13_method_49_code, 2, some .boolean, 2)
def g_m150 : q_M := (⟨"GoodbyeQuayModel", "join", "(I)I"⟩, prog_13_method_87_code, 2, some .int, 2)
def g_m151 : q_M := (⟨"GoodbyeQuayModel", "keepAir", "()V"⟩, prog_13_method_54_code, 2, none, 1)
def g_m152 : q_M := (⟨"GoodbyeQuayModel", "last", "(II)I"⟩, prog_13_method_128_code, 5, some .int, 3)
def g_m153 : q_M := (⟨"GoodbyeQuayModel", "later", "(I)I"⟩, prog_13_method_141_code, 2, some .int, 2)
def g_m154 : q_M := (⟨"GoodbyeQuayModel", "law", "(I)I"⟩, prog_13_method_135_code, 2, some .int, 2)
def g_m155 : q_M := (⟨"GoodbyeQuayModel", "layFits", "(I)I"⟩, prog_13_method_143_code, 6, some .int, 2)
def g_m156 : q_M := (⟨"GoodbyeQuayModel", "layTold", "()V"⟩, prog_13_method_51_code, 2, none, 1)
def g_m157 : q_M := (⟨"GoodbyeQuayModel", "leavesOnly", "(I)V"⟩, prog_13_method_109_code, 3, none, 2)
def g_m158 : q_M := (⟨"GoodbyeQuayModel", "length", "(I)I"⟩, prog_13_method_77_code, 2, some .int, 2)
def g_m159 : q_M := (⟨"GoodbyeQuayModel", "lesser", "(II)I"⟩, prog_13_method_37_code, 2, some .int, 2)
def g_m160 : q_M := (⟨"GoodbyeQuayModel", "lets", "(I)I"⟩, prog_13_method_126_code, 2, some .int, 2)
def g_m161 : q_M := (⟨"GoodbyeQuayModel", "lies", "(I)I"⟩, prog_13_method_138_code, 2, some .int, 2)
def g_m162 : q_M := (⟨"GoodbyeQuayModel", "litter", "()I"⟩, prog_13_method_134_code, 1, some .int, 1)
def g_m163 : q_M := (⟨"GoodbyeQuayModel", "love", "()I"⟩, prog_13_method_99_code, 1, some .int, 1)
def g_m164 : q_M := (⟨"GoodbyeQuayModel", "loveHere", "()I"⟩, prog_13_method_70_code, 3, some .int, 1)
def g_m165 : q_M := (⟨"GoodbyeQuayModel", "members", "(I)I"⟩, prog_13_method_39_code, 3, some .int, 1)
def g_m166 : q_M := (⟨"GoodbyeQuayModel", "minute", "()I"⟩, prog_13_method_80_code, 2, some .int, 1)
def g_m167 : q_M := (⟨"GoodbyeQuayModel", "missing", "()I"⟩, prog_13_method_96_code, 3, some .int, 1)
def g_m168 : q_M := (⟨"GoodbyeQuayModel", "nextRow", "(I)Z"⟩, prog_13_method_100_code, 6, some .boolean, 2)
def g_m169 : q_M := (⟨"GoodbyeQuayModel", "odds", "(II)I"⟩, prog_13_method_137_code, 6, some .int, 3)
def g_m170 : q_M := (⟨"GoodbyeQuayModel", "order", "()I"⟩, prog_13_method_103_code, 1, some .int, 1)
def g_m171 : q_M := (⟨"GoodbyeQuayModel", "pair", "(II)I"⟩, prog_13_method_72_code, 3, some .int, 3)
def g_m172 : q_M := (⟨"GoodbyeQuayModel", "power", "(II)I"⟩, prog_13_method_136_code, 4, some .int, 2)
def g_m173 : q_M := (⟨"GoodbyeQuayModel", "quay", "()I"⟩, prog_13_method_46_code, 2, some .int, 1)
def g_m174 : q_M := (⟨"GoodbyeQuayModel", "queue", "(I)I"⟩, prog_13_method_73_code, 2, some .int, 2)
def g_m175 : q_M := (⟨"GoodbyeQuayModel", "queueMany", "()I"⟩, prog_13_method_57_code, 1, some .int, 1)
def g_m176 : q_M := (⟨"GoodbyeQuayModel", "queuedOnes", "()I"⟩, prog_13_method_105_code, 3, some .int, 1)
def g_m177 : q_M := (⟨"GoodbyeQuayModel", "rail", "(II)I"⟩, prog_13_method_74_code, 3, some .int, 3)
def g_m178 : q_M := (⟨"GoodbyeQuayModel", "railedOnes", "()I"⟩, prog_13_method_106_code, 3, some .int, 1)
def g_m179 : q_M := (⟨"GoodbyeQuayModel", "readAll", "()V"⟩, prog_13_method_45_code, 1, none, 1)
def g_m180 : q_M := (⟨"GoodbyeQuayModel", "redo", "()Z"⟩, prog_13_method_90_code, 1, some .boolean, 1)
def g_m181 : q_M := (⟨"GoodbyeQuayModel", "room", "()I"⟩, prog_13_method_127_code, 4, some .int, 1)
def g_m182 : q_M := (⟨"GoodbyeQuayModel", "saidIfHeld", "(I)I"⟩, prog_13_method_125_code, 3, some .int, 2)
def g_m183 : q_M := (⟨"GoodbyeQuayModel", "saidOnes", "()I"⟩, prog_13_method_68_code, 3, some .int, 1)
def g_m184 : q_M := (⟨"GoodbyeQuayModel", "says", "(I)I"⟩, prog_13_method_94_code, 2, some .int, 2)
def g_m185 : q_M := (⟨"GoodbyeQuayModel", "second", "()I"⟩, prog_13_method_129_code, 1, some .int, 1)
def g_m186 : q_M := (⟨"GoodbyeQuayModel", "seen", "(IIZ)I"⟩, prog_13_method_139_code, 4, some .int, 4)
def g_m187 : q_M := (⟨"GoodbyeQuayModel", "ship", "(II)I"⟩, prog_13_method_71_code, 5, some .int, 3)
def g_m188 : q_M := (⟨"GoodbyeQuayModel", "shorten", "(I)I"⟩, prog_13_method_84_code, 2, some .int, 2)
def g_m189 : q_M := (⟨"GoodbyeQuayModel", "shortest", "(I)I"⟩, prog_13_method_108_code, 5, some .int, 2)
def g_m190 : q_M := (⟨"GoodbyeQuayModel", "soonest", "()I"⟩, prog_13_method_131_code, 3, some .int, 1)
def g_m191 : q_M := (⟨"GoodbyeQuayModel", "spare", "(I)I"⟩, prog_13_method_110_code, 5, some .int, 2)
def g_m192 : q_M := (⟨"GoodbyeQuayModel", "steps", "(I)I"⟩, prog_13_method_95_code, 2, some .int, 2)
def g_m193 : q_M := (⟨"GoodbyeQuayModel", "sure", "(II)I"⟩, prog_13_method_145_code, 5, some .int, 3)
def g_m194 : q_M := (⟨"GoodbyeQuayModel", "swap", "(I)I"⟩, prog_13_method_112_code, 8, some .int, 2)
def g_m195 : q_M := (⟨"GoodbyeQuayModel", "token", "()V"⟩, prog_13_method_9_code, 3, none, 1)
def g_m196 : q_M := (⟨"GoodbyeQuayModel", "trade", "()I"⟩, prog_13_method_116_code, 6, some .int, 1)
def g_m197 : q_M := (⟨"GoodbyeQuayModel", "truth", "(Z)I"⟩, prog_13_method_34_code, 1, some .int, 1)
def g_m198 : q_M := (⟨"GoodbyeQuayModel", "undo", "()Z"⟩, prog_13_method_89_code, 1, some .boolean, 1)
def g_m199 : q_M := (⟨"GoodbyeQuayModel", "untell", "(I)Z"⟩, prog_13_method_140_code, 2, some .boolean, 2)
def g_m200 : q_M := (⟨"GoodbyeQuayModel", "waves", "()I"⟩, prog_13_method_133_code, 1, some .int, 1)
def g_m201 : q_M := (⟨"GoodbyeQuayModel", "will", "(III)I"⟩, prog_13_method_91_code, 5, some .int, 4)
def g_m202 : q_M := (⟨"GoodbyeQuayModel", "wish", "(I)I"⟩, prog_13_method_114_code, 2, some .int, 2)
def g_m203 : q_M := (⟨"java/lang/Integer", "bitCount", "(I)I"⟩, prog_15_method_49_code, 1, some .int, 1)
def g_m204 : q_M := (⟨"java/lang/Math", "abs", "(I)I"⟩, prog_16_method_59_code, 1, some .int, 1)
def g_ms : List q_M := [g_m0, g_m1, g_m2, g_m3, g_m4, g_m5, g_m6, g_m7, g_m8, g_m9, g_m10, g_m11, g_m12, g_m13, g_m14, g_m15, g_m16, g_m17, g_m18, g_m19, g_m20, g_m21, g_m22, g_m23, g_m24, g_m25, g_m26, g_m27, g_m28, g_m29, g_m30, g_m31, g_m32, g_m33, g_m34, g_m35, g_m36, g_m37, g_m38, g_m39, g_m40, g_m41, g_m42, g_m43, g_m44, g_m45, g_m46, g_m47, g_m48, g_m49, g_m50, g_m51, g_m52, g_m53, g_m54, g_m55, g_m56, g_m57, g_m58, g_m59, g_m60, g_m61, g_m62, g_m63, g_m64, g_m65, g_m66, g_m67, g_m68, g_m69, g_m70, g_m71, g_m72, g_m73, g_m74, g_m75, g_m76, g_m77, g_m78, g_m79, g_m80, g_m81, g_m82, g_m83, g_m84, g_m85, g_m86, g_m87, g_m88, g_m89, g_m90, g_m91, g_m92, g_m93, g_m94, g_m95, g_m96, g_m97, g_m98, g_m99, g_m100, g_m101, g_m102, g_m103, g_m104, g_m105, g_m106, g_m107, g_m108, g_m109, g_m110, g_m111, g_m112, g_m113, g_m114, g_m115, g_m116, g_m117, g_m118, g_m119, g_m120, g_m121, g_m122, g_m123, g_m124, g_m125, g_m126, g_m127, g_m128, g_m129, g_m130, g_m131, g_m132, g_m133, g_m134, g_m135, g_m136, g_m137, g_m138, g_m139, g_m140, g_m141, g_m142, g_m143, g_m144, g_m145, g_m146, g_m147, g_m148, g_m149, g_m150, g_m151, g_m152, g_m153, g_m154, g_m155, g_m156, g_m157, g_m158, g_m159, g_m160, g_m161, g_m162, g_m163, g_m164, g_m165, g_m166, g_m167, g_m168, g_m169, g_m170, g_m171, g_m172, g_m173, g_m174, g_m175, g_m176, g_m177, g_m178, g_m179, g_m180, g_m181, g_m182, g_m183, g_m184, g_m185, g_m186, g_m187, g_m188, g_m189, g_m190, g_m191, g_m192, g_m193, g_m194, g_m195, g_m196, g_m197, g_m198, g_m199, g_m200, g_m201, g_m202, g_m203, g_m204]
end
section
def g_t0 : q_T := [
  [(.aload_n 0, 1, []), (.invokespecial 1, 3, []), (.nop, 0, []), (.nop, 0, []), (.aload_n 0, 1, []), (.new 7, 3, [7, 3, 0]), (.nop, 0, []), (.nop, 0, []), (.dup, 1, []), (.invokespecial 9, 3, [100, 1, 1]), (.nop, 0, []), (.nop, 0, []), (.putfield 10, 3, [10, 0, 3]), (.nop, 0, []), (.nop, 0, []), (.aload_n 0, 1, [])],
  [(.new 16, 3, [8, 0, 3, 3, 3, 0, 3, 3, 3, 3, 0, 0, 0, 0, 3]), (.nop, 0, []), (.nop, 0, []), (.dup, 1, []), (.invokespecial 18, 3, [103, 1, 1]), (.nop, 0, []), (.nop, 0, []), (.putfield 19, 3, [10, 2, 3]), (.nop, 0, []), (.nop, 0, []), (.aload_n 0, 1, []), (.new 16, 3, [8, 0, 3, 3, 3, 0, 3, 3, 3, 3, 0, 0, 0, 0, 3]), (.nop, 0, []), (.nop, 0, []), (.dup, 1, []), (.invokespecial 18, 3, [103, 1, 1])],
  [(.nop, 0, []), (.nop, 0, []), (.putfield 23, 3, [10, 3, 3]), (.nop, 0, []), (.nop, 0, []), (.aload_n 0, 1, []), (.new 26, 3, [4, 3, 3, 0, 0, 0, 0, 2, 0, 0, 0]), (.nop, 0, []), (.nop, 0, []), (.dup, 1, []), (.aload_n 0, 1, []), (.getfield 10, 3, [10, 0, 3]), (.nop, 0, []), (.nop, 0, []), (.aload_n 0, 1, []), (.getfield 23, 3, [10, 3, 3])],
  [(.nop, 0, []), (.nop, 0, []), (.invokespecial 28, 3, [87, 3, 3]), (.nop, 0, []), (.nop, 0, []), (.putfield 31, 3, [10, 1, 3]), (.nop, 0, []), (.nop, 0, []), (.aload_n 0, 1, []), (.new 35, 3, [6, 3, 0, 3, 0, 3, 3, 0, 0, 0, 0]), (.nop, 0, []), (.nop, 0, []), (.dup, 1, []), (.invokespecial 37, 3, [95, 1, 1]), (.nop, 0, []), (.nop, 0, [])],
  [(.putfield 38, 3, [10, 4, 3]), (.nop, 0, []), (.nop, 0, []), (.aload_n 0, 1, []), (.getfield 38, 3, [10, 4, 3]), (.nop, 0, []), (.nop, 0, []), (.aload_n 0, 1, []), (.getfield 19, 3, [10, 2, 3]), (.nop, 0, []), (.nop, 0, []), (.invokevirtual 42, 3, [96, 2, 3, 6]), (.nop, 0, []), (.nop, 0, []), (.aload_n 0, 1, []), (.new 46, 3, [2, 3, 0, 0, 0])],
  [(.nop, 0, []), (.nop, 0, []), (.dup, 1, []), (.invokespecial 48, 3, [80, 1, 1]), (.nop, 0, []), (.nop, 0, []), (.putfield 49, 3, [10, 5, 3]), (.nop, 0, []), (.nop, 0, []), (.aload_n 0, 1, []), (.getfield 49, 3, [10, 5, 3]), (.nop, 0, []), (.nop, 0, []), (.aload_n 0, 1, []), (.getfield 38, 3, [10, 4, 3]), (.nop, 0, [])],
  [(.nop, 0, []), (.invokevirtual 53, 3, [81, 2, 2, 2]), (.nop, 0, []), (.nop, 0, []), (.aload_n 0, 1, []), (.bipush 72, 2, []), (.nop, 0, []), (.newarray .int, 2, [100]), (.nop, 0, []), (.putfield 57, 3, [10, 6, 3]), (.nop, 0, []), (.nop, 0, []), (.aload_n 0, 1, []), (.new 61, 3, [9, 3, 3, 0, 3, 0, 3, 0, 0, 0, 0, 0, 3, 3, 3, 0, 0, 0, 0, 3, 3]), (.nop, 0, []), (.nop, 0, [])],
  [(.dup, 1, []), (.aload_n 0, 1, []), (.getfield 19, 3, [10, 2, 3]), (.nop, 0, []), (.nop, 0, []), (.invokespecial 63, 3, [105, 2, 2]), (.nop, 0, []), (.nop, 0, []), (.putfield 65, 3, [10, 8, 3]), (.nop, 0, []), (.nop, 0, []), (.aload_n 0, 1, []), (.new 69, 3, [1, 3, 3, 3, 3, 3, 3, 0, 0]), (.nop, 0, []), (.nop, 0, []), (.dup, 1, [])],
  [(.aload_n 0, 1, []), (.getfield 65, 3, [10, 8, 3]), (.nop, 0, []), (.nop, 0, []), (.invokespecial 71, 3, [76, 2, 2]), (.nop, 0, []), (.nop, 0, []), (.putfield 74, 3, [10, 9, 3]), (.nop, 0, []), (.nop, 0, []), (.aload_n 0, 1, []), (.new 78, 3, [3, 3, 3, 3, 0]), (.nop, 0, []), (.nop, 0, []), (.dup, 1, []), (.invokespecial 80, 3, [85, 1, 1])],
  [(.nop, 0, []), (.nop, 0, []), (.putfield 81, 3, [10, 10, 3]), (.nop, 0, []), (.nop, 0, []), (.aload_n 0, 1, []), (.new 85, 3, [5, 0, 0, 0, 3, 3, 3, 3, 3, 3, 3]), (.nop, 0, []), (.nop, 0, []), (.dup, 1, []), (.invokespecial 87, 3, [91, 1, 1]), (.nop, 0, []), (.nop, 0, []), (.putfield 88, 3, [10, 11, 3]), (.nop, 0, []), (.nop, 0, [])],
  [(.aload_n 0, 1, []), (.sipush 128, 3, []), (.nop, 0, []), (.nop, 0, []), (.newarray .int, 2, [100]), (.nop, 0, []), (.putfield 92, 3, [10, 12, 3]), (.nop, 0, []), (.nop, 0, []), (.aload_n 0, 1, []), (.bipush 7, 2, []), (.nop, 0, []), (.newarray .int, 2, [100]), (.nop, 0, []), (.putfield 95, 3, [10, 13, 3]), (.nop, 0, [])],
  [(.nop, 0, []), (.return_, 1, [])]]
def g_t1 : q_T := [
  [(.iload_n 1, 1, []), (.bipush 8, 2, []), (.nop, 0, []), (.if_icmp .lt 9, 3, [12]), (.nop, 0, []), (.nop, 0, []), (.aload_n 0, 1, []), (.iload_n 1, 1, []), (.invokevirtual 195, 3, [2, 2, 2, 10]), (.nop, 0, []), (.nop, 0, []), (.ireturn, 1, [0]), (.iload_n 1, 1, []), (.tableswitch 107 0 7 #[47, 55, 63, 71, 79, 85, 91, 99], 47, [120, 60, 68, 76, 84, 92, 98, 104, 112]), (.nop, 0, []), (.nop, 0, [])],
  [(.nop, 0, []), (.nop, 0, []), (.nop, 0, []), (.nop, 0, []), (.nop, 0, []), (.nop, 0, []), (.nop, 0, []), (.nop, 0, []), (.nop, 0, []), (.nop, 0, []), (.nop, 0, []), (.nop, 0, []), (.nop, 0, []), (.nop, 0, []), (.nop, 0, []), (.nop, 0, [])],
  [(.nop, 0, []), (.nop, 0, []), (.nop, 0, []), (.nop, 0, []), (.nop, 0, []), (.nop, 0, []), (.nop, 0, []), (.nop, 0, []), (.nop, 0, []), (.nop, 0, []), (.nop, 0, []), (.nop, 0, []), (.nop, 0, []), (.nop, 0, []), (.nop, 0, []), (.nop, 0, [])],
  [(.nop, 0, []), (.nop, 0, []), (.nop, 0, []), (.nop, 0, []), (.nop, 0, []), (.nop, 0, []), (.nop, 0, []), (.nop, 0, []), (.nop, 0, []), (.nop, 0, []), (.nop, 0, []), (.nop, 0, []), (.aload_n 0, 1, []), (.getfield 19, 3, [10, 2, 3]), (.nop, 0, []), (.nop, 0, [])],
  [(.getfield 119, 3, [8, 4, 0]), (.nop, 0, []), (.nop, 0, []), (.ireturn, 1, [0]), (.aload_n 0, 1, []), (.getfield 19, 3, [10, 2, 3]), (.nop, 0, []), (.nop, 0, []), (.getfield 192, 3, [8, 0, 0]), (.nop, 0, []), (.nop, 0, []), (.ireturn, 1, [0]), (.aload_n 0, 1, []), (.getfield 38, 3, [10, 4, 3]), (.nop, 0, []), (.nop, 0, [])],
  [(.getfield 170, 3, [6, 1, 0]), (.nop, 0, []), (.nop, 0, []), (.ireturn, 1, [0]), (.aload_n 0, 1, []), (.getfield 19, 3, [10, 2, 3]), (.nop, 0, []), (.nop, 0, []), (.getfield 174, 3, [8, 10, 0]), (.nop, 0, []), (.nop, 0, []), (.ireturn, 1, [0]), (.aload_n 0, 1, []), (.iconst 2, 1, []), (.invokevirtual 198, 3, [8, 2, 2, 10]), (.nop, 0, [])],
  [(.nop, 0, []), (.ireturn, 1, [0]), (.aload_n 0, 1, []), (.iconst 3, 1, []), (.invokevirtual 198, 3, [8, 2, 2, 10]), (.nop, 0, []), (.nop, 0, []), (.ireturn, 1, [0]), (.aload_n 0, 1, []), (.getfield 38, 3, [10, 4, 3]), (.nop, 0, []), (.nop, 0, []), (.getfield 201, 3, [6, 8, 0]), (.nop, 0, []), (.nop, 0, []), (.ireturn, 1, [0])],
  [(.aload_n 0, 1, []), (.getfield 38, 3, [10, 4, 3]), (.nop, 0, []), (.nop, 0, []), (.getfield 204, 3, [6, 9, 0]), (.nop, 0, []), (.nop, 0, []), (.ireturn, 1, [0]), (.iconst (-1), 1, []), (.ireturn, 1, [0])]]
def g_t2 : q_T := [
  [(.iload_n 1, 1, []), (.tableswitch 123 8 16 #[51, 59, 67, 75, 83, 91, 102, 107, 115], 51, [124, 52, 60, 68, 76, 84, 92, 103, 108, 116]), (.nop, 0, []), (.nop, 0, []), (.nop, 0, []), (.nop, 0, []), (.nop, 0, []), (.nop, 0, []), (.nop, 0, []), (.nop, 0, []), (.nop, 0, []), (.nop, 0, []), (.nop, 0, []), (.nop, 0, []), (.nop, 0, []), (.nop, 0, [])],
  [(.nop, 0, []), (.nop, 0, []), (.nop, 0, []), (.nop, 0, []), (.nop, 0, []), (.nop, 0, []), (.nop, 0, []), (.nop, 0, []), (.nop, 0, []), (.nop, 0, []), (.nop, 0, []), (.nop, 0, []), (.nop, 0, []), (.nop, 0, []), (.nop, 0, []), (.nop, 0, [])],
  [(.nop, 0, []), (.nop, 0, []), (.nop, 0, []), (.nop, 0, []), (.nop, 0, []), (.nop, 0, []), (.nop, 0, []), (.nop, 0, []), (.nop, 0, []), (.nop, 0, []), (.nop, 0, []), (.nop, 0, []), (.nop, 0, []), (.nop, 0, []), (.nop, 0, []), (.nop, 0, [])],
  [(.nop, 0, []), (.nop, 0, []), (.nop, 0, []), (.nop, 0, []), (.aload_n 0, 1, []), (.getfield 49, 3, [10, 5, 3]), (.nop, 0, []), (.nop, 0, []), (.getfield 207, 3, [2, 2, 0]), (.nop, 0, []), (.nop, 0, []), (.ireturn, 1, [0]), (.aload_n 0, 1, []), (.getfield 49, 3, [10, 5, 3]), (.nop, 0, []), (.nop, 0, [])],
  [(.getfield 210, 3, [2, 3, 0]), (.nop, 0, []), (.nop, 0, []), (.ireturn, 1, [0]), (.aload_n 0, 1, []), (.getfield 88, 3, [10, 11, 3]), (.nop, 0, []), (.nop, 0, []), (.getfield 213, 3, [5, 1, 0]), (.nop, 0, []), (.nop, 0, []), (.ireturn, 1, [0]), (.aload_n 0, 1, []), (.getfield 88, 3, [10, 11, 3]), (.nop, 0, []), (.nop, 0, [])],
  [(.getfield 214, 3, [5, 0, 0]), (.nop, 0, []), (.nop, 0, []), (.ireturn, 1, [0]), (.aload_n 0, 1, []), (.getfield 10, 3, [10, 0, 3]), (.nop, 0, []), (.nop, 0, []), (.getfield 98, 3, [7, 1, 0]), (.nop, 0, []), (.nop, 0, []), (.ireturn, 1, [0]), (.aload_n 0, 1, []), (.getfield 19, 3, [10, 2, 3]), (.nop, 0, []), (.nop, 0, [])],
  [(.getfield 217, 3, [8, 13, 3]), (.nop, 0, []), (.nop, 0, []), (.getfield 221, 3, [0, 4, 0]), (.nop, 0, []), (.nop, 0, []), (.ireturn, 1, [0]), (.aload_n 0, 1, []), (.getfield 113, 3, [10, 14, 0]), (.nop, 0, []), (.nop, 0, []), (.ireturn, 1, [0]), (.aload_n 0, 1, []), (.getfield 19, 3, [10, 2, 3]), (.nop, 0, []), (.nop, 0, [])],
  [(.getfield 226, 3, [8, 9, 0]), (.nop, 0, []), (.nop, 0, []), (.ireturn, 1, [0]), (.aload_n 0, 1, []), (.getfield 19, 3, [10, 2, 3]), (.nop, 0, []), (.nop, 0, []), (.getfield 229, 3, [8, 11, 0]), (.nop, 0, []), (.nop, 0, []), (.ireturn, 1, [0]), (.iconst (-1), 1, []), (.ireturn, 1, [0])]]
def g_t3 : q_T := [
  [(.aload_n 0, 1, []), (.iload_n 1, 1, []), (.invokevirtual 183, 3, [27, 2, 2, 10]), (.nop, 0, []), (.nop, 0, []), (.ifCond .eq 15, 3, [20]), (.nop, 0, []), (.nop, 0, []), (.aload_n 0, 1, []), (.getfield 38, 3, [10, 4, 3]), (.nop, 0, []), (.nop, 0, []), (.iload_n 1, 1, []), (.nop, 0, []), (.nop, 0, []), (.nop, 0, [])],
  [(.iload_n 2, 1, []), (.if_icmp .ne 5, 3, [22]), (.nop, 0, []), (.nop, 0, []), (.iconst (-1), 1, []), (.ireturn, 1, [0]), (.aload_n 0, 1, []), (.getfield 38, 3, [10, 4, 3]), (.nop, 0, []), (.nop, 0, []), (.dup, 1, []), (.getfield 270, 3, [6, 3, 0]), (.nop, 0, []), (.nop, 0, []), (.iconst 1, 1, []), (.iload_n 1, 1, [])],
  [(.ishl, 1, []), (.ixor, 1, []), (.putfield 270, 3, [6, 3, 0]), (.nop, 0, []), (.nop, 0, []), (.aload_n 0, 1, []), (.getfield 49, 3, [10, 5, 3]), (.nop, 0, []), (.nop, 0, []), (.aload_n 0, 1, []), (.getfield 38, 3, [10, 4, 3]), (.nop, 0, []), (.nop, 0, []), (.nop, 0, []), (.nop, 0, []), (.nop, 0, [])],
  [(.aload_n 0, 1, []), (.iload_n 1, 1, []), (.nop, 0, []), (.nop, 0, []), (.nop, 0, []), (.ireturn, 1, [0])]]
def g_t4 : q_T := [
  [(.iload_n 1, 1, []), (.ifCond .lt 8, 3, [9]), (.nop, 0, []), (.nop, 0, []), (.iload_n 1, 1, []), (.iconst 1, 1, []), (.if_icmp .le 5, 3, [11]), (.nop, 0, []), (.nop, 0, []), (.iconst (-1), 1, []), (.ireturn, 1, [0]), (.iconst (-1), 1, []), (.istore_n 2, 1, []), (.iconst (-1), 1, []), (.istore_n 3, 1, []), (.iconst 0, 1, [])],
  [(.istore 4, 2, []), (.nop, 0, []), (.iload 4, 2, []), (.nop, 0, []), (.aload_n 0, 1, []), (.getfield 19, 3, [10, 2, 3]), (.nop, 0, []), (.nop, 0, []), (.getfield 119, 3, [8, 4, 0]), (.nop, 0, []), (.nop, 0, []), (.if_icmp .ge 59, 3, [86]), (.nop, 0, []), (.nop, 0, []), (.aload_n 0, 1, []), (.iload 4, 2, [])],
  [(.nop, 0, []), (.invokevirtual 183, 3, [27, 2, 2, 10]), (.nop, 0, []), (.nop, 0, []), (.ifCond .ne 6, 3, [42]), (.nop, 0, []), (.nop, 0, []), (.goto 41, 3, [80]), (.nop, 0, []), (.nop, 0, []), (.aload_n 0, 1, []), (.invokevirtual 294, 3, [46, 1, 1, 10]), (.nop, 0, []), (.nop, 0, []), (.aload_n 0, 1, []), (.getfield 65, 3, [10, 8, 3])],
  [(.nop, 0, []), (.nop, 0, []), (.aload_n 0, 1, []), (.getfield 38, 3, [10, 4, 3]), (.nop, 0, []), (.nop, 0, []), (.iload 4, 2, []), (.nop, 0, []), (.nop, 0, []), (.nop, 0, []), (.nop, 0, []), (.nop, 0, []), (.nop, 0, []), (.nop, 0, []), (.aload_n 0, 1, []), (.invokevirtual 329, 3, [69, 1, 1, 10])],
  [(.nop, 0, []), (.nop, 0, []), (.istore 5, 2, []), (.nop, 0, []), (.iload 5, 2, []), (.nop, 0, []), (.iload_n 2, 1, []), (.if_icmp .le 9, 3, [80]), (.nop, 0, []), (.nop, 0, []), (.iload 5, 2, []), (.nop, 0, []), (.istore_n 2, 1, []), (.iload 4, 2, []), (.nop, 0, []), (.istore_n 3, 1, [])],
  [(.iinc 4 1, 3, []), (.nop, 0, []), (.nop, 0, []), (.goto (-65), 3, [18]), (.nop, 0, []), (.nop, 0, []), (.iload_n 1, 1, []), (.ifCond .ne 7, 3, [94]), (.nop, 0, []), (.nop, 0, []), (.iload_n 3, 1, []), (.goto 4, 3, [95]), (.nop, 0, []), (.nop, 0, []), (.iload_n 2, 1, []), (.ireturn, 1, [0])]]
def g_t5 : q_T := [
  [(.aload_n 0, 1, []), (.getfield 88, 3, [10, 11, 3]), (.nop, 0, []), (.nop, 0, []), (.iload_n 2, 1, []), (.invokevirtual 416, 3, [92, 2, 4, 5]), (.nop, 0, []), (.nop, 0, []), (.istore_n 3, 1, []), (.iload_n 3, 1, []), (.ifCond .eq 12, 3, [22]), (.nop, 0, []), (.nop, 0, []), (.iload_n 1, 1, []), (.ifCond .lt 8, 3, [22]), (.nop, 0, [])],
  [(.nop, 0, []), (.iload_n 1, 1, []), (.iconst 1, 1, []), (.if_icmp .le 5, 3, [24]), (.nop, 0, []), (.nop, 0, []), (.iconst (-1), 1, []), (.ireturn, 1, [0]), (.iconst 0, 1, []), (.istore 4, 2, []), (.nop, 0, []), (.aload_n 0, 1, []), (.getfield 88, 3, [10, 11, 3]), (.nop, 0, []), (.nop, 0, []), (.iload_n 3, 1, [])],
  [(.iconst 0, 1, []), (.nop, 0, []), (.nop, 0, []), (.nop, 0, []), (.istore 5, 2, []), (.nop, 0, []), (.iconst 1, 1, []), (.istore 6, 2, []), (.nop, 0, []), (.iload 6, 2, []), (.nop, 0, []), (.bipush 60, 2, []), (.nop, 0, []), (.if_icmp .gt 36, 3, [81]), (.nop, 0, []), (.nop, 0, [])],
  [(.aload_n 0, 1, []), (.getfield 88, 3, [10, 11, 3]), (.nop, 0, []), (.nop, 0, []), (.iload_n 3, 1, []), (.iload 6, 2, []), (.nop, 0, []), (.nop, 0, []), (.nop, 0, []), (.nop, 0, []), (.istore 7, 2, []), (.nop, 0, []), (.iload 7, 2, []), (.nop, 0, []), (.iload 5, 2, []), (.nop, 0, [])],
  [(.if_icmp .ge 11, 3, [75]), (.nop, 0, []), (.nop, 0, []), (.iload 7, 2, []), (.nop, 0, []), (.istore 5, 2, []), (.nop, 0, []), (.iload 6, 2, []), (.nop, 0, []), (.istore 4, 2, []), (.nop, 0, []), (.iinc 6 1, 3, []), (.nop, 0, []), (.nop, 0, []), (.goto (-37), 3, [41]), (.nop, 0, [])],
  [(.nop, 0, []), (.iload_n 1, 1, []), (.ifCond .ne 8, 3, [90]), (.nop, 0, []), (.nop, 0, []), (.iload 4, 2, []), (.nop, 0, []), (.goto 5, 3, [92]), (.nop, 0, []), (.nop, 0, []), (.iload 5, 2, []), (.nop, 0, []), (.ireturn, 1, [0])]]
def g_t6 : q_T := [
  [(.aload_n 0, 1, []), (.iload_n 1, 1, []), (.invokevirtual 128, 3, [31, 2, 2, 10]), (.nop, 0, []), (.nop, 0, []), (.ifCond .eq 22, 3, [27]), (.nop, 0, []), (.nop, 0, []), (.aload_n 0, 1, []), (.getfield 38, 3, [10, 4, 3]), (.nop, 0, []), (.nop, 0, []), (.iload_n 1, 1, []), (.nop, 0, []), (.nop, 0, []), (.nop, 0, [])],
  [(.ifCond .ne 11, 3, [27]), (.nop, 0, []), (.nop, 0, []), (.aload_n 0, 1, []), (.iload_n 1, 1, []), (.nop, 0, []), (.nop, 0, []), (.nop, 0, []), (.ifCond .eq 5, 3, [29]), (.nop, 0, []), (.nop, 0, []), (.iconst (-1), 1, []), (.ireturn, 1, [0]), (.aload_n 0, 1, []), (.getfield 38, 3, [10, 4, 3]), (.nop, 0, [])],
  [(.nop, 0, []), (.dup, 1, []), (.getfield 273, 3, [6, 6, 0]), (.nop, 0, []), (.nop, 0, []), (.iconst 1, 1, []), (.iload_n 1, 1, []), (.ishl, 1, []), (.ior, 1, []), (.putfield 273, 3, [6, 6, 0]), (.nop, 0, []), (.nop, 0, []), (.aload_n 0, 1, []), (.getfield 49, 3, [10, 5, 3]), (.nop, 0, []), (.nop, 0, [])],
  [(.aload_n 0, 1, []), (.getfield 38, 3, [10, 4, 3]), (.nop, 0, []), (.nop, 0, []), (.nop, 0, []), (.nop, 0, []), (.nop, 0, []), (.aload_n 0, 1, []), (.getfield 38, 3, [10, 4, 3]), (.nop, 0, []), (.nop, 0, []), (.aload_n 0, 1, []), (.getfield 19, 3, [10, 2, 3]), (.nop, 0, []), (.nop, 0, []), (.iload_n 1, 1, [])],
  [(.nop, 0, []), (.nop, 0, []), (.nop, 0, []), (.ireturn, 1, [0])]]
def g_t7 : q_T := [
  [(.iload_n 1, 1, []), (.ifCond .lt 19, 3, [20]), (.nop, 0, []), (.nop, 0, []), (.iload_n 1, 1, []), (.iconst 3, 1, []), (.if_icmp .ge 14, 3, [20]), (.nop, 0, []), (.nop, 0, []), (.aload_n 0, 1, []), (.getfield 110, 3, [10, 7, 0]), (.nop, 0, []), (.nop, 0, []), (.iload_n 1, 1, []), (.invokestatic 287, 3, [25, 2, 2]), (.nop, 0, [])],
  [(.nop, 0, []), (.ifCond .ne 5, 3, [22]), (.nop, 0, []), (.nop, 0, []), (.iconst (-1), 1, []), (.ireturn, 1, [0]), (.aload_n 0, 1, []), (.getfield 38, 3, [10, 4, 3]), (.nop, 0, []), (.nop, 0, []), (.aload_n 0, 1, []), (.getfield 57, 3, [10, 6, 3]), (.nop, 0, []), (.nop, 0, []), (.iload_n 1, 1, []), (.bipush 24, 2, [])],
  [(.nop, 0, []), (.imul, 1, []), (.nop, 0, []), (.nop, 0, []), (.nop, 0, []), (.aload_n 0, 1, []), (.getfield 49, 3, [10, 5, 3]), (.nop, 0, []), (.nop, 0, []), (.aload_n 0, 1, []), (.getfield 38, 3, [10, 4, 3]), (.nop, 0, []), (.nop, 0, []), (.invokevirtual 53, 3, [81, 2, 2, 2]), (.nop, 0, []), (.nop, 0, [])],
  [(.aload_n 0, 1, []), (.getfield 38, 3, [10, 4, 3]), (.nop, 0, []), (.nop, 0, []), (.getfield 201, 3, [6, 8, 0]), (.nop, 0, []), (.nop, 0, []), (.ireturn, 1, [0])]]
def g_t8 : q_T := [
  [(.aload_n 0, 1, []), (.getfield 38, 3, [10, 4, 3]), (.nop, 0, []), (.nop, 0, []), (.iload_n 1, 1, []), (.aload_n 0, 1, []), (.getfield 19, 3, [10, 2, 3]), (.nop, 0, []), (.nop, 0, []), (.getfield 119, 3, [8, 4, 0]), (.nop, 0, []), (.nop, 0, []), (.invokevirtual 422, 3, [97, 3, 5, 6]), (.nop, 0, []), (.nop, 0, []), (.ireturn, 1, [0])]]
def g_t9 : q_T := [
  [(.aload_n 0, 1, []), (.iload_n 1, 1, []), (.invokevirtual 183, 3, [27, 2, 2, 10]), (.nop, 0, []), (.nop, 0, []), (.ifCond .eq 12, 3, [17]), (.nop, 0, []), (.nop, 0, []), (.iload_n 2, 1, []), (.ifCond .lt 8, 3, [17]), (.nop, 0, []), (.nop, 0, []), (.iload_n 2, 1, []), (.iconst 1, 1, []), (.if_icmp .le 7, 3, [21]), (.nop, 0, [])],
  [(.nop, 0, []), (.sipush (-1000), 3, []), (.nop, 0, []), (.nop, 0, []), (.ireturn, 1, [0]), (.aload_n 0, 1, []), (.iconst 0, 1, []), (.invokevirtual 198, 3, [8, 2, 2, 10]), (.nop, 0, []), (.nop, 0, []), (.istore_n 3, 1, []), (.iconst 0, 1, []), (.istore 4, 2, []), (.nop, 0, []), (.iload 4, 2, []), (.nop, 0, [])],
  [(.iload_n 3, 1, []), (.if_icmp .gt 45, 3, [78]), (.nop, 0, []), (.nop, 0, []), (.iload 4, 2, []), (.nop, 0, []), (.iload_n 3, 1, []), (.iconst (-1), 1, []), (.ixor, 1, []), (.iand, 1, []), (.ifCond .ne 30, 3, [72]), (.nop, 0, []), (.nop, 0, []), (.aload_n 0, 1, []), (.iload_n 3, 1, []), (.iload 4, 2, [])],
  [(.nop, 0, []), (.iconst (-1), 1, []), (.ixor, 1, []), (.iand, 1, []), (.invokevirtual 368, 3, [55, 2, 2, 10]), (.nop, 0, []), (.nop, 0, []), (.aload_n 0, 1, []), (.getfield 92, 3, [10, 12, 3]), (.nop, 0, []), (.nop, 0, []), (.iload 4, 2, []), (.nop, 0, []), (.aload_n 0, 1, []), (.getfield 65, 3, [10, 8, 3]), (.nop, 0, [])],
  [(.nop, 0, []), (.getfield 317, 3, [9, 16, 0]), (.nop, 0, []), (.nop, 0, []), (.invokestatic 323, 3, [203, 1, 1]), (.nop, 0, []), (.nop, 0, []), (.iastore, 1, []), (.iinc 4 1, 3, []), (.nop, 0, []), (.nop, 0, []), (.goto (-45), 3, [30]), (.nop, 0, []), (.nop, 0, []), (.iconst 0, 1, []), (.istore 4, 2, [])],
  [(.nop, 0, []), (.iload_n 3, 1, []), (.iconst 1, 1, []), (.iload_n 1, 1, []), (.ishl, 1, []), (.iconst (-1), 1, []), (.ixor, 1, []), (.iand, 1, []), (.istore 5, 2, []), (.nop, 0, []), (.iconst 0, 1, []), (.istore 6, 2, []), (.nop, 0, []), (.iload 6, 2, []), (.nop, 0, []), (.iload 5, 2, [])],
  [(.nop, 0, []), (.if_icmp .gt 78, 3, [175]), (.nop, 0, []), (.nop, 0, []), (.iload 6, 2, []), (.nop, 0, []), (.iload 5, 2, []), (.nop, 0, []), (.iconst (-1), 1, []), (.ixor, 1, []), (.iand, 1, []), (.ifCond .ne 62, 3, [169]), (.nop, 0, []), (.nop, 0, []), (.iload 6, 2, []), (.nop, 0, [])],
  [(.invokestatic 323, 3, [203, 1, 1]), (.nop, 0, []), (.nop, 0, []), (.istore 7, 2, []), (.nop, 0, []), (.nop, 0, []), (.nop, 0, []), (.nop, 0, []), (.iload 7, 2, []), (.nop, 0, []), (.iaload, 1, []), (.nop, 0, []), (.nop, 0, []), (.nop, 0, []), (.aload_n 0, 1, []), (.getfield 38, 3, [10, 4, 3])],
  [(.nop, 0, []), (.nop, 0, []), (.getfield 170, 3, [6, 1, 0]), (.nop, 0, []), (.nop, 0, []), (.iconst 1, 1, []), (.isub, 1, []), (.iload 7, 2, []), (.nop, 0, []), (.isub, 1, []), (.iaload, 1, []), (.imul, 1, []), (.istore 8, 2, []), (.nop, 0, []), (.iload 4, 2, []), (.nop, 0, [])],
  [(.iload 8, 2, []), (.nop, 0, []), (.aload_n 0, 1, []), (.getfield 92, 3, [10, 12, 3]), (.nop, 0, []), (.nop, 0, []), (.iload 6, 2, []), (.nop, 0, []), (.iconst 1, 1, []), (.iload_n 1, 1, []), (.ishl, 1, []), (.ior, 1, []), (.iaload, 1, []), (.aload_n 0, 1, []), (.getfield 92, 3, [10, 12, 3]), (.nop, 0, [])],
  [(.nop, 0, []), (.iload 6, 2, []), (.nop, 0, []), (.iaload, 1, []), (.isub, 1, []), (.imul, 1, []), (.iadd, 1, []), (.istore 4, 2, []), (.nop, 0, []), (.iinc 6 1, 3, []), (.nop, 0, []), (.nop, 0, []), (.goto (-79), 3, [93]), (.nop, 0, []), (.nop, 0, []), (.iload 4, 2, [])],
  [(.nop, 0, []), (.nop, 0, []), (.nop, 0, []), (.nop, 0, []), (.aload_n 0, 1, []), (.getfield 38, 3, [10, 4, 3]), (.nop, 0, []), (.nop, 0, []), (.getfield 170, 3, [6, 1, 0]), (.nop, 0, []), (.nop, 0, []), (.iaload, 1, []), (.iload_n 2, 1, []), (.invokestatic 396, 3, [49, 3, 4]), (.nop, 0, []), (.nop, 0, [])],
  [(.ireturn, 1, [0])]]
def g_t10 : q_T := [
  [(.iload_n 1, 1, []), (.iload_n 2, 1, []), (.if_icmp .eq 19, 3, [21]), (.nop, 0, []), (.nop, 0, []), (.aload_n 0, 1, []), (.iload_n 1, 1, []), (.invokevirtual 183, 3, [27, 2, 2, 10]), (.nop, 0, []), (.nop, 0, []), (.ifCond .eq 11, 3, [21]), (.nop, 0, []), (.nop, 0, []), (.aload_n 0, 1, []), (.iload_n 2, 1, []), (.invokevirtual 183, 3, [27, 2, 2, 10])],
  [(.nop, 0, []), (.nop, 0, []), (.ifCond .ne 5, 3, [23]), (.nop, 0, []), (.nop, 0, []), (.iconst (-1), 1, []), (.ireturn, 1, [0]), (.aload_n 0, 1, []), (.getfield 38, 3, [10, 4, 3]), (.nop, 0, []), (.nop, 0, []), (.iload_n 1, 1, []), (.nop, 0, []), (.nop, 0, []), (.nop, 0, []), (.istore_n 3, 1, [])],
  [(.aload_n 0, 1, []), (.getfield 38, 3, [10, 4, 3]), (.nop, 0, []), (.nop, 0, []), (.iload_n 2, 1, []), (.nop, 0, []), (.nop, 0, []), (.nop, 0, []), (.istore 4, 2, []), (.nop, 0, []), (.aload_n 0, 1, []), (.getfield 38, 3, [10, 4, 3]), (.nop, 0, []), (.nop, 0, []), (.getfield 171, 3, [6, 0, 3]), (.nop, 0, [])],
  [(.nop, 0, []), (.iload_n 3, 1, []), (.iload_n 2, 1, []), (.iastore, 1, []), (.aload_n 0, 1, []), (.getfield 38, 3, [10, 4, 3]), (.nop, 0, []), (.nop, 0, []), (.getfield 171, 3, [6, 0, 3]), (.nop, 0, []), (.nop, 0, []), (.iload 4, 2, []), (.nop, 0, []), (.iload_n 1, 1, []), (.iastore, 1, []), (.aload_n 0, 1, [])],
  [(.getfield 49, 3, [10, 5, 3]), (.nop, 0, []), (.nop, 0, []), (.aload_n 0, 1, []), (.getfield 38, 3, [10, 4, 3]), (.nop, 0, []), (.nop, 0, []), (.nop, 0, []), (.nop, 0, []), (.nop, 0, []), (.aload_n 0, 1, []), (.invokevirtual 263, 3, [13, 1, 1, 10]), (.nop, 0, []), (.nop, 0, []), (.ireturn, 1, [0])]]
def g_t11 : q_T := [
  [(.iload_n 0, 1, []), (.istore_n 2, 1, []), (.iload_n 1, 1, []), (.istore_n 3, 1, []), (.iconst 0, 1, []), (.istore 4, 2, []), (.nop, 0, []), (.iload 4, 2, []), (.nop, 0, []), (.bipush 64, 2, []), (.nop, 0, []), (.if_icmp .ge 23, 3, [34]), (.nop, 0, []), (.nop, 0, []), (.iload_n 3, 1, []), (.ifCond .eq 19, 3, [34])],
  [(.nop, 0, []), (.nop, 0, []), (.iload_n 2, 1, []), (.iload_n 3, 1, []), (.irem, 1, []), (.istore 5, 2, []), (.nop, 0, []), (.iload_n 3, 1, []), (.istore_n 2, 1, []), (.iload 5, 2, []), (.nop, 0, []), (.istore_n 3, 1, []), (.iinc 4 1, 3, []), (.nop, 0, []), (.nop, 0, []), (.goto (-24), 3, [7])],
  [(.nop, 0, []), (.nop, 0, []), (.iload_n 2, 1, []), (.ireturn, 1, [0])]]
def g_t12 : q_T := [
  [(.aload_n 0, 1, []), (.invokevirtual 263, 3, [13, 1, 1, 10]), (.nop, 0, []), (.nop, 0, []), (.ireturn, 1, [0])]]
def g_t13 : q_T := [
  [(.aload_n 0, 1, []), (.invokevirtual 294, 3, [46, 1, 1, 10]), (.nop, 0, []), (.nop, 0, []), (.aload_n 0, 1, []), (.invokevirtual 329, 3, [69, 1, 1, 10]), (.nop, 0, []), (.nop, 0, []), (.ireturn, 1, [0])]]
def g_t14 : q_T := [
  [(.aload_n 0, 1, []), (.invokevirtual 294, 3, [46, 1, 1, 10]), (.nop, 0, []), (.nop, 0, []), (.aload_n 0, 1, []), (.getfield 65, 3, [10, 8, 3]), (.nop, 0, []), (.nop, 0, []), (.iconst 0, 1, []), (.invokevirtual 299, 3, [110, 2, 3, 9]), (.nop, 0, []), (.nop, 0, []), (.iconst 0, 1, []), (.istore_n 1, 1, []), (.iload_n 1, 1, []), (.bipush 7, 2, [])],
  [(.nop, 0, []), (.if_icmp .ge 42, 3, [59]), (.nop, 0, []), (.nop, 0, []), (.aload_n 0, 1, []), (.getfield 74, 3, [10, 9, 3]), (.nop, 0, []), (.nop, 0, []), (.getfield 343, 3, [1, 0, 3]), (.nop, 0, []), (.nop, 0, []), (.iload_n 1, 1, []), (.iload_n 1, 1, []), (.aload_n 0, 1, []), (.getfield 19, 3, [10, 2, 3]), (.nop, 0, [])],
  [(.nop, 0, []), (.getfield 119, 3, [8, 4, 0]), (.nop, 0, []), (.nop, 0, []), (.if_icmp .ge 15, 3, [51]), (.nop, 0, []), (.nop, 0, []), (.aload_n 0, 1, []), (.getfield 19, 3, [10, 2, 3]), (.nop, 0, []), (.nop, 0, []), (.getfield 158, 3, [8, 8, 3]), (.nop, 0, []), (.nop, 0, []), (.iload_n 1, 1, []), (.iaload, 1, [])],
  [(.goto 4, 3, [52]), (.nop, 0, []), (.nop, 0, []), (.iconst 0, 1, []), (.iastore, 1, []), (.iinc 1 1, 3, []), (.nop, 0, []), (.nop, 0, []), (.goto (-42), 3, [14]), (.nop, 0, []), (.nop, 0, []), (.aload_n 0, 1, []), (.aload_n 0, 1, []), (.getfield 65, 3, [10, 8, 3]), (.nop, 0, []), (.nop, 0, [])],
  [(.getfield 317, 3, [9, 16, 0]), (.nop, 0, []), (.nop, 0, []), (.aload_n 0, 1, []), (.iconst 0, 1, []), (.invokevirtual 198, 3, [8, 2, 2, 10]), (.nop, 0, []), (.nop, 0, []), (.iconst (-1), 1, []), (.ixor, 1, []), (.iand, 1, []), (.invokevirtual 320, 3, [42, 2, 4, 10]), (.nop, 0, []), (.nop, 0, []), (.istore_n 1, 1, []), (.aload_n 0, 1, [])],
  [(.invokevirtual 346, 3, [36, 1, 2, 10]), (.nop, 0, []), (.nop, 0, []), (.iload_n 1, 1, []), (.iadd, 1, []), (.ireturn, 1, [0])]]
def g_t15 : q_T := [
  [(.iload_n 1, 1, []), (.iload_n 2, 1, []), (.if_icmp .eq 19, 3, [21]), (.nop, 0, []), (.nop, 0, []), (.aload_n 0, 1, []), (.iload_n 1, 1, []), (.invokevirtual 149, 3, [30, 2, 2, 10]), (.nop, 0, []), (.nop, 0, []), (.ifCond .eq 11, 3, [21]), (.nop, 0, []), (.nop, 0, []), (.aload_n 0, 1, []), (.iload_n 2, 1, []), (.invokevirtual 183, 3, [27, 2, 2, 10])],
  [(.nop, 0, []), (.nop, 0, []), (.ifCond .ne 5, 3, [23]), (.nop, 0, []), (.nop, 0, []), (.iconst (-1), 1, []), (.ireturn, 1, [0]), (.aload_n 0, 1, []), (.iconst 0, 1, []), (.invokevirtual 368, 3, [55, 2, 2, 10]), (.nop, 0, []), (.nop, 0, []), (.aload_n 0, 1, []), (.getfield 65, 3, [10, 8, 3]), (.nop, 0, []), (.nop, 0, [])],
  [(.iload_n 1, 1, []), (.nop, 0, []), (.nop, 0, []), (.nop, 0, []), (.istore_n 3, 1, []), (.aload_n 0, 1, []), (.iconst 1, 1, []), (.iload_n 2, 1, []), (.ishl, 1, []), (.invokevirtual 368, 3, [55, 2, 2, 10]), (.nop, 0, []), (.nop, 0, []), (.aload_n 0, 1, []), (.getfield 65, 3, [10, 8, 3]), (.nop, 0, []), (.nop, 0, [])],
  [(.iload_n 1, 1, []), (.nop, 0, []), (.nop, 0, []), (.nop, 0, []), (.istore 4, 2, []), (.nop, 0, []), (.iload 4, 2, []), (.nop, 0, []), (.iconst (-1), 1, []), (.if_icmp .ne 5, 3, [62]), (.nop, 0, []), (.nop, 0, []), (.iconst 0, 1, []), (.ireturn, 1, [0]), (.iload_n 3, 1, []), (.iconst (-1), 1, [])],
  [(.if_icmp .ne 8, 3, [72]), (.nop, 0, []), (.nop, 0, []), (.bipush 60, 2, []), (.nop, 0, []), (.goto 7, 3, [76]), (.nop, 0, []), (.nop, 0, []), (.iload_n 3, 1, []), (.iload 4, 2, []), (.nop, 0, []), (.isub, 1, []), (.ireturn, 1, [0])]]
def g_t16 : q_T := [
  [(.aload_n 0, 1, []), (.invokevirtual 294, 3, [46, 1, 1, 10]), (.nop, 0, []), (.nop, 0, []), (.aload_n 0, 1, []), (.getfield 65, 3, [10, 8, 3]), (.nop, 0, []), (.nop, 0, []), (.iconst 0, 1, []), (.invokevirtual 299, 3, [110, 2, 3, 9]), (.nop, 0, []), (.nop, 0, []), (.aload_n 0, 1, []), (.getfield 65, 3, [10, 8, 3]), (.nop, 0, []), (.nop, 0, [])],
  [(.invokevirtual 314, 3, [106, 1, 3, 9]), (.nop, 0, []), (.nop, 0, []), (.ireturn, 1, [0])]]
def g_t17 : q_T := [
  [(.iload_n 1, 1, []), (.ifCond .lt 14, 3, [15]), (.nop, 0, []), (.nop, 0, []), (.iload_n 1, 1, []), (.aload_n 0, 1, []), (.getfield 10, 3, [10, 0, 3]), (.nop, 0, []), (.nop, 0, []), (.getfield 98, 3, [7, 1, 0]), (.nop, 0, []), (.nop, 0, []), (.if_icmp .le 5, 3, [17]), (.nop, 0, []), (.nop, 0, []), (.iconst (-1), 1, [])],
  [(.ireturn, 1, [0]), (.aload_n 0, 1, []), (.getfield 10, 3, [10, 0, 3]), (.nop, 0, []), (.nop, 0, []), (.iload_n 1, 1, []), (.putfield 98, 3, [7, 1, 0]), (.nop, 0, []), (.nop, 0, []), (.iload_n 1, 1, []), (.ireturn, 1, [0])]]
def g_t18 : q_T := [
  [(.iload_n 1, 1, []), (.ifCond .ne 11, 3, [12]), (.nop, 0, []), (.nop, 0, []), (.aload_n 0, 1, []), (.getfield 31, 3, [10, 1, 3]), (.nop, 0, []), (.nop, 0, []), (.getfield 122, 3, [4, 8, 0]), (.nop, 0, []), (.nop, 0, []), (.ireturn, 1, [0]), (.iload_n 1, 1, []), (.iconst 1, 1, []), (.if_icmp .ne 13, 3, [27]), (.nop, 0, [])],
  [(.nop, 0, []), (.aload_n 0, 1, []), (.getfield 31, 3, [10, 1, 3]), (.nop, 0, []), (.nop, 0, []), (.getfield 125, 3, [4, 9, 0]), (.nop, 0, []), (.nop, 0, []), (.goto 4, 3, [28]), (.nop, 0, []), (.nop, 0, []), (.iconst (-1), 1, []), (.ireturn, 1, [0])]]
def g_t19 : q_T := [
  [(.aload_n 0, 1, []), (.getfield 10, 3, [10, 0, 3]), (.nop, 0, []), (.nop, 0, []), (.getfield 98, 3, [7, 1, 0]), (.nop, 0, []), (.nop, 0, []), (.bipush 20, 2, []), (.nop, 0, []), (.iadd, 1, []), (.sipush 1600, 3, []), (.nop, 0, []), (.nop, 0, []), (.if_icmp .le 5, 3, [18]), (.nop, 0, []), (.nop, 0, [])],
  [(.iconst (-1), 1, []), (.ireturn, 1, [0]), (.aload_n 0, 1, []), (.getfield 10, 3, [10, 0, 3]), (.nop, 0, []), (.nop, 0, []), (.iload_n 1, 1, []), (.invokevirtual 102, 3, [102, 2, 3, 7]), (.nop, 0, []), (.nop, 0, []), (.aload_n 0, 1, []), (.getfield 10, 3, [10, 0, 3]), (.nop, 0, []), (.nop, 0, []), (.iload_n 2, 1, []), (.invokevirtual 102, 3, [102, 2, 3, 7])],
  [(.nop, 0, []), (.nop, 0, []), (.aload_n 0, 1, []), (.getfield 10, 3, [10, 0, 3]), (.nop, 0, []), (.nop, 0, []), (.iload_n 3, 1, []), (.invokevirtual 102, 3, [102, 2, 3, 7]), (.nop, 0, []), (.nop, 0, []), (.aload_n 0, 1, []), (.getfield 10, 3, [10, 0, 3]), (.nop, 0, []), (.nop, 0, []), (.iload 4, 2, []), (.nop, 0, [])],
  [(.invokevirtual 102, 3, [102, 2, 3, 7]), (.nop, 0, []), (.nop, 0, []), (.aload_n 0, 1, []), (.getfield 10, 3, [10, 0, 3]), (.nop, 0, []), (.nop, 0, []), (.iload 5, 2, []), (.nop, 0, []), (.invokevirtual 102, 3, [102, 2, 3, 7]), (.nop, 0, []), (.nop, 0, []), (.aload_n 0, 1, []), (.getfield 10, 3, [10, 0, 3]), (.nop, 0, []), (.nop, 0, [])],
  [(.getfield 98, 3, [7, 1, 0]), (.nop, 0, []), (.nop, 0, []), (.ireturn, 1, [0])]]
def g_t20 : q_T := [
  [(.aload_n 0, 1, []), (.getfield 88, 3, [10, 11, 3]), (.nop, 0, []), (.nop, 0, []), (.iload_n 1, 1, []), (.invokevirtual 416, 3, [92, 2, 4, 5]), (.nop, 0, []), (.nop, 0, []), (.invokestatic 323, 3, [203, 1, 1]), (.nop, 0, []), (.nop, 0, []), (.ireturn, 1, [0])]]
def g_t21 : q_T := [
  [(.iconst (-1), 1, []), (.istore_n 1, 1, []), (.iconst 0, 1, []), (.istore_n 2, 1, []), (.iload_n 2, 1, []), (.aload_n 0, 1, []), (.getfield 38, 3, [10, 4, 3]), (.nop, 0, []), (.nop, 0, []), (.getfield 170, 3, [6, 1, 0]), (.nop, 0, []), (.nop, 0, []), (.if_icmp .ge 47, 3, [59]), (.nop, 0, []), (.nop, 0, []), (.aload_n 0, 1, [])],
  [(.getfield 38, 3, [10, 4, 3]), (.nop, 0, []), (.nop, 0, []), (.getfield 171, 3, [6, 0, 3]), (.nop, 0, []), (.nop, 0, []), (.iload_n 2, 1, []), (.iaload, 1, []), (.istore_n 3, 1, []), (.iload_n 1, 1, []), (.iconst (-1), 1, []), (.if_icmp .eq 24, 3, [51]), (.nop, 0, []), (.nop, 0, []), (.aload_n 0, 1, []), (.getfield 19, 3, [10, 2, 3])],
  [(.nop, 0, []), (.nop, 0, []), (.getfield 158, 3, [8, 8, 3]), (.nop, 0, []), (.nop, 0, []), (.iload_n 3, 1, []), (.iaload, 1, []), (.aload_n 0, 1, []), (.getfield 19, 3, [10, 2, 3]), (.nop, 0, []), (.nop, 0, []), (.getfield 158, 3, [8, 8, 3]), (.nop, 0, []), (.nop, 0, []), (.iload_n 1, 1, []), (.iaload, 1, [])],
  [(.if_icmp .le 5, 3, [53]), (.nop, 0, []), (.nop, 0, []), (.iload_n 3, 1, []), (.istore_n 1, 1, []), (.iinc 2 1, 3, []), (.nop, 0, []), (.nop, 0, []), (.goto (-52), 3, [4]), (.nop, 0, []), (.nop, 0, []), (.iload_n 1, 1, []), (.ireturn, 1, [0])]]
def g_t22 : q_T := [
  [(.aload_n 0, 1, []), (.iload_n 1, 1, []), (.invokevirtual 183, 3, [27, 2, 2, 10]), (.nop, 0, []), (.nop, 0, []), (.ifCond .ne 5, 3, [10]), (.nop, 0, []), (.nop, 0, []), (.iconst (-1), 1, []), (.ireturn, 1, [0]), (.aload_n 0, 1, []), (.getfield 38, 3, [10, 4, 3]), (.nop, 0, []), (.nop, 0, []), (.aload_n 0, 1, []), (.getfield 38, 3, [10, 4, 3])],
  [(.nop, 0, []), (.nop, 0, []), (.iload_n 1, 1, []), (.nop, 0, []), (.nop, 0, []), (.nop, 0, []), (.nop, 0, []), (.nop, 0, []), (.nop, 0, []), (.aload_n 0, 1, []), (.getfield 38, 3, [10, 4, 3]), (.nop, 0, []), (.nop, 0, []), (.getfield 161, 3, [6, 2, 3]), (.nop, 0, []), (.nop, 0, [])],
  [(.iload_n 1, 1, []), (.iconst 4, 1, []), (.iastore, 1, []), (.aload_n 0, 1, []), (.getfield 49, 3, [10, 5, 3]), (.nop, 0, []), (.nop, 0, []), (.aload_n 0, 1, []), (.getfield 38, 3, [10, 4, 3]), (.nop, 0, []), (.nop, 0, []), (.nop, 0, []), (.nop, 0, []), (.nop, 0, []), (.aload_n 0, 1, []), (.getfield 38, 3, [10, 4, 3])],
  [(.nop, 0, []), (.nop, 0, []), (.getfield 170, 3, [6, 1, 0]), (.nop, 0, []), (.nop, 0, []), (.ireturn, 1, [0])]]
def g_t23 : q_T := [
  [(.aload_n 0, 1, []), (.iload_n 1, 1, []), (.invokevirtual 183, 3, [27, 2, 2, 10]), (.nop, 0, []), (.nop, 0, []), (.ifCond .ne 5, 3, [10]), (.nop, 0, []), (.nop, 0, []), (.iconst (-1), 1, []), (.ireturn, 1, [0]), (.aload_n 0, 1, []), (.iconst 0, 1, []), (.invokevirtual 368, 3, [55, 2, 2, 10]), (.nop, 0, []), (.nop, 0, []), (.aload_n 0, 1, [])],
  [(.getfield 65, 3, [10, 8, 3]), (.nop, 0, []), (.nop, 0, []), (.iload_n 1, 1, []), (.nop, 0, []), (.nop, 0, []), (.nop, 0, []), (.iconst (-1), 1, []), (.if_icmp .eq 5, 3, [29]), (.nop, 0, []), (.nop, 0, []), (.iconst (-1), 1, []), (.ireturn, 1, [0]), (.iconst 0, 1, []), (.istore_n 2, 1, []), (.iconst 0, 1, [])],
  [(.istore_n 3, 1, []), (.iload_n 3, 1, []), (.aload_n 0, 1, []), (.getfield 38, 3, [10, 4, 3]), (.nop, 0, []), (.nop, 0, []), (.getfield 170, 3, [6, 1, 0]), (.nop, 0, []), (.nop, 0, []), (.if_icmp .ge 56, 3, [97]), (.nop, 0, []), (.nop, 0, []), (.aload_n 0, 1, []), (.getfield 38, 3, [10, 4, 3]), (.nop, 0, []), (.nop, 0, [])],
  [(.getfield 171, 3, [6, 0, 3]), (.nop, 0, []), (.nop, 0, []), (.iload_n 3, 1, []), (.iaload, 1, []), (.istore 4, 2, []), (.nop, 0, []), (.iload 4, 2, []), (.nop, 0, []), (.iload_n 1, 1, []), (.if_icmp .ne 6, 3, [64]), (.nop, 0, []), (.nop, 0, []), (.goto 30, 3, [91]), (.nop, 0, []), (.nop, 0, [])],
  [(.aload_n 0, 1, []), (.iconst 1, 1, []), (.iload 4, 2, []), (.nop, 0, []), (.ishl, 1, []), (.invokevirtual 368, 3, [55, 2, 2, 10]), (.nop, 0, []), (.nop, 0, []), (.aload_n 0, 1, []), (.getfield 65, 3, [10, 8, 3]), (.nop, 0, []), (.nop, 0, []), (.iload_n 1, 1, []), (.nop, 0, []), (.nop, 0, []), (.nop, 0, [])],
  [(.iconst (-1), 1, []), (.if_icmp .eq 10, 3, [91]), (.nop, 0, []), (.nop, 0, []), (.iload_n 2, 1, []), (.iconst 1, 1, []), (.iload 4, 2, []), (.nop, 0, []), (.ishl, 1, []), (.ior, 1, []), (.istore_n 2, 1, []), (.iinc 3 1, 3, []), (.nop, 0, []), (.nop, 0, []), (.goto (-61), 3, [33]), (.nop, 0, [])],
  [(.nop, 0, []), (.iload_n 2, 1, []), (.ireturn, 1, [0])]]
def g_t24 : q_T := [
  [(.aload_n 0, 1, []), (.iload_n 1, 1, []), (.invokevirtual 128, 3, [31, 2, 2, 10]), (.nop, 0, []), (.nop, 0, []), (.ifCond .eq 11, 3, [16]), (.nop, 0, []), (.nop, 0, []), (.aload_n 0, 1, []), (.iload_n 1, 1, []), (.nop, 0, []), (.nop, 0, []), (.nop, 0, []), (.ifCond .eq 5, 3, [18]), (.nop, 0, []), (.nop, 0, [])],
  [(.iconst (-1), 1, []), (.ireturn, 1, [0]), (.aload_n 0, 1, []), (.getfield 19, 3, [10, 2, 3]), (.nop, 0, []), (.nop, 0, []), (.iload_n 1, 1, []), (.nop, 0, []), (.nop, 0, []), (.nop, 0, []), (.aload_n 0, 1, []), (.iconst 0, 1, []), (.invokevirtual 198, 3, [8, 2, 2, 10]), (.nop, 0, []), (.nop, 0, []), (.aload_n 0, 1, [])],
  [(.iconst 1, 1, []), (.invokevirtual 198, 3, [8, 2, 2, 10]), (.nop, 0, []), (.nop, 0, []), (.ior, 1, []), (.iand, 1, []), (.istore_n 2, 1, []), (.aload_n 0, 1, []), (.invokevirtual 294, 3, [46, 1, 1, 10]), (.nop, 0, []), (.nop, 0, []), (.aload_n 0, 1, []), (.getfield 65, 3, [10, 8, 3]), (.nop, 0, []), (.nop, 0, []), (.getfield 340, 3, [9, 5, 3])],
  [(.nop, 0, []), (.nop, 0, []), (.iload_n 1, 1, []), (.iaload, 1, []), (.istore_n 3, 1, []), (.iconst 0, 1, []), (.istore 4, 2, []), (.nop, 0, []), (.iload 4, 2, []), (.nop, 0, []), (.sipush 240, 3, []), (.nop, 0, []), (.nop, 0, []), (.if_icmp .gt 46, 3, [107]), (.nop, 0, []), (.nop, 0, [])],
  [(.aload_n 0, 1, []), (.getfield 65, 3, [10, 8, 3]), (.nop, 0, []), (.nop, 0, []), (.getfield 340, 3, [9, 5, 3]), (.nop, 0, []), (.nop, 0, []), (.iload_n 1, 1, []), (.iload_n 3, 1, []), (.iload 4, 2, []), (.nop, 0, []), (.iadd, 1, []), (.iastore, 1, []), (.aload_n 0, 1, []), (.getfield 65, 3, [10, 8, 3]), (.nop, 0, [])],
  [(.nop, 0, []), (.iconst 0, 1, []), (.invokevirtual 299, 3, [110, 2, 3, 9]), (.nop, 0, []), (.nop, 0, []), (.aload_n 0, 1, []), (.getfield 65, 3, [10, 8, 3]), (.nop, 0, []), (.nop, 0, []), (.getfield 317, 3, [9, 16, 0]), (.nop, 0, []), (.nop, 0, []), (.iload_n 2, 1, []), (.iand, 1, []), (.iload_n 2, 1, []), (.if_icmp .ne 6, 3, [101])],
  [(.nop, 0, []), (.nop, 0, []), (.iload 4, 2, []), (.nop, 0, []), (.ireturn, 1, [0]), (.iinc 4 1, 3, []), (.nop, 0, []), (.nop, 0, []), (.goto (-48), 3, [56]), (.nop, 0, []), (.nop, 0, []), (.iconst (-1), 1, []), (.ireturn, 1, [0])]]
def g_t25 : q_T := [
  [(.iload_n 0, 1, []), (.iload_n 1, 1, []), (.ishr, 1, []), (.iconst 1, 1, []), (.iand, 1, []), (.ifCond .eq 7, 3, [12]), (.nop, 0, []), (.nop, 0, []), (.iconst 1, 1, []), (.goto 4, 3, [13]), (.nop, 0, []), (.nop, 0, []), (.iconst 0, 1, []), (.ireturn, 1, [1])]]
def g_t26 : q_T := [
  [(.iload_n 1, 1, []), (.ifCond .lt 8, 3, [9]), (.nop, 0, []), (.nop, 0, []), (.iload_n 1, 1, []), (.iconst 3, 1, []), (.if_icmp .lt 5, 3, [11]), (.nop, 0, []), (.nop, 0, []), (.iconst (-1), 1, []), (.ireturn, 1, [0]), (.aload_n 0, 1, []), (.getfield 38, 3, [10, 4, 3]), (.nop, 0, []), (.nop, 0, []), (.aload_n 0, 1, [])],
  [(.getfield 57, 3, [10, 6, 3]), (.nop, 0, []), (.nop, 0, []), (.iload_n 1, 1, []), (.bipush 24, 2, []), (.nop, 0, []), (.imul, 1, []), (.invokevirtual 283, 3, [99, 3, 4, 6]), (.nop, 0, []), (.nop, 0, []), (.aload_n 0, 1, []), (.dup, 1, []), (.getfield 110, 3, [10, 7, 0]), (.nop, 0, []), (.nop, 0, []), (.iconst 1, 1, [])],
  [(.iload_n 1, 1, []), (.ishl, 1, []), (.ior, 1, []), (.putfield 110, 3, [10, 7, 0]), (.nop, 0, []), (.nop, 0, []), (.aload_n 0, 1, []), (.getfield 38, 3, [10, 4, 3]), (.nop, 0, []), (.nop, 0, []), (.getfield 201, 3, [6, 8, 0]), (.nop, 0, []), (.nop, 0, []), (.ireturn, 1, [0])]]
def g_t27 : q_T := [
  [(.aload_n 0, 1, []), (.iload_n 1, 1, []), (.invokevirtual 149, 3, [30, 2, 2, 10]), (.nop, 0, []), (.nop, 0, []), (.ifCond .eq 19, 3, [24]), (.nop, 0, []), (.nop, 0, []), (.aload_n 0, 1, []), (.getfield 38, 3, [10, 4, 3]), (.nop, 0, []), (.nop, 0, []), (.getfield 161, 3, [6, 2, 3]), (.nop, 0, []), (.nop, 0, []), (.iload_n 1, 1, [])],
  [(.iaload, 1, []), (.ifCond .ne 7, 3, [24]), (.nop, 0, []), (.nop, 0, []), (.iconst 1, 1, []), (.goto 4, 3, [25]), (.nop, 0, []), (.nop, 0, []), (.iconst 0, 1, []), (.ireturn, 1, [1])]]
def g_t28 : q_T := [
  [(.aload_n 0, 1, []), (.iload_n 1, 1, []), (.iconst 0, 1, []), (.invokevirtual 266, 3, [3, 3, 3, 10]), (.nop, 0, []), (.nop, 0, []), (.ireturn, 1, [0])]]
def g_t29 : q_T := [
  [(.iload_n 1, 1, []), (.iconst (-1), 1, []), (.if_icmp .eq 14, 3, [16]), (.nop, 0, []), (.nop, 0, []), (.iload_n 0, 1, []), (.invokestatic 323, 3, [203, 1, 1]), (.nop, 0, []), (.nop, 0, []), (.iload_n 1, 1, []), (.invokestatic 323, 3, [203, 1, 1]), (.nop, 0, []), (.nop, 0, []), (.if_icmp .ge 7, 3, [20]), (.nop, 0, []), (.nop, 0, [])],
  [(.iconst 1, 1, []), (.goto 4, 3, [21]), (.nop, 0, []), (.nop, 0, []), (.iconst 0, 1, []), (.ireturn, 1, [1])]]
def g_t30 : q_T := [
  [(.iload_n 1, 1, []), (.ifCond .lt 18, 3, [19]), (.nop, 0, []), (.nop, 0, []), (.iload_n 1, 1, []), (.aload_n 0, 1, []), (.getfield 19, 3, [10, 2, 3]), (.nop, 0, []), (.nop, 0, []), (.getfield 119, 3, [8, 4, 0]), (.nop, 0, []), (.nop, 0, []), (.if_icmp .ge 7, 3, [19]), (.nop, 0, []), (.nop, 0, []), (.iconst 1, 1, [])],
  [(.goto 4, 3, [20]), (.nop, 0, []), (.nop, 0, []), (.iconst 0, 1, []), (.ireturn, 1, [1])]]
def g_t31 : q_T := [
  [(.iload_n 1, 1, []), (.ifCond .lt 18, 3, [19]), (.nop, 0, []), (.nop, 0, []), (.iload_n 1, 1, []), (.aload_n 0, 1, []), (.getfield 19, 3, [10, 2, 3]), (.nop, 0, []), (.nop, 0, []), (.getfield 192, 3, [8, 0, 0]), (.nop, 0, []), (.nop, 0, []), (.if_icmp .ge 7, 3, [19]), (.nop, 0, []), (.nop, 0, []), (.iconst 1, 1, [])],
  [(.goto 4, 3, [20]), (.nop, 0, []), (.nop, 0, []), (.iconst 0, 1, []), (.ireturn, 1, [1])]]
def g_t32 : q_T := [
  [(.aload_n 0, 1, []), (.iload_n 1, 1, []), (.invokevirtual 149, 3, [30, 2, 2, 10]), (.nop, 0, []), (.nop, 0, []), (.ifCond .eq 31, 3, [36]), (.nop, 0, []), (.nop, 0, []), (.aload_n 0, 1, []), (.aload_n 0, 1, []), (.getfield 19, 3, [10, 2, 3]), (.nop, 0, []), (.nop, 0, []), (.getfield 152, 3, [8, 6, 3]), (.nop, 0, []), (.nop, 0, [])],
  [(.iload_n 1, 1, []), (.iaload, 1, []), (.nop, 0, []), (.nop, 0, []), (.nop, 0, []), (.ifCond .ne 15, 3, [36]), (.nop, 0, []), (.nop, 0, []), (.aload_n 0, 1, []), (.getfield 38, 3, [10, 4, 3]), (.nop, 0, []), (.nop, 0, []), (.getfield 170, 3, [6, 1, 0]), (.nop, 0, []), (.nop, 0, []), (.bipush 7, 2, [])],
  [(.nop, 0, []), (.if_icmp .lt 5, 3, [38]), (.nop, 0, []), (.nop, 0, []), (.iconst (-1), 1, []), (.ireturn, 1, [0]), (.aload_n 0, 1, []), (.getfield 38, 3, [10, 4, 3]), (.nop, 0, []), (.nop, 0, []), (.getfield 161, 3, [6, 2, 3]), (.nop, 0, []), (.nop, 0, []), (.iload_n 1, 1, []), (.iaload, 1, []), (.iconst 4, 1, [])],
  [(.if_icmp .eq 18, 3, [66]), (.nop, 0, []), (.nop, 0, []), (.aload_n 0, 1, []), (.getfield 38, 3, [10, 4, 3]), (.nop, 0, []), (.nop, 0, []), (.getfield 161, 3, [6, 2, 3]), (.nop, 0, []), (.nop, 0, []), (.iload_n 1, 1, []), (.iaload, 1, []), (.iconst 3, 1, []), (.if_icmp .eq 5, 3, [66]), (.nop, 0, []), (.nop, 0, [])],
  [(.iconst (-1), 1, []), (.ireturn, 1, [0]), (.aload_n 0, 1, []), (.getfield 38, 3, [10, 4, 3]), (.nop, 0, []), (.nop, 0, []), (.getfield 161, 3, [6, 2, 3]), (.nop, 0, []), (.nop, 0, []), (.iload_n 1, 1, []), (.iconst 0, 1, []), (.iastore, 1, []), (.aload_n 0, 1, []), (.getfield 38, 3, [10, 4, 3]), (.nop, 0, []), (.nop, 0, [])],
  [(.getfield 171, 3, [6, 0, 3]), (.nop, 0, []), (.nop, 0, []), (.aload_n 0, 1, []), (.getfield 38, 3, [10, 4, 3]), (.nop, 0, []), (.nop, 0, []), (.getfield 170, 3, [6, 1, 0]), (.nop, 0, []), (.nop, 0, []), (.iload_n 1, 1, []), (.iastore, 1, []), (.aload_n 0, 1, []), (.getfield 38, 3, [10, 4, 3]), (.nop, 0, []), (.nop, 0, [])],
  [(.dup, 1, []), (.getfield 170, 3, [6, 1, 0]), (.nop, 0, []), (.nop, 0, []), (.iconst 1, 1, []), (.iadd, 1, []), (.putfield 170, 3, [6, 1, 0]), (.nop, 0, []), (.nop, 0, []), (.aload_n 0, 1, []), (.getfield 49, 3, [10, 5, 3]), (.nop, 0, []), (.nop, 0, []), (.aload_n 0, 1, []), (.getfield 38, 3, [10, 4, 3]), (.nop, 0, [])],
  [(.nop, 0, []), (.nop, 0, []), (.nop, 0, []), (.nop, 0, []), (.aload_n 0, 1, []), (.getfield 38, 3, [10, 4, 3]), (.nop, 0, []), (.nop, 0, []), (.getfield 170, 3, [6, 1, 0]), (.nop, 0, []), (.nop, 0, []), (.iconst 1, 1, []), (.isub, 1, []), (.ireturn, 1, [0])]]
def g_t33 : q_T := [
  [(.aload_n 0, 1, []), (.iload_n 1, 1, []), (.invokevirtual 128, 3, [31, 2, 2, 10]), (.nop, 0, []), (.nop, 0, []), (.ifCond .eq 14, 3, [19]), (.nop, 0, []), (.nop, 0, []), (.iload_n 2, 1, []), (.iconst 1, 1, []), (.if_icmp .lt 9, 3, [19]), (.nop, 0, []), (.nop, 0, []), (.iload_n 2, 1, []), (.bipush 30, 2, []), (.nop, 0, [])],
  [(.if_icmp .le 5, 3, [21]), (.nop, 0, []), (.nop, 0, []), (.iconst (-1), 1, []), (.ireturn, 1, [0]), (.aload_n 0, 1, []), (.invokevirtual 294, 3, [46, 1, 1, 10]), (.nop, 0, []), (.nop, 0, []), (.aload_n 0, 1, []), (.getfield 65, 3, [10, 8, 3]), (.nop, 0, []), (.nop, 0, []), (.iload_n 1, 1, []), (.putfield 333, 3, [9, 4, 0]), (.nop, 0, [])],
  [(.nop, 0, []), (.aload_n 0, 1, []), (.getfield 65, 3, [10, 8, 3]), (.nop, 0, []), (.nop, 0, []), (.getfield 336, 3, [9, 3, 3]), (.nop, 0, []), (.nop, 0, []), (.bipush 7, 2, []), (.nop, 0, []), (.iload_n 2, 1, []), (.iastore, 1, []), (.sipush 240, 3, []), (.nop, 0, []), (.nop, 0, []), (.istore_n 3, 1, [])],
  [(.iload_n 3, 1, []), (.ifCond .lt 22, 3, [71]), (.nop, 0, []), (.nop, 0, []), (.aload_n 0, 1, []), (.getfield 65, 3, [10, 8, 3]), (.nop, 0, []), (.nop, 0, []), (.iload_n 3, 1, []), (.nop, 0, []), (.nop, 0, []), (.nop, 0, []), (.ifCond .eq 5, 3, [65]), (.nop, 0, []), (.nop, 0, []), (.iload_n 3, 1, [])],
  [(.ireturn, 1, [0]), (.iinc 3 (-1), 3, []), (.nop, 0, []), (.nop, 0, []), (.goto (-20), 3, [48]), (.nop, 0, []), (.nop, 0, []), (.iconst (-1), 1, []), (.ireturn, 1, [0])]]
def g_t34 : q_T := [
  [(.iload_n 1, 1, []), (.ifCond .lt 25, 3, [26]), (.nop, 0, []), (.nop, 0, []), (.iload_n 1, 1, []), (.sipush 1000, 3, []), (.nop, 0, []), (.nop, 0, []), (.if_icmp .gt 18, 3, [26]), (.nop, 0, []), (.nop, 0, []), (.aload_n 0, 1, []), (.getfield 88, 3, [10, 11, 3]), (.nop, 0, []), (.nop, 0, []), (.getfield 214, 3, [5, 0, 0])],
  [(.nop, 0, []), (.nop, 0, []), (.iload_n 1, 1, []), (.iadd, 1, []), (.ldc_w 415, 3, [100000]), (.nop, 0, []), (.nop, 0, []), (.if_icmp .le 5, 3, [28]), (.nop, 0, []), (.nop, 0, []), (.iconst (-1), 1, []), (.ireturn, 1, [0]), (.aload_n 0, 1, []), (.getfield 88, 3, [10, 11, 3]), (.nop, 0, []), (.nop, 0, [])],
  [(.dup, 1, []), (.getfield 214, 3, [5, 0, 0]), (.nop, 0, []), (.nop, 0, []), (.iload_n 1, 1, []), (.iadd, 1, []), (.putfield 214, 3, [5, 0, 0]), (.nop, 0, []), (.nop, 0, []), (.aload_n 0, 1, []), (.getfield 88, 3, [10, 11, 3]), (.nop, 0, []), (.nop, 0, []), (.getfield 214, 3, [5, 0, 0]), (.nop, 0, []), (.nop, 0, [])],
  [(.ireturn, 1, [0])]]
def g_t35 : q_T := [
  [(.iload_n 1, 1, []), (.iconst 1, 1, []), (.if_icmp .lt 9, 3, [11]), (.nop, 0, []), (.nop, 0, []), (.iload_n 1, 1, []), (.bipush 60, 2, []), (.nop, 0, []), (.if_icmp .le 5, 3, [13]), (.nop, 0, []), (.nop, 0, []), (.iconst (-1), 1, []), (.ireturn, 1, [0]), (.aload_n 0, 1, []), (.invokevirtual 294, 3, [46, 1, 1, 10]), (.nop, 0, [])],
  [(.nop, 0, []), (.aload_n 0, 1, []), (.getfield 65, 3, [10, 8, 3]), (.nop, 0, []), (.nop, 0, []), (.iload_n 1, 1, []), (.putfield 328, 3, [9, 7, 0]), (.nop, 0, []), (.nop, 0, []), (.aload_n 0, 1, []), (.invokevirtual 329, 3, [69, 1, 1, 10]), (.nop, 0, []), (.nop, 0, []), (.ireturn, 1, [0])]]
def g_t36 : q_T := [
  [(.aload_n 0, 1, []), (.getfield 74, 3, [10, 9, 3]), (.nop, 0, []), (.nop, 0, []), (.aload_n 0, 1, []), (.iconst 0, 1, []), (.invokevirtual 198, 3, [8, 2, 2, 10]), (.nop, 0, []), (.nop, 0, []), (.invokevirtual 349, 3, [77, 2, 3, 1]), (.nop, 0, []), (.nop, 0, []), (.istore_n 1, 1, []), (.aload_n 0, 1, []), (.getfield 74, 3, [10, 9, 3]), (.nop, 0, [])],
  [(.nop, 0, []), (.getfield 352, 3, [1, 1, 3]), (.nop, 0, []), (.nop, 0, []), (.iconst 0, 1, []), (.aload_n 0, 1, []), (.getfield 95, 3, [10, 13, 3]), (.nop, 0, []), (.nop, 0, []), (.iconst 0, 1, []), (.aload_n 0, 1, []), (.getfield 38, 3, [10, 4, 3]), (.nop, 0, []), (.nop, 0, []), (.getfield 170, 3, [6, 1, 0]), (.nop, 0, [])],
  [(.nop, 0, []), (.invokestatic 355, 3, []), (.nop, 0, []), (.nop, 0, []), (.aload_n 0, 1, []), (.aload_n 0, 1, []), (.getfield 38, 3, [10, 4, 3]), (.nop, 0, []), (.nop, 0, []), (.getfield 170, 3, [6, 1, 0]), (.nop, 0, []), (.nop, 0, []), (.putfield 113, 3, [10, 14, 0]), (.nop, 0, []), (.nop, 0, []), (.iload_n 1, 1, [])],
  [(.ireturn, 1, [0])]]
def g_t37 : q_T := [
  [(.aload_n 0, 1, []), (.iload_n 1, 1, []), (.invokevirtual 183, 3, [27, 2, 2, 10]), (.nop, 0, []), (.nop, 0, []), (.ifCond .eq 11, 3, [16]), (.nop, 0, []), (.nop, 0, []), (.aload_n 0, 1, []), (.iload_n 1, 1, []), (.nop, 0, []), (.nop, 0, []), (.nop, 0, []), (.goto 4, 3, [17]), (.nop, 0, []), (.nop, 0, [])],
  [(.iconst (-1), 1, []), (.ireturn, 1, [0])]]
def g_t38 : q_T := [
  [(.iload_n 1, 1, []), (.ifCond .lt 9, 3, [10]), (.nop, 0, []), (.nop, 0, []), (.iload_n 1, 1, []), (.bipush 60, 2, []), (.nop, 0, []), (.if_icmp .le 5, 3, [12]), (.nop, 0, []), (.nop, 0, []), (.iconst (-1), 1, []), (.ireturn, 1, [0]), (.aload_n 0, 1, []), (.invokevirtual 294, 3, [46, 1, 1, 10]), (.nop, 0, []), (.nop, 0, [])],
  [(.aload_n 0, 1, []), (.getfield 65, 3, [10, 8, 3]), (.nop, 0, []), (.nop, 0, []), (.iload_n 1, 1, []), (.invokevirtual 299, 3, [110, 2, 3, 9]), (.nop, 0, []), (.nop, 0, []), (.aload_n 0, 1, []), (.getfield 65, 3, [10, 8, 3]), (.nop, 0, []), (.nop, 0, []), (.getfield 317, 3, [9, 16, 0]), (.nop, 0, []), (.nop, 0, []), (.ireturn, 1, [0])]]
def g_t39 : q_T := [
  [(.iload_n 1, 1, []), (.ifCond .lt 20, 3, [21]), (.nop, 0, []), (.nop, 0, []), (.iload_n 1, 1, []), (.aload_n 0, 1, []), (.getfield 113, 3, [10, 14, 0]), (.nop, 0, []), (.nop, 0, []), (.if_icmp .ge 12, 3, [21]), (.nop, 0, []), (.nop, 0, []), (.aload_n 0, 1, []), (.getfield 95, 3, [10, 13, 3]), (.nop, 0, []), (.nop, 0, [])],
  [(.iload_n 1, 1, []), (.iaload, 1, []), (.goto 5, 3, [23]), (.nop, 0, []), (.nop, 0, []), (.bipush (-2), 2, []), (.nop, 0, []), (.ireturn, 1, [0])]]
def g_t40 : q_T := [
  [(.aload_n 0, 1, []), (.invokevirtual 294, 3, [46, 1, 1, 10]), (.nop, 0, []), (.nop, 0, []), (.aload_n 0, 1, []), (.getfield 65, 3, [10, 8, 3]), (.nop, 0, []), (.nop, 0, []), (.iconst 0, 1, []), (.invokevirtual 299, 3, [110, 2, 3, 9]), (.nop, 0, []), (.nop, 0, []), (.aload_n 0, 1, []), (.getfield 38, 3, [10, 4, 3]), (.nop, 0, []), (.nop, 0, [])],
  [(.getfield 189, 3, [6, 7, 0]), (.nop, 0, []), (.nop, 0, []), (.aload_n 0, 1, []), (.getfield 65, 3, [10, 8, 3]), (.nop, 0, []), (.nop, 0, []), (.getfield 311, 3, [9, 17, 0]), (.nop, 0, []), (.nop, 0, []), (.invokestatic 323, 3, [203, 1, 1]), (.nop, 0, []), (.nop, 0, []), (.iadd, 1, []), (.ireturn, 1, [0])]]
def g_t41 : q_T := [
  [(.aload_n 0, 1, []), (.invokevirtual 294, 3, [46, 1, 1, 10]), (.nop, 0, []), (.nop, 0, []), (.aload_n 0, 1, []), (.getfield 65, 3, [10, 8, 3]), (.nop, 0, []), (.nop, 0, []), (.iconst 0, 1, []), (.invokevirtual 299, 3, [110, 2, 3, 9]), (.nop, 0, []), (.nop, 0, []), (.aload_n 0, 1, []), (.aload_n 0, 1, []), (.getfield 65, 3, [10, 8, 3]), (.nop, 0, [])],
  [(.nop, 0, []), (.getfield 317, 3, [9, 16, 0]), (.nop, 0, []), (.nop, 0, []), (.invokevirtual 320, 3, [42, 2, 4, 10]), (.nop, 0, []), (.nop, 0, []), (.ireturn, 1, [0])]]
def g_t42 : q_T := [
  [(.iconst 0, 1, []), (.istore_n 2, 1, []), (.iconst 0, 1, []), (.istore_n 3, 1, []), (.iload_n 3, 1, []), (.aload_n 0, 1, []), (.getfield 19, 3, [10, 2, 3]), (.nop, 0, []), (.nop, 0, []), (.getfield 119, 3, [8, 4, 0]), (.nop, 0, []), (.nop, 0, []), (.if_icmp .ge 33, 3, [45]), (.nop, 0, []), (.nop, 0, []), (.iload_n 2, 1, [])],
  [(.iload_n 1, 1, []), (.iload_n 3, 1, []), (.invokestatic 287, 3, [25, 2, 2]), (.nop, 0, []), (.nop, 0, []), (.ifCond .eq 15, 3, [36]), (.nop, 0, []), (.nop, 0, []), (.aload_n 0, 1, []), (.getfield 19, 3, [10, 2, 3]), (.nop, 0, []), (.nop, 0, []), (.getfield 158, 3, [8, 8, 3]), (.nop, 0, []), (.nop, 0, []), (.iload_n 3, 1, [])],
  [(.iaload, 1, []), (.goto 4, 3, [37]), (.nop, 0, []), (.nop, 0, []), (.iconst 0, 1, []), (.iadd, 1, []), (.istore_n 2, 1, []), (.iinc 3 1, 3, []), (.nop, 0, []), (.nop, 0, []), (.goto (-38), 3, [4]), (.nop, 0, []), (.nop, 0, []), (.iload_n 2, 1, []), (.ireturn, 1, [0])]]
def g_t43 : q_T := [
  [(.aload_n 0, 1, []), (.getfield 38, 3, [10, 4, 3]), (.nop, 0, []), (.nop, 0, []), (.invokevirtual 232, 3, [98, 1, 3, 6]), (.nop, 0, []), (.nop, 0, []), (.ifCond .ne 16, 3, [23]), (.nop, 0, []), (.nop, 0, []), (.aload_n 0, 1, []), (.getfield 38, 3, [10, 4, 3]), (.nop, 0, []), (.nop, 0, []), (.getfield 201, 3, [6, 8, 0]), (.nop, 0, [])],
  [(.nop, 0, []), (.sipush 999, 3, []), (.nop, 0, []), (.nop, 0, []), (.if_icmp .lt 5, 3, [25]), (.nop, 0, []), (.nop, 0, []), (.iconst (-1), 1, []), (.ireturn, 1, [0]), (.iconst 0, 1, []), (.istore_n 1, 1, []), (.iload_n 1, 1, []), (.aload_n 0, 1, []), (.getfield 19, 3, [10, 2, 3]), (.nop, 0, []), (.nop, 0, [])],
  [(.getfield 174, 3, [8, 10, 0]), (.nop, 0, []), (.nop, 0, []), (.if_icmp .ge 27, 3, [62]), (.nop, 0, []), (.nop, 0, []), (.aload_n 0, 1, []), (.getfield 38, 3, [10, 4, 3]), (.nop, 0, []), (.nop, 0, []), (.getfield 177, 3, [6, 4, 3]), (.nop, 0, []), (.nop, 0, []), (.iload_n 1, 1, []), (.iaload, 1, []), (.iconst (-1), 1, [])],
  [(.if_icmp .ne 8, 3, [56]), (.nop, 0, []), (.nop, 0, []), (.aload_n 0, 1, []), (.iload_n 1, 1, []), (.nop, 0, []), (.nop, 0, []), (.nop, 0, []), (.iinc 1 1, 3, []), (.nop, 0, []), (.nop, 0, []), (.goto (-32), 3, [27]), (.nop, 0, []), (.nop, 0, []), (.aload_n 0, 1, []), (.nop, 0, [])],
  [(.nop, 0, []), (.nop, 0, []), (.istore_n 1, 1, []), (.aload_n 0, 1, []), (.getfield 38, 3, [10, 4, 3]), (.nop, 0, []), (.nop, 0, []), (.dup, 1, []), (.getfield 201, 3, [6, 8, 0]), (.nop, 0, []), (.nop, 0, []), (.iconst 1, 1, []), (.iadd, 1, []), (.putfield 201, 3, [6, 8, 0]), (.nop, 0, []), (.nop, 0, [])],
  [(.aload_n 0, 1, []), (.nop, 0, []), (.nop, 0, []), (.nop, 0, []), (.aload_n 0, 1, []), (.getfield 49, 3, [10, 5, 3]), (.nop, 0, []), (.nop, 0, []), (.aload_n 0, 1, []), (.getfield 38, 3, [10, 4, 3]), (.nop, 0, []), (.nop, 0, []), (.nop, 0, []), (.nop, 0, []), (.nop, 0, []), (.iload_n 1, 1, [])],
  [(.ireturn, 1, [0])]]
def g_t44 : q_T := [
  [(.aload_n 0, 1, []), (.invokevirtual 294, 3, [46, 1, 1, 10]), (.nop, 0, []), (.nop, 0, []), (.aload_n 0, 1, []), (.getfield 65, 3, [10, 8, 3]), (.nop, 0, []), (.nop, 0, []), (.iconst 0, 1, []), (.invokevirtual 299, 3, [110, 2, 3, 9]), (.nop, 0, []), (.nop, 0, []), (.aload_n 0, 1, []), (.iconst 3, 1, []), (.invokevirtual 198, 3, [8, 2, 2, 10]), (.nop, 0, [])],
  [(.nop, 0, []), (.aload_n 0, 1, []), (.getfield 65, 3, [10, 8, 3]), (.nop, 0, []), (.nop, 0, []), (.getfield 311, 3, [9, 17, 0]), (.nop, 0, []), (.nop, 0, []), (.ior, 1, []), (.ireturn, 1, [0])]]
def g_t45 : q_T := [
  [(.iload_n 1, 1, []), (.ifCond .lt 17, 3, [18]), (.nop, 0, []), (.nop, 0, []), (.iload_n 1, 1, []), (.iconst 4, 1, []), (.if_icmp .gt 12, 3, [18]), (.nop, 0, []), (.nop, 0, []), (.iload_n 2, 1, []), (.ifCond .lt 8, 3, [18]), (.nop, 0, []), (.nop, 0, []), (.iload_n 2, 1, []), (.iconst 1, 1, []), (.if_icmp .le 5, 3, [20])],
  [(.nop, 0, []), (.nop, 0, []), (.iconst (-1), 1, []), (.ireturn, 1, [0]), (.iconst 1, 1, []), (.istore_n 3, 1, []), (.iconst 1, 1, []), (.istore 4, 2, []), (.nop, 0, []), (.iconst 0, 1, []), (.istore 5, 2, []), (.nop, 0, []), (.iload 5, 2, []), (.nop, 0, []), (.iload_n 1, 1, []), (.if_icmp .ge 29, 3, [60])],
  [(.nop, 0, []), (.nop, 0, []), (.iload_n 3, 1, []), (.bipush 100, 2, []), (.nop, 0, []), (.aload_n 0, 1, []), (.getfield 19, 3, [10, 2, 3]), (.nop, 0, []), (.nop, 0, []), (.getfield 229, 3, [8, 11, 0]), (.nop, 0, []), (.nop, 0, []), (.isub, 1, []), (.imul, 1, []), (.istore_n 3, 1, []), (.iload 4, 2, [])],
  [(.nop, 0, []), (.bipush 100, 2, []), (.nop, 0, []), (.imul, 1, []), (.istore 4, 2, []), (.nop, 0, []), (.iinc 5 1, 3, []), (.nop, 0, []), (.nop, 0, []), (.goto (-29), 3, [28]), (.nop, 0, []), (.nop, 0, []), (.iload_n 3, 1, []), (.iload 4, 2, []), (.nop, 0, []), (.iload_n 2, 1, [])],
  [(.invokestatic 396, 3, [49, 3, 4]), (.nop, 0, []), (.nop, 0, []), (.ireturn, 1, [0])]]
def g_t46 : q_T := [
  [(.aload_n 0, 1, []), (.getfield 65, 3, [10, 8, 3]), (.nop, 0, []), (.nop, 0, []), (.aload_n 0, 1, []), (.getfield 19, 3, [10, 2, 3]), (.nop, 0, []), (.nop, 0, []), (.aload_n 0, 1, []), (.getfield 38, 3, [10, 4, 3]), (.nop, 0, []), (.nop, 0, []), (.invokevirtual 427, 3, [108, 3, 5, 9]), (.nop, 0, []), (.nop, 0, []), (.return_, 1, [])]]
def g_t47 : q_T := [
  [(.aload_n 0, 1, []), (.invokevirtual 294, 3, [46, 1, 1, 10]), (.nop, 0, []), (.nop, 0, []), (.aload_n 0, 1, []), (.getfield 65, 3, [10, 8, 3]), (.nop, 0, []), (.nop, 0, []), (.iconst 0, 1, []), (.invokevirtual 299, 3, [110, 2, 3, 9]), (.nop, 0, []), (.nop, 0, []), (.iconst 0, 1, []), (.istore_n 1, 1, []), (.iload_n 1, 1, []), (.bipush 7, 2, [])],
  [(.nop, 0, []), (.if_icmp .ge 19, 3, [36]), (.nop, 0, []), (.nop, 0, []), (.aload_n 0, 1, []), (.getfield 74, 3, [10, 9, 3]), (.nop, 0, []), (.nop, 0, []), (.getfield 343, 3, [1, 0, 3]), (.nop, 0, []), (.nop, 0, []), (.iload_n 1, 1, []), (.iconst 1, 1, []), (.iastore, 1, []), (.iinc 1 1, 3, []), (.nop, 0, [])],
  [(.nop, 0, []), (.goto (-19), 3, [14]), (.nop, 0, []), (.nop, 0, []), (.aload_n 0, 1, []), (.getfield 65, 3, [10, 8, 3]), (.nop, 0, []), (.nop, 0, []), (.getfield 317, 3, [9, 16, 0]), (.nop, 0, []), (.nop, 0, []), (.aload_n 0, 1, []), (.iconst 0, 1, []), (.invokevirtual 198, 3, [8, 2, 2, 10]), (.nop, 0, []), (.nop, 0, [])],
  [(.iconst (-1), 1, []), (.ixor, 1, []), (.iand, 1, []), (.invokestatic 323, 3, [203, 1, 1]), (.nop, 0, []), (.nop, 0, []), (.istore_n 1, 1, []), (.aload_n 0, 1, []), (.invokevirtual 346, 3, [36, 1, 2, 10]), (.nop, 0, []), (.nop, 0, []), (.iload_n 1, 1, []), (.iadd, 1, []), (.ireturn, 1, [0])]]
def g_t48 : q_T := [
  [(.aload_n 0, 1, []), (.iload_n 1, 1, []), (.invokevirtual 149, 3, [30, 2, 2, 10]), (.nop, 0, []), (.nop, 0, []), (.ifCond .ne 5, 3, [10]), (.nop, 0, []), (.nop, 0, []), (.iconst (-1), 1, []), (.ireturn, 1, [0]), (.iload_n 2, 1, []), (.tableswitch 103 0 5 #[37, 47, 57, 67, 77, 86], 37, [114, 48, 58, 68, 78, 88, 97]), (.nop, 0, []), (.nop, 0, []), (.nop, 0, []), (.nop, 0, [])],
  [(.nop, 0, []), (.nop, 0, []), (.nop, 0, []), (.nop, 0, []), (.nop, 0, []), (.nop, 0, []), (.nop, 0, []), (.nop, 0, []), (.nop, 0, []), (.nop, 0, []), (.nop, 0, []), (.nop, 0, []), (.nop, 0, []), (.nop, 0, []), (.nop, 0, []), (.nop, 0, [])],
  [(.nop, 0, []), (.nop, 0, []), (.nop, 0, []), (.nop, 0, []), (.nop, 0, []), (.nop, 0, []), (.nop, 0, []), (.nop, 0, []), (.nop, 0, []), (.nop, 0, []), (.nop, 0, []), (.nop, 0, []), (.nop, 0, []), (.nop, 0, []), (.nop, 0, []), (.nop, 0, [])],
  [(.aload_n 0, 1, []), (.getfield 19, 3, [10, 2, 3]), (.nop, 0, []), (.nop, 0, []), (.getfield 152, 3, [8, 6, 3]), (.nop, 0, []), (.nop, 0, []), (.iload_n 1, 1, []), (.iaload, 1, []), (.ireturn, 1, [0]), (.aload_n 0, 1, []), (.getfield 19, 3, [10, 2, 3]), (.nop, 0, []), (.nop, 0, []), (.getfield 155, 3, [8, 7, 3]), (.nop, 0, [])],
  [(.nop, 0, []), (.iload_n 1, 1, []), (.iaload, 1, []), (.ireturn, 1, [0]), (.aload_n 0, 1, []), (.getfield 19, 3, [10, 2, 3]), (.nop, 0, []), (.nop, 0, []), (.getfield 158, 3, [8, 8, 3]), (.nop, 0, []), (.nop, 0, []), (.iload_n 1, 1, []), (.iaload, 1, []), (.ireturn, 1, [0]), (.aload_n 0, 1, []), (.getfield 38, 3, [10, 4, 3])],
  [(.nop, 0, []), (.nop, 0, []), (.getfield 161, 3, [6, 2, 3]), (.nop, 0, []), (.nop, 0, []), (.iload_n 1, 1, []), (.iaload, 1, []), (.ireturn, 1, [0]), (.aload_n 0, 1, []), (.getfield 38, 3, [10, 4, 3]), (.nop, 0, []), (.nop, 0, []), (.iload_n 1, 1, []), (.nop, 0, []), (.nop, 0, []), (.nop, 0, [])],
  [(.ireturn, 1, [0]), (.aload_n 0, 1, []), (.getfield 38, 3, [10, 4, 3]), (.nop, 0, []), (.nop, 0, []), (.iload_n 1, 1, []), (.nop, 0, []), (.nop, 0, []), (.nop, 0, []), (.ifCond .eq 7, 3, [112]), (.nop, 0, []), (.nop, 0, []), (.iconst 1, 1, []), (.goto 4, 3, [113]), (.nop, 0, []), (.nop, 0, [])],
  [(.iconst 0, 1, []), (.ireturn, 1, [0]), (.iconst (-1), 1, []), (.ireturn, 1, [0])]]
def g_t49 : q_T := [
  [(.iload_n 0, 1, []), (.invokestatic 400, 3, [204, 1, 1]), (.nop, 0, []), (.nop, 0, []), (.iload_n 1, 1, []), (.invokestatic 405, 3, [11, 2, 6]), (.nop, 0, []), (.nop, 0, []), (.istore_n 3, 1, []), (.iload_n 3, 1, []), (.ifCond .ne 5, 3, [15]), (.nop, 0, []), (.nop, 0, []), (.iconst 0, 1, []), (.ireturn, 1, [0]), (.iload_n 2, 1, [])],
  [(.ifCond .ne 7, 3, [23]), (.nop, 0, []), (.nop, 0, []), (.iload_n 0, 1, []), (.goto 4, 3, [24]), (.nop, 0, []), (.nop, 0, []), (.iload_n 1, 1, []), (.iload_n 3, 1, []), (.idiv, 1, []), (.ireturn, 1, [0])]]
def g_t50 : q_T := [
  [(.aload_n 0, 1, []), (.getfield 31, 3, [10, 1, 3]), (.nop, 0, []), (.nop, 0, []), (.aload_n 0, 1, []), (.getfield 23, 3, [10, 3, 3]), (.nop, 0, []), (.nop, 0, []), (.invokevirtual 106, 3, [90, 2, 3, 4]), (.nop, 0, []), (.nop, 0, []), (.istore_n 1, 1, []), (.aload_n 0, 1, []), (.getfield 10, 3, [10, 0, 3]), (.nop, 0, []), (.nop, 0, [])],
  [(.iconst 0, 1, []), (.putfield 98, 3, [7, 1, 0]), (.nop, 0, []), (.nop, 0, []), (.iload_n 1, 1, []), (.ifCond .ne 5, 3, [26]), (.nop, 0, []), (.nop, 0, []), (.iconst (-1), 1, []), (.ireturn, 1, [0]), (.aload_n 0, 1, []), (.getfield 23, 3, [10, 3, 3]), (.nop, 0, []), (.nop, 0, []), (.astore_n 2, 1, []), (.aload_n 0, 1, [])],
  [(.aload_n 0, 1, []), (.getfield 19, 3, [10, 2, 3]), (.nop, 0, []), (.nop, 0, []), (.putfield 23, 3, [10, 3, 3]), (.nop, 0, []), (.nop, 0, []), (.aload_n 0, 1, []), (.aload_n 2, 1, []), (.putfield 19, 3, [10, 2, 3]), (.nop, 0, []), (.nop, 0, []), (.aload_n 0, 1, []), (.getfield 38, 3, [10, 4, 3]), (.nop, 0, []), (.nop, 0, [])],
  [(.aload_n 0, 1, []), (.getfield 19, 3, [10, 2, 3]), (.nop, 0, []), (.nop, 0, []), (.invokevirtual 42, 3, [96, 2, 3, 6]), (.nop, 0, []), (.nop, 0, []), (.aload_n 0, 1, []), (.getfield 49, 3, [10, 5, 3]), (.nop, 0, []), (.nop, 0, []), (.aload_n 0, 1, []), (.getfield 38, 3, [10, 4, 3]), (.nop, 0, []), (.nop, 0, []), (.invokevirtual 53, 3, [81, 2, 2, 2])],
  [(.nop, 0, []), (.nop, 0, []), (.aload_n 0, 1, []), (.iconst 0, 1, []), (.putfield 110, 3, [10, 7, 0]), (.nop, 0, []), (.nop, 0, []), (.aload_n 0, 1, []), (.iconst 0, 1, []), (.putfield 113, 3, [10, 14, 0]), (.nop, 0, []), (.nop, 0, []), (.aload_n 0, 1, []), (.getfield 88, 3, [10, 11, 3]), (.nop, 0, []), (.nop, 0, [])],
  [(.aload_n 0, 1, []), (.getfield 65, 3, [10, 8, 3]), (.nop, 0, []), (.nop, 0, []), (.aload_n 0, 1, []), (.getfield 19, 3, [10, 2, 3]), (.nop, 0, []), (.nop, 0, []), (.aload_n 0, 1, []), (.getfield 38, 3, [10, 4, 3]), (.nop, 0, []), (.nop, 0, []), (.invokevirtual 116, 3, [93, 4, 5, 5]), (.nop, 0, []), (.nop, 0, []), (.aload_n 0, 1, [])],
  [(.getfield 19, 3, [10, 2, 3]), (.nop, 0, []), (.nop, 0, []), (.getfield 119, 3, [8, 4, 0]), (.nop, 0, []), (.nop, 0, []), (.ireturn, 1, [0])]]
def g_t51 : q_T := [
  [(.iload_n 1, 1, []), (.ifCond .lt 26, 3, [27]), (.nop, 0, []), (.nop, 0, []), (.iload_n 1, 1, []), (.aload_n 0, 1, []), (.getfield 38, 3, [10, 4, 3]), (.nop, 0, []), (.nop, 0, []), (.getfield 170, 3, [6, 1, 0]), (.nop, 0, []), (.nop, 0, []), (.if_icmp .ge 15, 3, [27]), (.nop, 0, []), (.nop, 0, []), (.aload_n 0, 1, [])],
  [(.getfield 38, 3, [10, 4, 3]), (.nop, 0, []), (.nop, 0, []), (.getfield 171, 3, [6, 0, 3]), (.nop, 0, []), (.nop, 0, []), (.iload_n 1, 1, []), (.iaload, 1, []), (.goto 4, 3, [28]), (.nop, 0, []), (.nop, 0, []), (.iconst (-1), 1, []), (.ireturn, 1, [0])]]
def g_t52 : q_T := [
  [(.iload_n 1, 1, []), (.ifCond .lt 14, 3, [15]), (.nop, 0, []), (.nop, 0, []), (.iload_n 1, 1, []), (.aload_n 0, 1, []), (.getfield 19, 3, [10, 2, 3]), (.nop, 0, []), (.nop, 0, []), (.getfield 174, 3, [8, 10, 0]), (.nop, 0, []), (.nop, 0, []), (.if_icmp .lt 5, 3, [17]), (.nop, 0, []), (.nop, 0, []), (.iconst (-1), 1, [])],
  [(.ireturn, 1, [0]), (.iload_n 2, 1, []), (.ifCond .ne 13, 3, [31]), (.nop, 0, []), (.nop, 0, []), (.aload_n 0, 1, []), (.getfield 38, 3, [10, 4, 3]), (.nop, 0, []), (.nop, 0, []), (.getfield 177, 3, [6, 4, 3]), (.nop, 0, []), (.nop, 0, []), (.iload_n 1, 1, []), (.iaload, 1, []), (.ireturn, 1, [0]), (.iload_n 2, 1, [])],
  [(.iconst 1, 1, []), (.if_icmp .ne 15, 3, [48]), (.nop, 0, []), (.nop, 0, []), (.aload_n 0, 1, []), (.getfield 38, 3, [10, 4, 3]), (.nop, 0, []), (.nop, 0, []), (.getfield 180, 3, [6, 5, 3]), (.nop, 0, []), (.nop, 0, []), (.iload_n 1, 1, []), (.iaload, 1, []), (.goto 4, 3, [49]), (.nop, 0, []), (.nop, 0, [])],
  [(.iconst (-1), 1, []), (.ireturn, 1, [0])]]
def g_t53 : q_T := [
  [(.aload_n 0, 1, []), (.getfield 49, 3, [10, 5, 3]), (.nop, 0, []), (.nop, 0, []), (.aload_n 0, 1, []), (.getfield 38, 3, [10, 4, 3]), (.nop, 0, []), (.nop, 0, []), (.invokevirtual 280, 3, [83, 2, 2, 2]), (.nop, 0, []), (.nop, 0, []), (.ireturn, 1, [1])]]
def g_t54 : q_T := [
  [(.aload_n 0, 1, []), (.invokevirtual 294, 3, [46, 1, 1, 10]), (.nop, 0, []), (.nop, 0, []), (.aload_n 0, 1, []), (.getfield 65, 3, [10, 8, 3]), (.nop, 0, []), (.nop, 0, []), (.iconst 0, 1, []), (.invokevirtual 299, 3, [110, 2, 3, 9]), (.nop, 0, []), (.nop, 0, []), (.aload_n 0, 1, []), (.getfield 65, 3, [10, 8, 3]), (.nop, 0, []), (.nop, 0, [])],
  [(.getfield 317, 3, [9, 16, 0]), (.nop, 0, []), (.nop, 0, []), (.istore_n 1, 1, []), (.bipush 60, 2, []), (.nop, 0, []), (.istore_n 2, 1, []), (.iload_n 2, 1, []), (.ifCond .le 32, 3, [56]), (.nop, 0, []), (.nop, 0, []), (.aload_n 0, 1, []), (.getfield 65, 3, [10, 8, 3]), (.nop, 0, []), (.nop, 0, []), (.iload_n 2, 1, [])],
  [(.invokevirtual 299, 3, [110, 2, 3, 9]), (.nop, 0, []), (.nop, 0, []), (.aload_n 0, 1, []), (.getfield 65, 3, [10, 8, 3]), (.nop, 0, []), (.nop, 0, []), (.getfield 317, 3, [9, 16, 0]), (.nop, 0, []), (.nop, 0, []), (.iload_n 1, 1, []), (.iand, 1, []), (.iload_n 1, 1, []), (.if_icmp .ne 5, 3, [50]), (.nop, 0, []), (.nop, 0, [])],
  [(.iload_n 2, 1, []), (.ireturn, 1, [0]), (.iinc 2 (-1), 3, []), (.nop, 0, []), (.nop, 0, []), (.goto (-30), 3, [23]), (.nop, 0, []), (.nop, 0, []), (.iconst 0, 1, []), (.ireturn, 1, [0])]]
def g_t55 : q_T := [
  [(.aload_n 0, 1, []), (.invokevirtual 294, 3, [46, 1, 1, 10]), (.nop, 0, []), (.nop, 0, []), (.aload_n 0, 1, []), (.getfield 65, 3, [10, 8, 3]), (.nop, 0, []), (.nop, 0, []), (.iload_n 1, 1, []), (.invokevirtual 431, 3, [107, 2, 4, 9]), (.nop, 0, []), (.nop, 0, []), (.aload_n 0, 1, []), (.getfield 65, 3, [10, 8, 3]), (.nop, 0, []), (.nop, 0, [])],
  [(.iconst 0, 1, []), (.invokevirtual 299, 3, [110, 2, 3, 9]), (.nop, 0, []), (.nop, 0, []), (.return_, 1, [])]]
def g_t56 : q_T := [
  [(.aload_n 0, 1, []), (.iload_n 1, 1, []), (.invokevirtual 149, 3, [30, 2, 2, 10]), (.nop, 0, []), (.nop, 0, []), (.ifCond .ne 5, 3, [10]), (.nop, 0, []), (.nop, 0, []), (.iconst (-1), 1, []), (.ireturn, 1, [0]), (.aload_n 0, 1, []), (.invokevirtual 294, 3, [46, 1, 1, 10]), (.nop, 0, []), (.nop, 0, []), (.aload_n 0, 1, []), (.getfield 65, 3, [10, 8, 3])],
  [(.nop, 0, []), (.nop, 0, []), (.iconst 0, 1, []), (.invokevirtual 299, 3, [110, 2, 3, 9]), (.nop, 0, []), (.nop, 0, []), (.aload_n 0, 1, []), (.getfield 65, 3, [10, 8, 3]), (.nop, 0, []), (.nop, 0, []), (.iload_n 1, 1, []), (.nop, 0, []), (.nop, 0, []), (.nop, 0, []), (.ireturn, 1, [0])]]
def g_t57 : q_T := [
  [(.aload_n 0, 1, []), (.invokevirtual 294, 3, [46, 1, 1, 10]), (.nop, 0, []), (.nop, 0, []), (.aload_n 0, 1, []), (.getfield 65, 3, [10, 8, 3]), (.nop, 0, []), (.nop, 0, []), (.aload_n 0, 1, []), (.getfield 19, 3, [10, 2, 3]), (.nop, 0, []), (.nop, 0, []), (.getfield 174, 3, [8, 10, 0]), (.nop, 0, []), (.nop, 0, []), (.iconst 1, 1, [])],
  [(.iadd, 1, []), (.putfield 332, 3, [9, 10, 0]), (.nop, 0, []), (.nop, 0, []), (.aload_n 0, 1, []), (.invokevirtual 329, 3, [69, 1, 1, 10]), (.nop, 0, []), (.nop, 0, []), (.ireturn, 1, [0])]]
def g_t58 : q_T := [
  [(.aload_n 0, 1, []), (.getfield 19, 3, [10, 2, 3]), (.nop, 0, []), (.nop, 0, []), (.getfield 119, 3, [8, 4, 0]), (.nop, 0, []), (.nop, 0, []), (.ifCond .ne 5, 3, [12]), (.nop, 0, []), (.nop, 0, []), (.iconst (-1), 1, []), (.ireturn, 1, [0]), (.aload_n 0, 1, []), (.getfield 88, 3, [10, 11, 3]), (.nop, 0, []), (.nop, 0, [])],
  [(.iload_n 1, 1, []), (.iload_n 2, 1, []), (.iload_n 3, 1, []), (.nop, 0, []), (.nop, 0, []), (.nop, 0, []), (.ireturn, 1, [0])]]
def g_t59 : q_T := [
  [(.iload_n 0, 1, []), (.iconst (-1), 1, []), (.if_icmp .eq 8, 3, [10]), (.nop, 0, []), (.nop, 0, []), (.iload_n 1, 1, []), (.iconst 1, 1, []), (.if_icmp .ne 7, 3, [14]), (.nop, 0, []), (.nop, 0, []), (.iload_n 0, 1, []), (.goto 7, 3, [18]), (.nop, 0, []), (.nop, 0, []), (.iload_n 0, 1, []), (.invokestatic 323, 3, [203, 1, 1])],
  [(.nop, 0, []), (.nop, 0, []), (.ireturn, 1, [0])]]
def g_t60 : q_T := [
  [(.aload_n 0, 1, []), (.iload_n 1, 1, []), (.invokevirtual 128, 3, [31, 2, 2, 10]), (.nop, 0, []), (.nop, 0, []), (.ifCond .ne 5, 3, [10]), (.nop, 0, []), (.nop, 0, []), (.iconst (-1), 1, []), (.ireturn, 1, [0]), (.iload_n 2, 1, []), (.tableswitch 96 0 4 #[33, 46, 56, 73, 87], 33, [107, 44, 57, 67, 84, 98]), (.nop, 0, []), (.nop, 0, []), (.nop, 0, []), (.nop, 0, [])],
  [(.nop, 0, []), (.nop, 0, []), (.nop, 0, []), (.nop, 0, []), (.nop, 0, []), (.nop, 0, []), (.nop, 0, []), (.nop, 0, []), (.nop, 0, []), (.nop, 0, []), (.nop, 0, []), (.nop, 0, []), (.nop, 0, []), (.nop, 0, []), (.nop, 0, []), (.nop, 0, [])],
  [(.nop, 0, []), (.nop, 0, []), (.nop, 0, []), (.nop, 0, []), (.nop, 0, []), (.nop, 0, []), (.nop, 0, []), (.nop, 0, []), (.nop, 0, []), (.nop, 0, []), (.nop, 0, []), (.nop, 0, []), (.aload_n 0, 1, []), (.getfield 38, 3, [10, 4, 3]), (.nop, 0, []), (.nop, 0, [])],
  [(.aload_n 0, 1, []), (.getfield 19, 3, [10, 2, 3]), (.nop, 0, []), (.nop, 0, []), (.iload_n 1, 1, []), (.nop, 0, []), (.nop, 0, []), (.nop, 0, []), (.ireturn, 1, [0]), (.aload_n 0, 1, []), (.getfield 19, 3, [10, 2, 3]), (.nop, 0, []), (.nop, 0, []), (.getfield 136, 3, [8, 3, 3]), (.nop, 0, []), (.nop, 0, [])],
  [(.iload_n 1, 1, []), (.iaload, 1, []), (.ireturn, 1, [0]), (.aload_n 0, 1, []), (.getfield 38, 3, [10, 4, 3]), (.nop, 0, []), (.nop, 0, []), (.iload_n 1, 1, []), (.nop, 0, []), (.nop, 0, []), (.nop, 0, []), (.ifCond .eq 7, 3, [82]), (.nop, 0, []), (.nop, 0, []), (.iconst 1, 1, []), (.goto 4, 3, [83])],
  [(.nop, 0, []), (.nop, 0, []), (.iconst 0, 1, []), (.ireturn, 1, [0]), (.aload_n 0, 1, []), (.iload_n 1, 1, []), (.nop, 0, []), (.nop, 0, []), (.nop, 0, []), (.ifCond .eq 7, 3, [96]), (.nop, 0, []), (.nop, 0, []), (.iconst 1, 1, []), (.goto 4, 3, [97]), (.nop, 0, []), (.nop, 0, [])],
  [(.iconst 0, 1, []), (.ireturn, 1, [0]), (.aload_n 0, 1, []), (.getfield 19, 3, [10, 2, 3]), (.nop, 0, []), (.nop, 0, []), (.iload_n 1, 1, []), (.nop, 0, []), (.nop, 0, []), (.nop, 0, []), (.ireturn, 1, [0]), (.iconst (-1), 1, []), (.ireturn, 1, [0])]]
def g_t61 : q_T := [
  [(.aload_n 0, 1, []), (.iload_n 1, 1, []), (.iconst 1, 1, []), (.invokevirtual 266, 3, [3, 3, 3, 10]), (.nop, 0, []), (.nop, 0, []), (.ireturn, 1, [0])]]
def g_t62 : q_T := [
  [(.iload_n 1, 1, []), (.ifCond .lt 8, 3, [9]), (.nop, 0, []), (.nop, 0, []), (.iload_n 1, 1, []), (.iconst 1, 1, []), (.if_icmp .le 5, 3, [11]), (.nop, 0, []), (.nop, 0, []), (.iconst (-1), 1, []), (.ireturn, 1, [0]), (.aload_n 0, 1, []), (.iconst 0, 1, []), (.invokevirtual 198, 3, [8, 2, 2, 10]), (.nop, 0, []), (.nop, 0, [])],
  [(.aload_n 0, 1, []), (.getfield 38, 3, [10, 4, 3]), (.nop, 0, []), (.nop, 0, []), (.getfield 270, 3, [6, 3, 0]), (.nop, 0, []), (.nop, 0, []), (.iconst (-1), 1, []), (.ixor, 1, []), (.iand, 1, []), (.istore_n 2, 1, []), (.aload_n 0, 1, []), (.iconst 0, 1, []), (.invokevirtual 198, 3, [8, 2, 2, 10]), (.nop, 0, []), (.nop, 0, [])],
  [(.aload_n 0, 1, []), (.iconst 1, 1, []), (.invokevirtual 198, 3, [8, 2, 2, 10]), (.nop, 0, []), (.nop, 0, []), (.ior, 1, []), (.istore_n 3, 1, []), (.aload_n 0, 1, []), (.invokevirtual 294, 3, [46, 1, 1, 10]), (.nop, 0, []), (.nop, 0, []), (.iconst (-1), 1, []), (.istore 4, 2, []), (.nop, 0, []), (.iconst 0, 1, []), (.istore 5, 2, [])],
  [(.nop, 0, []), (.iload 5, 2, []), (.nop, 0, []), (.iload_n 2, 1, []), (.if_icmp .gt 75, 3, [127]), (.nop, 0, []), (.nop, 0, []), (.iload 5, 2, []), (.nop, 0, []), (.iload_n 2, 1, []), (.iconst (-1), 1, []), (.ixor, 1, []), (.iand, 1, []), (.ifCond .ne 60, 3, [121]), (.nop, 0, []), (.nop, 0, [])],
  [(.iload 5, 2, []), (.nop, 0, []), (.iload 4, 2, []), (.nop, 0, []), (.invokestatic 361, 3, [29, 2, 2]), (.nop, 0, []), (.nop, 0, []), (.ifCond .eq 50, 3, [121]), (.nop, 0, []), (.nop, 0, []), (.aload_n 0, 1, []), (.getfield 65, 3, [10, 8, 3]), (.nop, 0, []), (.nop, 0, []), (.aload_n 0, 1, []), (.getfield 38, 3, [10, 4, 3])],
  [(.nop, 0, []), (.nop, 0, []), (.getfield 270, 3, [6, 3, 0]), (.nop, 0, []), (.nop, 0, []), (.iload 5, 2, []), (.nop, 0, []), (.ior, 1, []), (.putfield 364, 3, [9, 6, 0]), (.nop, 0, []), (.nop, 0, []), (.aload_n 0, 1, []), (.getfield 65, 3, [10, 8, 3]), (.nop, 0, []), (.nop, 0, []), (.iconst 0, 1, [])],
  [(.invokevirtual 299, 3, [110, 2, 3, 9]), (.nop, 0, []), (.nop, 0, []), (.aload_n 0, 1, []), (.getfield 65, 3, [10, 8, 3]), (.nop, 0, []), (.nop, 0, []), (.getfield 317, 3, [9, 16, 0]), (.nop, 0, []), (.nop, 0, []), (.iload_n 3, 1, []), (.iand, 1, []), (.iload_n 3, 1, []), (.if_icmp .ne 8, 3, [117]), (.nop, 0, []), (.nop, 0, [])],
  [(.iload 5, 2, []), (.nop, 0, []), (.goto 5, 3, [119]), (.nop, 0, []), (.nop, 0, []), (.iload 4, 2, []), (.nop, 0, []), (.istore 4, 2, []), (.nop, 0, []), (.iinc 5 1, 3, []), (.nop, 0, []), (.nop, 0, []), (.goto (-75), 3, [49]), (.nop, 0, []), (.nop, 0, []), (.iload 4, 2, [])],
  [(.nop, 0, []), (.iload_n 1, 1, []), (.invokestatic 365, 3, [59, 2, 2]), (.nop, 0, []), (.nop, 0, []), (.ireturn, 1, [0])]]
def g_t63 : q_T := [
  [(.iconst (-1), 1, []), (.istore_n 1, 1, []), (.iconst 0, 1, []), (.istore_n 2, 1, []), (.iload_n 2, 1, []), (.aload_n 0, 1, []), (.getfield 19, 3, [10, 2, 3]), (.nop, 0, []), (.nop, 0, []), (.getfield 192, 3, [8, 0, 0]), (.nop, 0, []), (.nop, 0, []), (.if_icmp .ge 61, 3, [73]), (.nop, 0, []), (.nop, 0, []), (.iload_n 1, 1, [])],
  [(.iconst (-1), 1, []), (.if_icmp .eq 30, 3, [47]), (.nop, 0, []), (.nop, 0, []), (.aload_n 0, 1, []), (.getfield 38, 3, [10, 4, 3]), (.nop, 0, []), (.nop, 0, []), (.aload_n 0, 1, []), (.getfield 19, 3, [10, 2, 3]), (.nop, 0, []), (.nop, 0, []), (.iload_n 2, 1, []), (.nop, 0, []), (.nop, 0, []), (.nop, 0, [])],
  [(.aload_n 0, 1, []), (.getfield 38, 3, [10, 4, 3]), (.nop, 0, []), (.nop, 0, []), (.aload_n 0, 1, []), (.getfield 19, 3, [10, 2, 3]), (.nop, 0, []), (.nop, 0, []), (.iload_n 1, 1, []), (.nop, 0, []), (.nop, 0, []), (.nop, 0, []), (.if_icmp .ge 7, 3, [51]), (.nop, 0, []), (.nop, 0, []), (.iconst 1, 1, [])],
  [(.goto 4, 3, [52]), (.nop, 0, []), (.nop, 0, []), (.iconst 0, 1, []), (.istore_n 3, 1, []), (.iload_n 3, 1, []), (.ifCond .eq 13, 3, [67]), (.nop, 0, []), (.nop, 0, []), (.aload_n 0, 1, []), (.iload_n 2, 1, []), (.nop, 0, []), (.nop, 0, []), (.nop, 0, []), (.ifCond .ne 5, 3, [67]), (.nop, 0, [])],
  [(.nop, 0, []), (.iload_n 2, 1, []), (.istore_n 1, 1, []), (.iinc 2 1, 3, []), (.nop, 0, []), (.nop, 0, []), (.goto (-66), 3, [4]), (.nop, 0, []), (.nop, 0, []), (.iload_n 1, 1, []), (.ireturn, 1, [0])]]
def g_t64 : q_T := [
  [(.iload_n 1, 1, []), (.ifCond .lt 8, 3, [9]), (.nop, 0, []), (.nop, 0, []), (.iload_n 1, 1, []), (.iconst 1, 1, []), (.if_icmp .le 5, 3, [11]), (.nop, 0, []), (.nop, 0, []), (.iconst (-1), 1, []), (.ireturn, 1, [0]), (.aload_n 0, 1, []), (.iconst 0, 1, []), (.invokevirtual 198, 3, [8, 2, 2, 10]), (.nop, 0, []), (.nop, 0, [])],
  [(.istore_n 2, 1, []), (.aload_n 0, 1, []), (.iconst 1, 1, []), (.invokevirtual 198, 3, [8, 2, 2, 10]), (.nop, 0, []), (.nop, 0, []), (.istore_n 3, 1, []), (.iconst (-1), 1, []), (.istore 4, 2, []), (.nop, 0, []), (.iconst 0, 1, []), (.istore 5, 2, []), (.nop, 0, []), (.iload 5, 2, []), (.nop, 0, []), (.iload_n 2, 1, [])],
  [(.if_icmp .gt 68, 3, [100]), (.nop, 0, []), (.nop, 0, []), (.iload 5, 2, []), (.nop, 0, []), (.iload_n 2, 1, []), (.iconst (-1), 1, []), (.ixor, 1, []), (.iand, 1, []), (.ifCond .ne 53, 3, [94]), (.nop, 0, []), (.nop, 0, []), (.iload 5, 2, []), (.nop, 0, []), (.iload 4, 2, []), (.nop, 0, [])],
  [(.invokestatic 361, 3, [29, 2, 2]), (.nop, 0, []), (.nop, 0, []), (.ifCond .eq 43, 3, [94]), (.nop, 0, []), (.nop, 0, []), (.iload_n 2, 1, []), (.iload 5, 2, []), (.nop, 0, []), (.iconst (-1), 1, []), (.ixor, 1, []), (.iand, 1, []), (.iload_n 3, 1, []), (.ior, 1, []), (.istore 6, 2, []), (.nop, 0, [])],
  [(.aload_n 0, 1, []), (.iload 5, 2, []), (.nop, 0, []), (.invokevirtual 368, 3, [55, 2, 2, 10]), (.nop, 0, []), (.nop, 0, []), (.aload_n 0, 1, []), (.getfield 65, 3, [10, 8, 3]), (.nop, 0, []), (.nop, 0, []), (.getfield 317, 3, [9, 16, 0]), (.nop, 0, []), (.nop, 0, []), (.iload 6, 2, []), (.nop, 0, []), (.iand, 1, [])],
  [(.iload 6, 2, []), (.nop, 0, []), (.if_icmp .ne 8, 3, [90]), (.nop, 0, []), (.nop, 0, []), (.iload 5, 2, []), (.nop, 0, []), (.goto 5, 3, [92]), (.nop, 0, []), (.nop, 0, []), (.iload 4, 2, []), (.nop, 0, []), (.istore 4, 2, []), (.nop, 0, []), (.iinc 5 1, 3, []), (.nop, 0, [])],
  [(.nop, 0, []), (.goto (-68), 3, [29]), (.nop, 0, []), (.nop, 0, []), (.iload 4, 2, []), (.nop, 0, []), (.iload_n 1, 1, []), (.invokestatic 365, 3, [59, 2, 2]), (.nop, 0, []), (.nop, 0, []), (.ireturn, 1, [0])]]
def g_t65 : q_T := [
  [(.aload_n 0, 1, []), (.iload_n 1, 1, []), (.invokevirtual 183, 3, [27, 2, 2, 10]), (.nop, 0, []), (.nop, 0, []), (.ifCond .ne 5, 3, [10]), (.nop, 0, []), (.nop, 0, []), (.iconst (-1), 1, []), (.ireturn, 1, [0]), (.aload_n 0, 1, []), (.invokevirtual 294, 3, [46, 1, 1, 10]), (.nop, 0, []), (.nop, 0, []), (.aload_n 0, 1, []), (.getfield 65, 3, [10, 8, 3])],
  [(.nop, 0, []), (.nop, 0, []), (.iconst 0, 1, []), (.invokevirtual 299, 3, [110, 2, 3, 9]), (.nop, 0, []), (.nop, 0, []), (.aload_n 0, 1, []), (.getfield 65, 3, [10, 8, 3]), (.nop, 0, []), (.nop, 0, []), (.iload_n 1, 1, []), (.nop, 0, []), (.nop, 0, []), (.nop, 0, []), (.ireturn, 1, [0])]]
def g_t66 : q_T := [
  [(.aload_n 0, 1, []), (.getfield 88, 3, [10, 11, 3]), (.nop, 0, []), (.nop, 0, []), (.iload_n 2, 1, []), (.invokevirtual 416, 3, [92, 2, 4, 5]), (.nop, 0, []), (.nop, 0, []), (.istore_n 3, 1, []), (.iload_n 3, 1, []), (.ifCond .eq 12, 3, [22]), (.nop, 0, []), (.nop, 0, []), (.iload_n 1, 1, []), (.ifCond .lt 8, 3, [22]), (.nop, 0, [])],
  [(.nop, 0, []), (.iload_n 1, 1, []), (.iconst 1, 1, []), (.if_icmp .le 5, 3, [24]), (.nop, 0, []), (.nop, 0, []), (.iconst (-1), 1, []), (.ireturn, 1, [0]), (.iconst (-1), 1, []), (.istore 4, 2, []), (.nop, 0, []), (.iconst 1, 1, []), (.istore 5, 2, []), (.nop, 0, []), (.iload 5, 2, []), (.nop, 0, [])],
  [(.bipush 30, 2, []), (.nop, 0, []), (.if_icmp .gt 47, 3, [81]), (.nop, 0, []), (.nop, 0, []), (.iload_n 1, 1, []), (.iconst 1, 1, []), (.if_icmp .eq 9, 3, [48]), (.nop, 0, []), (.nop, 0, []), (.iload 4, 2, []), (.nop, 0, []), (.iconst (-1), 1, []), (.if_icmp .ne 7, 3, [52]), (.nop, 0, []), (.nop, 0, [])],
  [(.iconst 1, 1, []), (.goto 4, 3, [53]), (.nop, 0, []), (.nop, 0, []), (.iconst 0, 1, []), (.istore 6, 2, []), (.nop, 0, []), (.iload 6, 2, []), (.nop, 0, []), (.ifCond .eq 18, 3, [75]), (.nop, 0, []), (.nop, 0, []), (.iload_n 3, 1, []), (.iload 5, 2, []), (.nop, 0, []), (.iconst 1, 1, [])],
  [(.isub, 1, []), (.invokestatic 287, 3, [25, 2, 2]), (.nop, 0, []), (.nop, 0, []), (.ifCond .eq 7, 3, [75]), (.nop, 0, []), (.nop, 0, []), (.iload 5, 2, []), (.nop, 0, []), (.istore 4, 2, []), (.nop, 0, []), (.iinc 5 1, 3, []), (.nop, 0, []), (.nop, 0, []), (.goto (-48), 3, [30]), (.nop, 0, [])],
  [(.nop, 0, []), (.iload 4, 2, []), (.nop, 0, []), (.ireturn, 1, [0])]]
def g_t67 : q_T := [
  [(.iload_n 1, 1, []), (.ifCond .lt 8, 3, [9]), (.nop, 0, []), (.nop, 0, []), (.iload_n 1, 1, []), (.iconst 2, 1, []), (.if_icmp .le 5, 3, [11]), (.nop, 0, []), (.nop, 0, []), (.iconst (-1), 1, []), (.ireturn, 1, [0]), (.aload_n 0, 1, []), (.invokevirtual 263, 3, [13, 1, 1, 10]), (.nop, 0, []), (.nop, 0, []), (.istore_n 2, 1, [])],
  [(.iconst (-1), 1, []), (.istore_n 3, 1, []), (.iconst (-1), 1, []), (.istore 4, 2, []), (.nop, 0, []), (.iconst 0, 1, []), (.istore 5, 2, []), (.nop, 0, []), (.iload 5, 2, []), (.nop, 0, []), (.aload_n 0, 1, []), (.getfield 19, 3, [10, 2, 3]), (.nop, 0, []), (.nop, 0, []), (.getfield 119, 3, [8, 4, 0]), (.nop, 0, [])],
  [(.nop, 0, []), (.if_icmp .ge 81, 3, [114]), (.nop, 0, []), (.nop, 0, []), (.iload 5, 2, []), (.nop, 0, []), (.iconst 1, 1, []), (.iadd, 1, []), (.istore 6, 2, []), (.nop, 0, []), (.iload 6, 2, []), (.nop, 0, []), (.aload_n 0, 1, []), (.getfield 19, 3, [10, 2, 3]), (.nop, 0, []), (.nop, 0, [])],
  [(.getfield 119, 3, [8, 4, 0]), (.nop, 0, []), (.nop, 0, []), (.if_icmp .ge 57, 3, [108]), (.nop, 0, []), (.nop, 0, []), (.aload_n 0, 1, []), (.iload 5, 2, []), (.nop, 0, []), (.invokevirtual 183, 3, [27, 2, 2, 10]), (.nop, 0, []), (.nop, 0, []), (.ifCond .eq 23, 3, [83]), (.nop, 0, []), (.nop, 0, []), (.aload_n 0, 1, [])],
  [(.iload 6, 2, []), (.nop, 0, []), (.invokevirtual 183, 3, [27, 2, 2, 10]), (.nop, 0, []), (.nop, 0, []), (.ifCond .eq 14, 3, [83]), (.nop, 0, []), (.nop, 0, []), (.aload_n 0, 1, []), (.iload 5, 2, []), (.nop, 0, []), (.iload 6, 2, []), (.nop, 0, []), (.nop, 0, []), (.nop, 0, []), (.nop, 0, [])],
  [(.goto 4, 3, [84]), (.nop, 0, []), (.nop, 0, []), (.iconst (-1), 1, []), (.istore 7, 2, []), (.nop, 0, []), (.iload 7, 2, []), (.nop, 0, []), (.iload_n 2, 1, []), (.if_icmp .le 13, 3, [102]), (.nop, 0, []), (.nop, 0, []), (.iload 7, 2, []), (.nop, 0, []), (.istore_n 2, 1, []), (.iload 5, 2, [])],
  [(.nop, 0, []), (.istore_n 3, 1, []), (.iload 6, 2, []), (.nop, 0, []), (.istore 4, 2, []), (.nop, 0, []), (.iinc 6 1, 3, []), (.nop, 0, []), (.nop, 0, []), (.goto (-63), 3, [42]), (.nop, 0, []), (.nop, 0, []), (.iinc 5 1, 3, []), (.nop, 0, []), (.nop, 0, []), (.goto (-87), 3, [24])],
  [(.nop, 0, []), (.nop, 0, []), (.iload_n 3, 1, []), (.iconst (-1), 1, []), (.if_icmp .eq 7, 3, [123]), (.nop, 0, []), (.nop, 0, []), (.iload_n 1, 1, []), (.ifCond .ne 5, 3, [125]), (.nop, 0, []), (.nop, 0, []), (.iload_n 3, 1, []), (.ireturn, 1, [0]), (.iload_n 1, 1, []), (.iconst 1, 1, []), (.if_icmp .ne 8, 3, [135])],
  [(.nop, 0, []), (.nop, 0, []), (.iload 4, 2, []), (.nop, 0, []), (.goto 4, 3, [136]), (.nop, 0, []), (.nop, 0, []), (.iload_n 2, 1, []), (.ireturn, 1, [0])]]
def g_t68 : q_T := [
  [(.iconst 0, 1, []), (.istore_n 1, 1, []), (.iload_n 1, 1, []), (.aload_n 0, 1, []), (.getfield 38, 3, [10, 4, 3]), (.nop, 0, []), (.nop, 0, []), (.getfield 170, 3, [6, 1, 0]), (.nop, 0, []), (.nop, 0, []), (.if_icmp .ge 29, 3, [39]), (.nop, 0, []), (.nop, 0, []), (.aload_n 0, 1, []), (.getfield 81, 3, [10, 10, 3]), (.nop, 0, [])],
  [(.nop, 0, []), (.aload_n 0, 1, []), (.getfield 65, 3, [10, 8, 3]), (.nop, 0, []), (.nop, 0, []), (.aload_n 0, 1, []), (.getfield 19, 3, [10, 2, 3]), (.nop, 0, []), (.nop, 0, []), (.aload_n 0, 1, []), (.getfield 38, 3, [10, 4, 3]), (.nop, 0, []), (.nop, 0, []), (.iload_n 1, 1, []), (.nop, 0, []), (.nop, 0, [])],
  [(.nop, 0, []), (.iinc 1 1, 3, []), (.nop, 0, []), (.nop, 0, []), (.goto (-34), 3, [2]), (.nop, 0, []), (.nop, 0, []), (.aload_n 0, 1, []), (.getfield 81, 3, [10, 10, 3]), (.nop, 0, []), (.nop, 0, []), (.aload_n 0, 1, []), (.getfield 38, 3, [10, 4, 3]), (.nop, 0, []), (.nop, 0, []), (.getfield 170, 3, [6, 1, 0])],
  [(.nop, 0, []), (.nop, 0, []), (.invokevirtual 387, 3, [86, 2, 9, 3]), (.nop, 0, []), (.nop, 0, []), (.istore_n 1, 1, []), (.iconst 0, 1, []), (.istore_n 2, 1, []), (.iload_n 2, 1, []), (.aload_n 0, 1, []), (.getfield 38, 3, [10, 4, 3]), (.nop, 0, []), (.nop, 0, []), (.getfield 170, 3, [6, 1, 0]), (.nop, 0, []), (.nop, 0, [])],
  [(.if_icmp .ge 32, 3, [96]), (.nop, 0, []), (.nop, 0, []), (.aload_n 0, 1, []), (.getfield 95, 3, [10, 13, 3]), (.nop, 0, []), (.nop, 0, []), (.iload_n 2, 1, []), (.aload_n 0, 1, []), (.getfield 38, 3, [10, 4, 3]), (.nop, 0, []), (.nop, 0, []), (.getfield 171, 3, [6, 0, 3]), (.nop, 0, []), (.nop, 0, []), (.aload_n 0, 1, [])],
  [(.getfield 81, 3, [10, 10, 3]), (.nop, 0, []), (.nop, 0, []), (.getfield 390, 3, [3, 2, 3]), (.nop, 0, []), (.nop, 0, []), (.iload_n 2, 1, []), (.iaload, 1, []), (.iaload, 1, []), (.iastore, 1, []), (.iinc 2 1, 3, []), (.nop, 0, []), (.nop, 0, []), (.goto (-37), 3, [56]), (.nop, 0, []), (.nop, 0, [])],
  [(.aload_n 0, 1, []), (.aload_n 0, 1, []), (.getfield 38, 3, [10, 4, 3]), (.nop, 0, []), (.nop, 0, []), (.getfield 170, 3, [6, 1, 0]), (.nop, 0, []), (.nop, 0, []), (.putfield 113, 3, [10, 14, 0]), (.nop, 0, []), (.nop, 0, []), (.iload_n 1, 1, []), (.ireturn, 1, [0])]]
def g_t69 : q_T := [
  [(.aload_n 0, 1, []), (.getfield 65, 3, [10, 8, 3]), (.nop, 0, []), (.nop, 0, []), (.iconst 0, 1, []), (.invokevirtual 299, 3, [110, 2, 3, 9]), (.nop, 0, []), (.nop, 0, []), (.aload_n 0, 1, []), (.getfield 65, 3, [10, 8, 3]), (.nop, 0, []), (.nop, 0, []), (.getfield 317, 3, [9, 16, 0]), (.nop, 0, []), (.nop, 0, []), (.invokestatic 323, 3, [203, 1, 1])],
  [(.nop, 0, []), (.nop, 0, []), (.ireturn, 1, [0])]]
def g_t70 : q_T := [
  [(.aload_n 0, 1, []), (.getfield 49, 3, [10, 5, 3]), (.nop, 0, []), (.nop, 0, []), (.aload_n 0, 1, []), (.getfield 38, 3, [10, 4, 3]), (.nop, 0, []), (.nop, 0, []), (.invokevirtual 276, 3, [84, 2, 2, 2]), (.nop, 0, []), (.nop, 0, []), (.ireturn, 1, [1])]]
def g_t71 : q_T := [
  [(.aload_n 0, 1, []), (.getfield 88, 3, [10, 11, 3]), (.nop, 0, []), (.nop, 0, []), (.iload_n 1, 1, []), (.invokevirtual 412, 3, [94, 2, 2, 5]), (.nop, 0, []), (.nop, 0, []), (.ireturn, 1, [1])]]
def g_t72 : q_T := [
  [(.aload_n 0, 1, []), (.getfield 38, 3, [10, 4, 3]), (.nop, 0, []), (.nop, 0, []), (.getfield 189, 3, [6, 7, 0]), (.nop, 0, []), (.nop, 0, []), (.ireturn, 1, [0])]]
def g_t73 : q_T := [
  [(.aload_n 0, 1, []), (.iload_n 1, 1, []), (.invokevirtual 149, 3, [30, 2, 2, 10]), (.nop, 0, []), (.nop, 0, []), (.ifCond .eq 23, 3, [28]), (.nop, 0, []), (.nop, 0, []), (.iload_n 2, 1, []), (.ifCond .lt 19, 3, [28]), (.nop, 0, []), (.nop, 0, []), (.iload_n 2, 1, []), (.sipush 400, 3, []), (.nop, 0, []), (.nop, 0, [])],
  [(.if_icmp .gt 12, 3, [28]), (.nop, 0, []), (.nop, 0, []), (.iload_n 3, 1, []), (.ifCond .lt 8, 3, [28]), (.nop, 0, []), (.nop, 0, []), (.iload_n 3, 1, []), (.iconst 1, 1, []), (.if_icmp .le 5, 3, [30]), (.nop, 0, []), (.nop, 0, []), (.iconst (-1), 1, []), (.ireturn, 1, [0]), (.aload_n 0, 1, []), (.invokevirtual 294, 3, [46, 1, 1, 10])],
  [(.nop, 0, []), (.nop, 0, []), (.iload_n 3, 1, []), (.iconst 1, 1, []), (.if_icmp .ne 31, 3, [67]), (.nop, 0, []), (.nop, 0, []), (.aload_n 0, 1, []), (.getfield 65, 3, [10, 8, 3]), (.nop, 0, []), (.nop, 0, []), (.aload_n 0, 1, []), (.getfield 19, 3, [10, 2, 3]), (.nop, 0, []), (.nop, 0, []), (.getfield 229, 3, [8, 11, 0])],
  [(.nop, 0, []), (.nop, 0, []), (.putfield 297, 3, [9, 8, 0]), (.nop, 0, []), (.nop, 0, []), (.aload_n 0, 1, []), (.getfield 65, 3, [10, 8, 3]), (.nop, 0, []), (.nop, 0, []), (.aload_n 0, 1, []), (.getfield 38, 3, [10, 4, 3]), (.nop, 0, []), (.nop, 0, []), (.getfield 204, 3, [6, 9, 0]), (.nop, 0, []), (.nop, 0, [])],
  [(.putfield 298, 3, [9, 9, 0]), (.nop, 0, []), (.nop, 0, []), (.aload_n 0, 1, []), (.getfield 65, 3, [10, 8, 3]), (.nop, 0, []), (.nop, 0, []), (.iconst 0, 1, []), (.invokevirtual 299, 3, [110, 2, 3, 9]), (.nop, 0, []), (.nop, 0, []), (.aload_n 0, 1, []), (.getfield 38, 3, [10, 4, 3]), (.nop, 0, []), (.nop, 0, []), (.getfield 161, 3, [6, 2, 3])],
  [(.nop, 0, []), (.nop, 0, []), (.iload_n 1, 1, []), (.iaload, 1, []), (.ifCond .eq 26, 3, [110]), (.nop, 0, []), (.nop, 0, []), (.aload_n 0, 1, []), (.getfield 38, 3, [10, 4, 3]), (.nop, 0, []), (.nop, 0, []), (.getfield 161, 3, [6, 2, 3]), (.nop, 0, []), (.nop, 0, []), (.iload_n 1, 1, []), (.iaload, 1, [])],
  [(.iconst 1, 1, []), (.if_icmp .eq 13, 3, [110]), (.nop, 0, []), (.nop, 0, []), (.aload_n 0, 1, []), (.getfield 38, 3, [10, 4, 3]), (.nop, 0, []), (.nop, 0, []), (.getfield 161, 3, [6, 2, 3]), (.nop, 0, []), (.nop, 0, []), (.iload_n 1, 1, []), (.iaload, 1, []), (.ireturn, 1, [0]), (.aload_n 0, 1, []), (.getfield 65, 3, [10, 8, 3])],
  [(.nop, 0, []), (.nop, 0, []), (.iload_n 1, 1, []), (.iload_n 2, 1, []), (.nop, 0, []), (.nop, 0, []), (.nop, 0, []), (.ireturn, 1, [0])]]
def g_t74 : q_T := [
  [(.aload_n 0, 1, []), (.iload_n 1, 1, []), (.invokevirtual 183, 3, [27, 2, 2, 10]), (.nop, 0, []), (.nop, 0, []), (.ifCond .ne 5, 3, [10]), (.nop, 0, []), (.nop, 0, []), (.iconst (-1), 1, []), (.ireturn, 1, [0]), (.aload_n 0, 1, []), (.getfield 38, 3, [10, 4, 3]), (.nop, 0, []), (.nop, 0, []), (.iload_n 1, 1, []), (.nop, 0, [])],
  [(.nop, 0, []), (.nop, 0, []), (.istore_n 2, 1, []), (.aload_n 0, 1, []), (.getfield 81, 3, [10, 10, 3]), (.nop, 0, []), (.nop, 0, []), (.aload_n 0, 1, []), (.getfield 65, 3, [10, 8, 3]), (.nop, 0, []), (.nop, 0, []), (.aload_n 0, 1, []), (.getfield 19, 3, [10, 2, 3]), (.nop, 0, []), (.nop, 0, []), (.aload_n 0, 1, [])],
  [(.getfield 38, 3, [10, 4, 3]), (.nop, 0, []), (.nop, 0, []), (.iload_n 2, 1, []), (.nop, 0, []), (.nop, 0, []), (.nop, 0, []), (.aload_n 0, 1, []), (.getfield 81, 3, [10, 10, 3]), (.nop, 0, []), (.nop, 0, []), (.iload_n 2, 1, []), (.iconst 1, 1, []), (.aload_n 0, 1, []), (.getfield 38, 3, [10, 4, 3]), (.nop, 0, [])],
  [(.nop, 0, []), (.getfield 170, 3, [6, 1, 0]), (.nop, 0, []), (.nop, 0, []), (.ishl, 1, []), (.iconst 1, 1, []), (.isub, 1, []), (.nop, 0, []), (.nop, 0, []), (.nop, 0, []), (.ireturn, 1, [0])]]
def g_t75 : q_T := [
  [(.aload_n 0, 1, []), (.invokespecial 5, 3, []), (.nop, 0, []), (.nop, 0, []), (.aload_n 0, 1, []), (.sipush 270, 3, []), (.nop, 0, []), (.nop, 0, []), (.newarray .int, 2, [100]), (.nop, 0, []), (.putfield 11, 3, [0, 0, 3]), (.nop, 0, []), (.nop, 0, []), (.aload_n 0, 1, []), (.bipush 30, 2, []), (.nop, 0, [])],
  [(.newarray .int, 2, [100]), (.nop, 0, []), (.putfield 15, 3, [0, 1, 3]), (.nop, 0, []), (.nop, 0, []), (.aload_n 0, 1, []), (.bipush 6, 2, []), (.nop, 0, []), (.newarray .int, 2, [100]), (.nop, 0, []), (.putfield 18, 3, [0, 2, 3]), (.nop, 0, []), (.nop, 0, []), (.return_, 1, [])]]
def g_t76 : q_T := [
  [(.aload_n 0, 1, []), (.invokespecial 5, 3, []), (.nop, 0, []), (.nop, 0, []), (.aload_n 0, 1, []), (.bipush 7, 2, []), (.nop, 0, []), (.newarray .int, 2, [100]), (.nop, 0, []), (.putfield 11, 3, [1, 0, 3]), (.nop, 0, []), (.nop, 0, []), (.aload_n 0, 1, []), (.bipush 7, 2, []), (.nop, 0, []), (.newarray .int, 2, [100])],
  [(.nop, 0, []), (.putfield 15, 3, [1, 1, 3]), (.nop, 0, []), (.nop, 0, []), (.aload_n 0, 1, []), (.bipush 7, 2, []), (.nop, 0, []), (.newarray .int, 2, [100]), (.nop, 0, []), (.putfield 18, 3, [1, 2, 3]), (.nop, 0, []), (.nop, 0, []), (.aload_n 0, 1, []), (.sipush 1024, 3, []), (.nop, 0, []), (.nop, 0, [])],
  [(.newarray .int, 2, [100]), (.nop, 0, []), (.putfield 21, 3, [1, 3, 3]), (.nop, 0, []), (.nop, 0, []), (.aload_n 0, 1, []), (.sipush 1024, 3, []), (.nop, 0, []), (.nop, 0, []), (.newarray .int, 2, [100]), (.nop, 0, []), (.putfield 24, 3, [1, 4, 3]), (.nop, 0, []), (.nop, 0, []), (.aload_n 0, 1, []), (.aload_n 1, 1, [])],
  [(.putfield 27, 3, [1, 5, 3]), (.nop, 0, []), (.nop, 0, []), (.return_, 1, [])]]
def g_t77 : q_T := [
  [(.aload_n 0, 1, []), (.iload_n 1, 1, []), (.invokestatic 31, 3, [203, 1, 1]), (.nop, 0, []), (.nop, 0, []), (.putfield 37, 3, [1, 6, 0]), (.nop, 0, []), (.nop, 0, []), (.aload_n 0, 1, []), (.iconst (-1), 1, []), (.putfield 41, 3, [1, 7, 0]), (.nop, 0, []), (.nop, 0, []), (.iconst 0, 1, []), (.istore_n 2, 1, []), (.iload_n 2, 1, [])],
  [(.sipush 1024, 3, []), (.nop, 0, []), (.nop, 0, []), (.if_icmp .ge 16, 3, [35]), (.nop, 0, []), (.nop, 0, []), (.aload_n 0, 1, []), (.getfield 21, 3, [1, 3, 3]), (.nop, 0, []), (.nop, 0, []), (.iload_n 2, 1, []), (.iconst (-1), 1, []), (.iastore, 1, []), (.iinc 2 1, 3, []), (.nop, 0, []), (.nop, 0, [])],
  [(.goto (-17), 3, [15]), (.nop, 0, []), (.nop, 0, []), (.aload_n 0, 1, []), (.getfield 27, 3, [1, 5, 3]), (.nop, 0, []), (.nop, 0, []), (.iconst 0, 1, []), (.invokevirtual 44, 3, [109, 2, 4, 9]), (.nop, 0, []), (.nop, 0, []), (.aload_n 0, 1, []), (.iconst 0, 1, []), (.iload_n 1, 1, []), (.iconst 0, 1, []), (.invokevirtual 50, 3, [78, 4, 9, 1])],
  [(.nop, 0, []), (.nop, 0, []), (.aload_n 0, 1, []), (.getfield 41, 3, [1, 7, 0]), (.nop, 0, []), (.nop, 0, []), (.ireturn, 1, [0])]]
def g_t78 : q_T := [
  [(.iload_n 1, 1, []), (.aload_n 0, 1, []), (.getfield 37, 3, [1, 6, 0]), (.nop, 0, []), (.nop, 0, []), (.if_icmp .ge 9, 3, [14]), (.nop, 0, []), (.nop, 0, []), (.iload_n 1, 1, []), (.bipush 7, 2, []), (.nop, 0, []), (.if_icmp .lt 9, 3, [20]), (.nop, 0, []), (.nop, 0, []), (.aload_n 0, 1, []), (.iload_n 3, 1, [])],
  [(.invokevirtual 54, 3, [79, 2, 2, 1]), (.nop, 0, []), (.nop, 0, []), (.return_, 1, []), (.aload_n 0, 1, []), (.getfield 27, 3, [1, 5, 3]), (.nop, 0, []), (.nop, 0, []), (.nop, 0, []), (.nop, 0, []), (.nop, 0, []), (.istore 4, 2, []), (.nop, 0, []), (.aload_n 0, 1, []), (.getfield 27, 3, [1, 5, 3]), (.nop, 0, [])],
  [(.nop, 0, []), (.getfield 61, 3, [9, 13, 3]), (.nop, 0, []), (.nop, 0, []), (.iload 4, 2, []), (.nop, 0, []), (.iaload, 1, []), (.istore 5, 2, []), (.nop, 0, []), (.iconst 0, 1, []), (.istore 6, 2, []), (.nop, 0, []), (.iload 6, 2, []), (.nop, 0, []), (.bipush 7, 2, []), (.nop, 0, [])],
  [(.if_icmp .ge 126, 3, [174]), (.nop, 0, []), (.nop, 0, []), (.iload_n 2, 1, []), (.iload 6, 2, []), (.nop, 0, []), (.invokestatic 64, 3, [25, 2, 2]), (.nop, 0, []), (.nop, 0, []), (.ifCond .ne 6, 3, [63]), (.nop, 0, []), (.nop, 0, []), (.goto 108, 3, [168]), (.nop, 0, []), (.nop, 0, []), (.aload_n 0, 1, [])],
  [(.getfield 18, 3, [1, 2, 3]), (.nop, 0, []), (.nop, 0, []), (.iload_n 1, 1, []), (.iload 6, 2, []), (.nop, 0, []), (.iastore, 1, []), (.iload_n 2, 1, []), (.iconst 1, 1, []), (.iload 6, 2, []), (.nop, 0, []), (.ishl, 1, []), (.iconst (-1), 1, []), (.ixor, 1, []), (.iand, 1, []), (.istore 7, 2, [])],
  [(.nop, 0, []), (.iload_n 3, 1, []), (.aload_n 0, 1, []), (.getfield 27, 3, [1, 5, 3]), (.nop, 0, []), (.nop, 0, []), (.iload 6, 2, []), (.nop, 0, []), (.iload 4, 2, []), (.nop, 0, []), (.aload_n 0, 1, []), (.getfield 37, 3, [1, 6, 0]), (.nop, 0, []), (.nop, 0, []), (.iconst 1, 1, []), (.isub, 1, [])],
  [(.iload_n 1, 1, []), (.isub, 1, []), (.nop, 0, []), (.nop, 0, []), (.nop, 0, []), (.ifCond .eq 13, 3, [114]), (.nop, 0, []), (.nop, 0, []), (.aload_n 0, 1, []), (.getfield 11, 3, [1, 0, 3]), (.nop, 0, []), (.nop, 0, []), (.iload 6, 2, []), (.nop, 0, []), (.iaload, 1, []), (.goto 4, 3, [115])],
  [(.nop, 0, []), (.nop, 0, []), (.iconst 0, 1, []), (.iadd, 1, []), (.istore 8, 2, []), (.nop, 0, []), (.iload 8, 2, []), (.nop, 0, []), (.aload_n 0, 1, []), (.iload 7, 2, []), (.nop, 0, []), (.nop, 0, []), (.nop, 0, []), (.nop, 0, []), (.iadd, 1, []), (.aload_n 0, 1, [])],
  [(.getfield 41, 3, [1, 7, 0]), (.nop, 0, []), (.nop, 0, []), (.if_icmp .le 25, 3, [156]), (.nop, 0, []), (.nop, 0, []), (.aload_n 0, 1, []), (.iload 7, 2, []), (.nop, 0, []), (.iload 8, 2, []), (.nop, 0, []), (.nop, 0, []), (.nop, 0, []), (.nop, 0, []), (.ifCond .ne 14, 3, [156]), (.nop, 0, [])],
  [(.nop, 0, []), (.aload_n 0, 1, []), (.iload_n 1, 1, []), (.iconst 1, 1, []), (.iadd, 1, []), (.iload 7, 2, []), (.nop, 0, []), (.iload 8, 2, []), (.nop, 0, []), (.invokevirtual 50, 3, [78, 4, 9, 1]), (.nop, 0, []), (.nop, 0, []), (.aload_n 0, 1, []), (.getfield 27, 3, [1, 5, 3]), (.nop, 0, []), (.nop, 0, [])],
  [(.getfield 61, 3, [9, 13, 3]), (.nop, 0, []), (.nop, 0, []), (.iload 4, 2, []), (.nop, 0, []), (.iload 5, 2, []), (.nop, 0, []), (.iastore, 1, []), (.iinc 6 1, 3, []), (.nop, 0, []), (.nop, 0, []), (.goto (-127), 3, [44]), (.nop, 0, []), (.nop, 0, []), (.return_, 1, [])]]
def g_t79 : q_T := [
  [(.iload_n 1, 1, []), (.aload_n 0, 1, []), (.getfield 41, 3, [1, 7, 0]), (.nop, 0, []), (.nop, 0, []), (.if_icmp .le 25, 3, [30]), (.nop, 0, []), (.nop, 0, []), (.aload_n 0, 1, []), (.iload_n 1, 1, []), (.putfield 41, 3, [1, 7, 0]), (.nop, 0, []), (.nop, 0, []), (.aload_n 0, 1, []), (.getfield 18, 3, [1, 2, 3]), (.nop, 0, [])],
  [(.nop, 0, []), (.iconst 0, 1, []), (.aload_n 0, 1, []), (.getfield 15, 3, [1, 1, 3]), (.nop, 0, []), (.nop, 0, []), (.iconst 0, 1, []), (.aload_n 0, 1, []), (.getfield 37, 3, [1, 6, 0]), (.nop, 0, []), (.nop, 0, []), (.invokestatic 78, 3, []), (.nop, 0, []), (.nop, 0, []), (.return_, 1, [])]]
def g_t80 : q_T := [
  [(.aload_n 0, 1, []), (.invokespecial 3, 3, []), (.nop, 0, []), (.nop, 0, []), (.aload_n 0, 1, []), (.sipush 984, 3, []), (.nop, 0, []), (.nop, 0, []), (.newarray .int, 2, [100]), (.nop, 0, []), (.putfield 13, 3, [2, 0, 3]), (.nop, 0, []), (.nop, 0, []), (.return_, 1, [])]]
def g_t81 : q_T := [
  [(.aload_n 0, 1, []), (.iconst 0, 1, []), (.putfield 17, 3, [2, 1, 0]), (.nop, 0, []), (.nop, 0, []), (.aload_n 0, 1, []), (.iconst 0, 1, []), (.putfield 21, 3, [2, 2, 0]), (.nop, 0, []), (.nop, 0, []), (.aload_n 0, 1, []), (.iconst 0, 1, []), (.putfield 24, 3, [2, 3, 0]), (.nop, 0, []), (.nop, 0, []), (.aload_n 1, 1, [])],
  [(.aload_n 0, 1, []), (.getfield 13, 3, [2, 0, 3]), (.nop, 0, []), (.nop, 0, []), (.aload_n 0, 1, []), (.invokevirtual 27, 3, [82, 1, 1, 2]), (.nop, 0, []), (.nop, 0, []), (.invokevirtual 31, 3, [99, 3, 4, 6]), (.nop, 0, []), (.nop, 0, []), (.return_, 1, [])]]
def g_t82 : q_T := [
  [(.aload_n 0, 1, []), (.getfield 17, 3, [2, 1, 0]), (.nop, 0, []), (.nop, 0, []), (.aload_n 0, 1, []), (.getfield 21, 3, [2, 2, 0]), (.nop, 0, []), (.nop, 0, []), (.iadd, 1, []), (.bipush 41, 2, []), (.nop, 0, []), (.irem, 1, []), (.bipush 24, 2, []), (.nop, 0, []), (.imul, 1, []), (.ireturn, 1, [0])]]
def g_t83 : q_T := [
  [(.aload_n 0, 1, []), (.getfield 24, 3, [2, 3, 0]), (.nop, 0, []), (.nop, 0, []), (.ifCond .ne 5, 3, [9]), (.nop, 0, []), (.nop, 0, []), (.iconst 0, 1, []), (.ireturn, 1, [1]), (.aload_n 0, 1, []), (.dup, 1, []), (.getfield 21, 3, [2, 2, 0]), (.nop, 0, []), (.nop, 0, []), (.iconst 1, 1, []), (.iadd, 1, [])],
  [(.putfield 21, 3, [2, 2, 0]), (.nop, 0, []), (.nop, 0, []), (.aload_n 0, 1, []), (.dup, 1, []), (.getfield 24, 3, [2, 3, 0]), (.nop, 0, []), (.nop, 0, []), (.iconst 1, 1, []), (.isub, 1, []), (.putfield 24, 3, [2, 3, 0]), (.nop, 0, []), (.nop, 0, []), (.aload_n 1, 1, []), (.aload_n 0, 1, []), (.getfield 13, 3, [2, 0, 3])],
  [(.nop, 0, []), (.nop, 0, []), (.aload_n 0, 1, []), (.invokevirtual 27, 3, [82, 1, 1, 2]), (.nop, 0, []), (.nop, 0, []), (.nop, 0, []), (.nop, 0, []), (.nop, 0, []), (.iconst 1, 1, []), (.ireturn, 1, [1])]]
def g_t84 : q_T := [
  [(.aload_n 0, 1, []), (.getfield 21, 3, [2, 2, 0]), (.nop, 0, []), (.nop, 0, []), (.ifCond .ne 5, 3, [9]), (.nop, 0, []), (.nop, 0, []), (.iconst 0, 1, []), (.ireturn, 1, [1]), (.aload_n 0, 1, []), (.dup, 1, []), (.getfield 21, 3, [2, 2, 0]), (.nop, 0, []), (.nop, 0, []), (.iconst 1, 1, []), (.isub, 1, [])],
  [(.putfield 21, 3, [2, 2, 0]), (.nop, 0, []), (.nop, 0, []), (.aload_n 0, 1, []), (.dup, 1, []), (.getfield 24, 3, [2, 3, 0]), (.nop, 0, []), (.nop, 0, []), (.iconst 1, 1, []), (.iadd, 1, []), (.putfield 24, 3, [2, 3, 0]), (.nop, 0, []), (.nop, 0, []), (.aload_n 1, 1, []), (.aload_n 0, 1, []), (.getfield 13, 3, [2, 0, 3])],
  [(.nop, 0, []), (.nop, 0, []), (.aload_n 0, 1, []), (.invokevirtual 27, 3, [82, 1, 1, 2]), (.nop, 0, []), (.nop, 0, []), (.nop, 0, []), (.nop, 0, []), (.nop, 0, []), (.iconst 1, 1, []), (.ireturn, 1, [1])]]
def g_t85 : q_T := [
  [(.aload_n 0, 1, []), (.invokespecial 3, 3, []), (.nop, 0, []), (.nop, 0, []), (.aload_n 0, 1, []), (.bipush 49, 2, []), (.nop, 0, []), (.newarray .int, 2, [100]), (.nop, 0, []), (.putfield 9, 3, [3, 0, 3]), (.nop, 0, []), (.nop, 0, []), (.aload_n 0, 1, []), (.bipush 7, 2, []), (.nop, 0, []), (.newarray .int, 2, [100])],
  [(.nop, 0, []), (.putfield 15, 3, [3, 1, 3]), (.nop, 0, []), (.nop, 0, []), (.aload_n 0, 1, []), (.bipush 7, 2, []), (.nop, 0, []), (.newarray .int, 2, [100]), (.nop, 0, []), (.putfield 18, 3, [3, 2, 3]), (.nop, 0, []), (.nop, 0, []), (.return_, 1, [])]]
def g_t86 : q_T := [
  [(.iconst 0, 1, []), (.istore_n 2, 1, []), (.iconst 1, 1, []), (.iload_n 1, 1, []), (.ishl, 1, []), (.iconst 1, 1, []), (.isub, 1, []), (.istore_n 3, 1, []), (.iconst 0, 1, []), (.istore 4, 2, []), (.nop, 0, []), (.iload 4, 2, []), (.nop, 0, []), (.iload_n 1, 1, []), (.if_icmp .ge 175, 3, [189]), (.nop, 0, [])],
  [(.nop, 0, []), (.iload_n 3, 1, []), (.ifCond .eq 171, 3, [189]), (.nop, 0, []), (.nop, 0, []), (.iconst 0, 1, []), (.istore 5, 2, []), (.nop, 0, []), (.iload 5, 2, []), (.nop, 0, []), (.iload_n 1, 1, []), (.if_icmp .ge 37, 3, [64]), (.nop, 0, []), (.nop, 0, []), (.aload_n 0, 1, []), (.getfield 15, 3, [3, 1, 3])],
  [(.nop, 0, []), (.nop, 0, []), (.iload 5, 2, []), (.nop, 0, []), (.iload_n 3, 1, []), (.iload 5, 2, []), (.nop, 0, []), (.invokestatic 49, 3, [25, 2, 2]), (.nop, 0, []), (.nop, 0, []), (.ifCond .eq 13, 3, [55]), (.nop, 0, []), (.nop, 0, []), (.aload_n 0, 1, []), (.iload 5, 2, []), (.nop, 0, [])],
  [(.iload_n 3, 1, []), (.nop, 0, []), (.nop, 0, []), (.nop, 0, []), (.goto 5, 3, [57]), (.nop, 0, []), (.nop, 0, []), (.iload 5, 2, []), (.nop, 0, []), (.iastore, 1, []), (.iinc 5 1, 3, []), (.nop, 0, []), (.nop, 0, []), (.goto (-37), 3, [24]), (.nop, 0, []), (.nop, 0, [])],
  [(.iconst 0, 1, []), (.istore 5, 2, []), (.nop, 0, []), (.iconst 0, 1, []), (.istore 6, 2, []), (.nop, 0, []), (.iload 6, 2, []), (.nop, 0, []), (.iload_n 1, 1, []), (.if_icmp .ge 103, 3, [176]), (.nop, 0, []), (.nop, 0, []), (.iload_n 3, 1, []), (.iload 6, 2, []), (.nop, 0, []), (.invokestatic 49, 3, [25, 2, 2])],
  [(.nop, 0, []), (.nop, 0, []), (.ifCond .eq 13, 3, [95]), (.nop, 0, []), (.nop, 0, []), (.aload_n 0, 1, []), (.iload 6, 2, []), (.nop, 0, []), (.iload_n 1, 1, []), (.nop, 0, []), (.nop, 0, []), (.nop, 0, []), (.goto 4, 3, [96]), (.nop, 0, []), (.nop, 0, []), (.iconst 0, 1, [])],
  [(.istore 7, 2, []), (.nop, 0, []), (.iload 7, 2, []), (.nop, 0, []), (.ifCond .ne 6, 3, [106]), (.nop, 0, []), (.nop, 0, []), (.goto 67, 3, [170]), (.nop, 0, []), (.nop, 0, []), (.aload_n 0, 1, []), (.getfield 18, 3, [3, 2, 3]), (.nop, 0, []), (.nop, 0, []), (.aload_n 0, 1, []), (.getfield 15, 3, [3, 1, 3])],
  [(.nop, 0, []), (.nop, 0, []), (.iload 6, 2, []), (.nop, 0, []), (.iaload, 1, []), (.iload 6, 2, []), (.nop, 0, []), (.iastore, 1, []), (.iload 5, 2, []), (.nop, 0, []), (.iconst 1, 1, []), (.iload 6, 2, []), (.nop, 0, []), (.ishl, 1, []), (.ior, 1, []), (.istore 5, 2, [])],
  [(.nop, 0, []), (.iload 7, 2, []), (.nop, 0, []), (.iconst 1, 1, []), (.iload 6, 2, []), (.nop, 0, []), (.ishl, 1, []), (.iconst 1, 1, []), (.isub, 1, []), (.iand, 1, []), (.ifCond .ne 7, 3, [145]), (.nop, 0, []), (.nop, 0, []), (.iconst 1, 1, []), (.goto 4, 3, [146]), (.nop, 0, [])],
  [(.nop, 0, []), (.iconst 0, 1, []), (.istore 8, 2, []), (.nop, 0, []), (.iload_n 2, 1, []), (.iload 8, 2, []), (.nop, 0, []), (.ifCond .eq 16, 3, [167]), (.nop, 0, []), (.nop, 0, []), (.iload 7, 2, []), (.nop, 0, []), (.iconst 1, 1, []), (.iload 6, 2, []), (.nop, 0, []), (.ishl, 1, [])],
  [(.if_icmp .eq 7, 3, [167]), (.nop, 0, []), (.nop, 0, []), (.iconst 1, 1, []), (.goto 4, 3, [168]), (.nop, 0, []), (.nop, 0, []), (.iconst 0, 1, []), (.iadd, 1, []), (.istore_n 2, 1, []), (.iinc 6 1, 3, []), (.nop, 0, []), (.nop, 0, []), (.goto (-103), 3, [70]), (.nop, 0, []), (.nop, 0, [])],
  [(.iload_n 3, 1, []), (.iload 5, 2, []), (.nop, 0, []), (.iconst (-1), 1, []), (.ixor, 1, []), (.iand, 1, []), (.istore_n 3, 1, []), (.iinc 4 1, 3, []), (.nop, 0, []), (.nop, 0, []), (.goto (-175), 3, [11]), (.nop, 0, []), (.nop, 0, []), (.iload_n 2, 1, []), (.ireturn, 1, [0])]]
def g_t87 : q_T := [
  [(.aload_n 0, 1, []), (.invokespecial 3, 3, []), (.nop, 0, []), (.nop, 0, []), (.aload_n 0, 1, []), (.iconst (-1), 1, []), (.putfield 9, 3, [4, 9, 0]), (.nop, 0, []), (.nop, 0, []), (.aload_n 0, 1, []), (.aload_n 1, 1, []), (.putfield 15, 3, [4, 0, 3]), (.nop, 0, []), (.nop, 0, []), (.aload_n 0, 1, []), (.aload_n 2, 1, [])],
  [(.putfield 19, 3, [4, 1, 3]), (.nop, 0, []), (.nop, 0, []), (.return_, 1, [])]]
def g_t88 : q_T := [
  [(.iconst 0, 1, []), (.istore_n 1, 1, []), (.iload_n 1, 1, []), (.sipush 1600, 3, []), (.nop, 0, []), (.nop, 0, []), (.if_icmp .ge 36, 3, [42]), (.nop, 0, []), (.nop, 0, []), (.aload_n 0, 1, []), (.getfield 15, 3, [4, 0, 3]), (.nop, 0, []), (.nop, 0, []), (.aload_n 0, 1, []), (.getfield 28, 3, [4, 2, 0]), (.nop, 0, [])],
  [(.nop, 0, []), (.invokevirtual 49, 3, [101, 2, 2, 7]), (.nop, 0, []), (.nop, 0, []), (.invokestatic 55, 3, [89, 1, 1]), (.nop, 0, []), (.nop, 0, []), (.ifCond .eq 19, 3, [42]), (.nop, 0, []), (.nop, 0, []), (.aload_n 0, 1, []), (.dup, 1, []), (.getfield 28, 3, [4, 2, 0]), (.nop, 0, []), (.nop, 0, []), (.iconst 1, 1, [])],
  [(.iadd, 1, []), (.putfield 28, 3, [4, 2, 0]), (.nop, 0, []), (.nop, 0, []), (.iinc 1 1, 3, []), (.nop, 0, []), (.nop, 0, []), (.goto (-37), 3, [2]), (.nop, 0, []), (.nop, 0, []), (.aload_n 0, 1, []), (.aload_n 0, 1, []), (.getfield 28, 3, [4, 2, 0]), (.nop, 0, []), (.nop, 0, []), (.putfield 46, 3, [4, 3, 0])],
  [(.nop, 0, []), (.nop, 0, []), (.aload_n 0, 1, []), (.getfield 15, 3, [4, 0, 3]), (.nop, 0, []), (.nop, 0, []), (.aload_n 0, 1, []), (.getfield 28, 3, [4, 2, 0]), (.nop, 0, []), (.nop, 0, []), (.invokevirtual 49, 3, [101, 2, 2, 7]), (.nop, 0, []), (.nop, 0, []), (.istore_n 1, 1, []), (.iload_n 1, 1, []), (.iconst (-1), 1, [])],
  [(.if_icmp .ne 13, 3, [77]), (.nop, 0, []), (.nop, 0, []), (.aload_n 0, 1, []), (.sipush 275, 3, []), (.nop, 0, []), (.nop, 0, []), (.putfield 40, 3, [4, 4, 0]), (.nop, 0, []), (.nop, 0, []), (.goto 89, 3, [163]), (.nop, 0, []), (.nop, 0, []), (.iload_n 1, 1, []), (.nop, 0, []), (.nop, 0, [])],
  [(.nop, 0, []), (.ifCond .eq 35, 3, [116]), (.nop, 0, []), (.nop, 0, []), (.aload_n 0, 1, []), (.nop, 0, []), (.nop, 0, []), (.nop, 0, []), (.aload_n 0, 1, []), (.aload_n 0, 1, []), (.getfield 40, 3, [4, 4, 0]), (.nop, 0, []), (.nop, 0, []), (.sipush 273, 3, []), (.nop, 0, []), (.nop, 0, [])],
  [(.if_icmp .ne 10, 3, [106]), (.nop, 0, []), (.nop, 0, []), (.aload_n 0, 1, []), (.nop, 0, []), (.nop, 0, []), (.nop, 0, []), (.goto 7, 3, [110]), (.nop, 0, []), (.nop, 0, []), (.aload_n 0, 1, []), (.getfield 40, 3, [4, 4, 0]), (.nop, 0, []), (.nop, 0, []), (.putfield 40, 3, [4, 4, 0]), (.nop, 0, [])],
  [(.nop, 0, []), (.goto 50, 3, [163]), (.nop, 0, []), (.nop, 0, []), (.iload_n 1, 1, []), (.nop, 0, []), (.nop, 0, []), (.nop, 0, []), (.ifCond .eq 10, 3, [130]), (.nop, 0, []), (.nop, 0, []), (.aload_n 0, 1, []), (.nop, 0, []), (.nop, 0, []), (.nop, 0, []), (.goto 36, 3, [163])],
  [(.nop, 0, []), (.nop, 0, []), (.nop, 0, []), (.nop, 0, []), (.iload_n 1, 1, []), (.i2c, 1, []), (.nop, 0, []), (.nop, 0, []), (.nop, 0, []), (.ifCond .lt 21, 3, [158]), (.nop, 0, []), (.nop, 0, []), (.aload_n 0, 1, []), (.iload_n 1, 1, []), (.putfield 40, 3, [4, 4, 0]), (.nop, 0, [])],
  [(.nop, 0, []), (.aload_n 0, 1, []), (.dup, 1, []), (.getfield 28, 3, [4, 2, 0]), (.nop, 0, []), (.nop, 0, []), (.iconst 1, 1, []), (.iadd, 1, []), (.putfield 28, 3, [4, 2, 0]), (.nop, 0, []), (.nop, 0, []), (.goto 8, 3, [163]), (.nop, 0, []), (.nop, 0, []), (.aload_n 0, 1, []), (.iconst 1, 1, [])],
  [(.nop, 0, []), (.nop, 0, []), (.nop, 0, []), (.return_, 1, [])]]
def g_t89 : q_T := [
  [(.iload_n 0, 1, []), (.bipush 32, 2, []), (.nop, 0, []), (.if_icmp .eq 9, 3, [12]), (.nop, 0, []), (.nop, 0, []), (.iload_n 0, 1, []), (.bipush 10, 2, []), (.nop, 0, []), (.if_icmp .ne 7, 3, [16]), (.nop, 0, []), (.nop, 0, []), (.iconst 1, 1, []), (.goto 4, 3, [17]), (.nop, 0, []), (.nop, 0, [])],
  [(.iconst 0, 1, []), (.ireturn, 1, [1])]]
def g_t90 : q_T := [
  [(.aload_n 0, 1, []), (.aload_n 1, 1, []), (.putfield 19, 3, [4, 1, 3]), (.nop, 0, []), (.nop, 0, []), (.aload_n 0, 1, []), (.getfield 19, 3, [4, 1, 3]), (.nop, 0, []), (.nop, 0, []), (.invokevirtual 23, 3, [104, 1, 1, 8]), (.nop, 0, []), (.nop, 0, []), (.aload_n 0, 1, []), (.iconst 0, 1, []), (.putfield 28, 3, [4, 2, 0]), (.nop, 0, [])],
  [(.nop, 0, []), (.aload_n 0, 1, []), (.iconst 0, 1, []), (.putfield 31, 3, [4, 7, 0]), (.nop, 0, []), (.nop, 0, []), (.aload_n 0, 1, []), (.iconst 0, 1, []), (.putfield 34, 3, [4, 8, 0]), (.nop, 0, []), (.nop, 0, []), (.aload_n 0, 1, []), (.iconst (-1), 1, []), (.putfield 9, 3, [4, 9, 0]), (.nop, 0, []), (.nop, 0, [])],
  [(.aload_n 0, 1, []), (.invokevirtual 37, 3, [88, 1, 2, 4]), (.nop, 0, []), (.nop, 0, []), (.iconst 0, 1, []), (.istore_n 2, 1, []), (.iload_n 2, 1, []), (.sipush 1600, 3, []), (.nop, 0, []), (.nop, 0, []), (.if_icmp .ge 30, 3, [72]), (.nop, 0, []), (.nop, 0, []), (.aload_n 0, 1, []), (.getfield 34, 3, [4, 8, 0]), (.nop, 0, [])],
  [(.nop, 0, []), (.ifCond .ne 23, 3, [72]), (.nop, 0, []), (.nop, 0, []), (.aload_n 0, 1, []), (.getfield 40, 3, [4, 4, 0]), (.nop, 0, []), (.nop, 0, []), (.sipush 275, 3, []), (.nop, 0, []), (.nop, 0, []), (.if_icmp .eq 13, 3, [72]), (.nop, 0, []), (.nop, 0, []), (.aload_n 0, 1, []), (.nop, 0, [])],
  [(.nop, 0, []), (.nop, 0, []), (.iinc 2 1, 3, []), (.nop, 0, []), (.nop, 0, []), (.goto (-31), 3, [38]), (.nop, 0, []), (.nop, 0, []), (.aload_n 0, 1, []), (.getfield 34, 3, [4, 8, 0]), (.nop, 0, []), (.nop, 0, []), (.ifCond .ne 7, 3, [83]), (.nop, 0, []), (.nop, 0, []), (.iconst 1, 1, [])],
  [(.goto 4, 3, [84]), (.nop, 0, []), (.nop, 0, []), (.iconst 0, 1, []), (.ireturn, 1, [1])]]
def g_t91 : q_T := [
  [(.aload_n 0, 1, []), (.invokespecial 3, 3, []), (.nop, 0, []), (.nop, 0, []), (.aload_n 0, 1, []), (.bipush 30, 2, []), (.nop, 0, []), (.newarray .int, 2, [100]), (.nop, 0, []), (.putfield 11, 3, [5, 3, 3]), (.nop, 0, []), (.nop, 0, []), (.aload_n 0, 1, []), (.bipush 30, 2, []), (.nop, 0, []), (.newarray .int, 2, [100])],
  [(.nop, 0, []), (.putfield 15, 3, [5, 4, 3]), (.nop, 0, []), (.nop, 0, []), (.aload_n 0, 1, []), (.bipush 30, 2, []), (.nop, 0, []), (.newarray .boolean, 2, [102]), (.nop, 0, []), (.putfield 18, 3, [5, 5, 3]), (.nop, 0, []), (.nop, 0, []), (.aload_n 0, 1, []), (.bipush 30, 2, []), (.nop, 0, []), (.newarray .int, 2, [100])],
  [(.nop, 0, []), (.putfield 22, 3, [5, 6, 3]), (.nop, 0, []), (.nop, 0, []), (.aload_n 0, 1, []), (.bipush 30, 2, []), (.nop, 0, []), (.newarray .int, 2, [100]), (.nop, 0, []), (.putfield 25, 3, [5, 7, 3]), (.nop, 0, []), (.nop, 0, []), (.aload_n 0, 1, []), (.sipush 210, 3, []), (.nop, 0, []), (.nop, 0, [])],
  [(.newarray .int, 2, [100]), (.nop, 0, []), (.putfield 28, 3, [5, 8, 3]), (.nop, 0, []), (.nop, 0, []), (.aload_n 0, 1, []), (.bipush 8, 2, []), (.nop, 0, []), (.newarray .int, 2, [100]), (.nop, 0, []), (.putfield 31, 3, [5, 9, 3]), (.nop, 0, []), (.nop, 0, []), (.return_, 1, [])]]
def g_t92 : q_T := [
  [(.iconst 0, 1, []), (.istore_n 2, 1, []), (.iconst 0, 1, []), (.istore_n 3, 1, []), (.iload_n 3, 1, []), (.bipush 30, 2, []), (.nop, 0, []), (.if_icmp .ge 35, 3, [42]), (.nop, 0, []), (.nop, 0, []), (.aload_n 0, 1, []), (.getfield 43, 3, [5, 2, 0]), (.nop, 0, []), (.nop, 0, []), (.ifCond .le 28, 3, [42]), (.nop, 0, [])],
  [(.nop, 0, []), (.iload_n 2, 1, []), (.aload_n 0, 1, []), (.iload_n 3, 1, []), (.iload_n 1, 1, []), (.nop, 0, []), (.nop, 0, []), (.nop, 0, []), (.ifCond .eq 9, 3, [33]), (.nop, 0, []), (.nop, 0, []), (.iconst 1, 1, []), (.iload_n 3, 1, []), (.ishl, 1, []), (.goto 4, 3, [34]), (.nop, 0, [])],
  [(.nop, 0, []), (.iconst 0, 1, []), (.ior, 1, []), (.istore_n 2, 1, []), (.iinc 3 1, 3, []), (.nop, 0, []), (.nop, 0, []), (.goto (-35), 3, [4]), (.nop, 0, []), (.nop, 0, []), (.iload_n 2, 1, []), (.ireturn, 1, [0])]]
def g_t93 : q_T := [
  [(.aload_n 0, 1, []), (.iconst 0, 1, []), (.putfield 34, 3, [5, 1, 0]), (.nop, 0, []), (.nop, 0, []), (.aload_n 0, 1, []), (.aload_n 2, 1, []), (.getfield 38, 3, [8, 4, 0]), (.nop, 0, []), (.nop, 0, []), (.putfield 43, 3, [5, 2, 0]), (.nop, 0, []), (.nop, 0, []), (.iconst 0, 1, []), (.istore 4, 2, []), (.nop, 0, [])],
  [(.iload 4, 2, []), (.nop, 0, []), (.bipush 30, 2, []), (.nop, 0, []), (.if_icmp .ge 61, 3, [81]), (.nop, 0, []), (.nop, 0, []), (.aload_n 0, 1, []), (.getfield 43, 3, [5, 2, 0]), (.nop, 0, []), (.nop, 0, []), (.ifCond .le 54, 3, [81]), (.nop, 0, []), (.nop, 0, []), (.aload_n 1, 1, []), (.aload_n 2, 1, [])],
  [(.aload_n 3, 1, []), (.invokevirtual 44, 3, [108, 3, 5, 9]), (.nop, 0, []), (.nop, 0, []), (.aload_n 1, 1, []), (.getfield 50, 3, [9, 3, 3]), (.nop, 0, []), (.nop, 0, []), (.aload_n 0, 1, []), (.getfield 43, 3, [5, 2, 0]), (.nop, 0, []), (.nop, 0, []), (.iconst 1, 1, []), (.isub, 1, []), (.iload 4, 2, []), (.nop, 0, [])],
  [(.iconst 1, 1, []), (.iadd, 1, []), (.iastore, 1, []), (.aload_n 1, 1, []), (.iconst 0, 1, []), (.invokevirtual 53, 3, [110, 2, 3, 9]), (.nop, 0, []), (.nop, 0, []), (.aload_n 1, 1, []), (.getfield 57, 3, [9, 18, 3]), (.nop, 0, []), (.nop, 0, []), (.iconst 0, 1, []), (.aload_n 0, 1, []), (.getfield 28, 3, [5, 8, 3]), (.nop, 0, [])],
  [(.nop, 0, []), (.iload 4, 2, []), (.nop, 0, []), (.bipush 7, 2, []), (.nop, 0, []), (.imul, 1, []), (.bipush 7, 2, []), (.nop, 0, []), (.invokestatic 58, 3, []), (.nop, 0, []), (.nop, 0, []), (.iinc 4 1, 3, []), (.nop, 0, []), (.nop, 0, []), (.goto (-62), 3, [16]), (.nop, 0, [])],
  [(.nop, 0, []), (.return_, 1, [])]]
def g_t94 : q_T := [
  [(.iload_n 1, 1, []), (.ifCond .lt 21, 3, [22]), (.nop, 0, []), (.nop, 0, []), (.iload_n 1, 1, []), (.aload_n 0, 1, []), (.getfield 34, 3, [5, 1, 0]), (.nop, 0, []), (.nop, 0, []), (.if_icmp .ge 13, 3, [22]), (.nop, 0, []), (.nop, 0, []), (.aload_n 0, 1, []), (.getfield 25, 3, [5, 7, 3]), (.nop, 0, []), (.nop, 0, [])],
  [(.iload_n 1, 1, []), (.iaload, 1, []), (.iconst (-1), 1, []), (.if_icmp .eq 5, 3, [24]), (.nop, 0, []), (.nop, 0, []), (.iconst 0, 1, []), (.ireturn, 1, [1]), (.aload_n 0, 1, []), (.getfield 25, 3, [5, 7, 3]), (.nop, 0, []), (.nop, 0, []), (.iload_n 1, 1, []), (.aload_n 0, 1, []), (.getfield 64, 3, [5, 0, 0]), (.nop, 0, [])],
  [(.nop, 0, []), (.iastore, 1, []), (.iconst 1, 1, []), (.ireturn, 1, [1])]]
def g_t95 : q_T := [
  [(.aload_n 0, 1, []), (.invokespecial 3, 3, []), (.nop, 0, []), (.nop, 0, []), (.aload_n 0, 1, []), (.bipush 7, 2, []), (.nop, 0, []), (.newarray .int, 2, [100]), (.nop, 0, []), (.putfield 9, 3, [6, 0, 3]), (.nop, 0, []), (.nop, 0, []), (.aload_n 0, 1, []), (.bipush 7, 2, []), (.nop, 0, []), (.newarray .int, 2, [100])],
  [(.nop, 0, []), (.putfield 15, 3, [6, 2, 3]), (.nop, 0, []), (.nop, 0, []), (.aload_n 0, 1, []), (.iconst 2, 1, []), (.newarray .int, 2, [100]), (.nop, 0, []), (.putfield 18, 3, [6, 4, 3]), (.nop, 0, []), (.nop, 0, []), (.aload_n 0, 1, []), (.iconst 2, 1, []), (.newarray .int, 2, [100]), (.nop, 0, []), (.putfield 21, 3, [6, 5, 3])],
  [(.nop, 0, []), (.nop, 0, []), (.return_, 1, [])]]
def g_t96 : q_T := [
  [(.aload_n 0, 1, []), (.aload_n 1, 1, []), (.getfield 24, 3, [8, 4, 0]), (.nop, 0, []), (.nop, 0, []), (.putfield 30, 3, [6, 1, 0]), (.nop, 0, []), (.nop, 0, []), (.iconst 0, 1, []), (.istore_n 2, 1, []), (.iload_n 2, 1, []), (.bipush 7, 2, []), (.nop, 0, []), (.if_icmp .ge 23, 3, [36]), (.nop, 0, []), (.nop, 0, [])],
  [(.aload_n 0, 1, []), (.getfield 9, 3, [6, 0, 3]), (.nop, 0, []), (.nop, 0, []), (.iload_n 2, 1, []), (.iload_n 2, 1, []), (.iastore, 1, []), (.aload_n 0, 1, []), (.getfield 15, 3, [6, 2, 3]), (.nop, 0, []), (.nop, 0, []), (.iload_n 2, 1, []), (.iconst 0, 1, []), (.iastore, 1, []), (.iinc 2 1, 3, []), (.nop, 0, [])],
  [(.nop, 0, []), (.goto (-23), 3, [10]), (.nop, 0, []), (.nop, 0, []), (.iconst 0, 1, []), (.istore_n 2, 1, []), (.iload_n 2, 1, []), (.iconst 2, 1, []), (.if_icmp .ge 23, 3, [63]), (.nop, 0, []), (.nop, 0, []), (.aload_n 0, 1, []), (.getfield 18, 3, [6, 4, 3]), (.nop, 0, []), (.nop, 0, []), (.iload_n 2, 1, [])],
  [(.iconst (-1), 1, []), (.iastore, 1, []), (.aload_n 0, 1, []), (.getfield 21, 3, [6, 5, 3]), (.nop, 0, []), (.nop, 0, []), (.iload_n 2, 1, []), (.iconst 0, 1, []), (.iastore, 1, []), (.iinc 2 1, 3, []), (.nop, 0, []), (.nop, 0, []), (.goto (-22), 3, [38]), (.nop, 0, []), (.nop, 0, []), (.aload_n 0, 1, [])],
  [(.iconst 0, 1, []), (.putfield 33, 3, [6, 3, 0]), (.nop, 0, []), (.nop, 0, []), (.aload_n 0, 1, []), (.iconst 0, 1, []), (.putfield 36, 3, [6, 6, 0]), (.nop, 0, []), (.nop, 0, []), (.aload_n 0, 1, []), (.iconst 0, 1, []), (.putfield 39, 3, [6, 7, 0]), (.nop, 0, []), (.nop, 0, []), (.aload_n 0, 1, []), (.iconst 0, 1, [])],
  [(.putfield 42, 3, [6, 8, 0]), (.nop, 0, []), (.nop, 0, []), (.aload_n 0, 1, []), (.aload_n 1, 1, []), (.getfield 45, 3, [8, 12, 0]), (.nop, 0, []), (.nop, 0, []), (.putfield 48, 3, [6, 9, 0]), (.nop, 0, []), (.nop, 0, []), (.return_, 1, [])]]
def g_t97 : q_T := [
  [(.iconst 0, 1, []), (.istore_n 3, 1, []), (.iconst 0, 1, []), (.istore 4, 2, []), (.nop, 0, []), (.iload 4, 2, []), (.nop, 0, []), (.iload_n 2, 1, []), (.if_icmp .ge 31, 3, [39]), (.nop, 0, []), (.nop, 0, []), (.iload_n 3, 1, []), (.aload_n 0, 1, []), (.getfield 15, 3, [6, 2, 3]), (.nop, 0, []), (.nop, 0, [])],
  [(.iload 4, 2, []), (.nop, 0, []), (.iaload, 1, []), (.iload_n 1, 1, []), (.if_icmp .ne 10, 3, [30]), (.nop, 0, []), (.nop, 0, []), (.iconst 1, 1, []), (.iload 4, 2, []), (.nop, 0, []), (.ishl, 1, []), (.goto 4, 3, [31]), (.nop, 0, []), (.nop, 0, []), (.iconst 0, 1, []), (.ior, 1, [])],
  [(.istore_n 3, 1, []), (.iinc 4 1, 3, []), (.nop, 0, []), (.nop, 0, []), (.goto (-31), 3, [5]), (.nop, 0, []), (.nop, 0, []), (.iload_n 3, 1, []), (.ireturn, 1, [0])]]
def g_t98 : q_T := [
  [(.iconst 1, 1, []), (.istore_n 1, 1, []), (.iconst 0, 1, []), (.istore_n 2, 1, []), (.iload_n 2, 1, []), (.iconst 2, 1, []), (.if_icmp .ge 29, 3, [35]), (.nop, 0, []), (.nop, 0, []), (.iload_n 1, 1, []), (.ifCond .eq 17, 3, [27]), (.nop, 0, []), (.nop, 0, []), (.aload_n 0, 1, []), (.getfield 18, 3, [6, 4, 3]), (.nop, 0, [])],
  [(.nop, 0, []), (.iload_n 2, 1, []), (.iaload, 1, []), (.iconst (-1), 1, []), (.if_icmp .ne 7, 3, [27]), (.nop, 0, []), (.nop, 0, []), (.iconst 1, 1, []), (.goto 4, 3, [28]), (.nop, 0, []), (.nop, 0, []), (.iconst 0, 1, []), (.istore_n 1, 1, []), (.iinc 2 1, 3, []), (.nop, 0, []), (.nop, 0, [])],
  [(.goto (-28), 3, [4]), (.nop, 0, []), (.nop, 0, []), (.iload_n 1, 1, []), (.ifCond .eq 14, 3, [50]), (.nop, 0, []), (.nop, 0, []), (.aload_n 0, 1, []), (.getfield 30, 3, [6, 1, 0]), (.nop, 0, []), (.nop, 0, []), (.ifCond .ne 7, 3, [50]), (.nop, 0, []), (.nop, 0, []), (.iconst 1, 1, []), (.goto 4, 3, [51])],
  [(.nop, 0, []), (.nop, 0, []), (.iconst 0, 1, []), (.ireturn, 1, [1])]]
def g_t99 : q_T := [
  [(.iload_n 2, 1, []), (.ifCond .lt 12, 3, [13]), (.nop, 0, []), (.nop, 0, []), (.iload_n 2, 1, []), (.bipush 24, 2, []), (.nop, 0, []), (.iadd, 1, []), (.aload_n 1, 1, []), (.arraylength, 1, []), (.if_icmp .le 4, 3, [14]), (.nop, 0, []), (.nop, 0, []), (.return_, 1, []), (.iload_n 2, 1, []), (.istore_n 3, 1, [])],
  [(.aload_n 0, 1, []), (.getfield 9, 3, [6, 0, 3]), (.nop, 0, []), (.nop, 0, []), (.iconst 0, 1, []), (.aload_n 1, 1, []), (.iload_n 3, 1, []), (.bipush 7, 2, []), (.nop, 0, []), (.invokestatic 51, 3, []), (.nop, 0, []), (.nop, 0, []), (.iinc 3 7, 3, []), (.nop, 0, []), (.nop, 0, []), (.aload_n 0, 1, [])],
  [(.getfield 15, 3, [6, 2, 3]), (.nop, 0, []), (.nop, 0, []), (.iconst 0, 1, []), (.aload_n 1, 1, []), (.iload_n 3, 1, []), (.bipush 7, 2, []), (.nop, 0, []), (.invokestatic 51, 3, []), (.nop, 0, []), (.nop, 0, []), (.iinc 3 7, 3, []), (.nop, 0, []), (.nop, 0, []), (.aload_n 0, 1, []), (.getfield 18, 3, [6, 4, 3])],
  [(.nop, 0, []), (.nop, 0, []), (.iconst 0, 1, []), (.aload_n 1, 1, []), (.iload_n 3, 1, []), (.iconst 2, 1, []), (.invokestatic 51, 3, []), (.nop, 0, []), (.nop, 0, []), (.iinc 3 2, 3, []), (.nop, 0, []), (.nop, 0, []), (.aload_n 0, 1, []), (.getfield 21, 3, [6, 5, 3]), (.nop, 0, []), (.nop, 0, [])],
  [(.iconst 0, 1, []), (.aload_n 1, 1, []), (.iload_n 3, 1, []), (.iconst 2, 1, []), (.invokestatic 51, 3, []), (.nop, 0, []), (.nop, 0, []), (.iinc 3 2, 3, []), (.nop, 0, []), (.nop, 0, []), (.aload_n 1, 1, []), (.iload_n 3, 1, []), (.aload_n 0, 1, []), (.getfield 30, 3, [6, 1, 0]), (.nop, 0, []), (.nop, 0, [])],
  [(.iastore, 1, []), (.aload_n 1, 1, []), (.iload_n 3, 1, []), (.iconst 1, 1, []), (.iadd, 1, []), (.aload_n 0, 1, []), (.getfield 33, 3, [6, 3, 0]), (.nop, 0, []), (.nop, 0, []), (.iastore, 1, []), (.aload_n 1, 1, []), (.iload_n 3, 1, []), (.iconst 2, 1, []), (.iadd, 1, []), (.aload_n 0, 1, []), (.getfield 36, 3, [6, 6, 0])],
  [(.nop, 0, []), (.nop, 0, []), (.iastore, 1, []), (.aload_n 1, 1, []), (.iload_n 3, 1, []), (.iconst 3, 1, []), (.iadd, 1, []), (.aload_n 0, 1, []), (.getfield 39, 3, [6, 7, 0]), (.nop, 0, []), (.nop, 0, []), (.iastore, 1, []), (.aload_n 1, 1, []), (.iload_n 3, 1, []), (.iconst 4, 1, []), (.iadd, 1, [])],
  [(.aload_n 0, 1, []), (.getfield 42, 3, [6, 8, 0]), (.nop, 0, []), (.nop, 0, []), (.iastore, 1, []), (.aload_n 1, 1, []), (.iload_n 3, 1, []), (.iconst 5, 1, []), (.iadd, 1, []), (.aload_n 0, 1, []), (.getfield 48, 3, [6, 9, 0]), (.nop, 0, []), (.nop, 0, []), (.iastore, 1, []), (.return_, 1, [])]]
def g_t100 : q_T := [
  [(.aload_n 0, 1, []), (.invokespecial 3, 3, []), (.nop, 0, []), (.nop, 0, []), (.aload_n 0, 1, []), (.sipush 1600, 3, []), (.nop, 0, []), (.nop, 0, []), (.newarray .byte, 2, [101]), (.nop, 0, []), (.putfield 9, 3, [7, 0, 3]), (.nop, 0, []), (.nop, 0, []), (.return_, 1, [])]]
def g_t101 : q_T := [
  [(.iload_n 1, 1, []), (.ifCond .lt 24, 3, [25]), (.nop, 0, []), (.nop, 0, []), (.iload_n 1, 1, []), (.aload_n 0, 1, []), (.getfield 15, 3, [7, 1, 0]), (.nop, 0, []), (.nop, 0, []), (.if_icmp .ge 16, 3, [25]), (.nop, 0, []), (.nop, 0, []), (.aload_n 0, 1, []), (.getfield 9, 3, [7, 0, 3]), (.nop, 0, []), (.nop, 0, [])],
  [(.iload_n 1, 1, []), (.baload, 1, []), (.sipush 255, 3, []), (.nop, 0, []), (.nop, 0, []), (.iand, 1, []), (.goto 4, 3, [26]), (.nop, 0, []), (.nop, 0, []), (.iconst (-1), 1, []), (.ireturn, 1, [0])]]
def g_t102 : q_T := [
  [(.bipush 24, 2, []), (.nop, 0, []), (.istore_n 2, 1, []), (.iload_n 2, 1, []), (.ifCond .lt 42, 3, [46]), (.nop, 0, []), (.nop, 0, []), (.aload_n 0, 1, []), (.getfield 15, 3, [7, 1, 0]), (.nop, 0, []), (.nop, 0, []), (.sipush 1600, 3, []), (.nop, 0, []), (.nop, 0, []), (.if_icmp .ge 32, 3, [46]), (.nop, 0, [])],
  [(.nop, 0, []), (.aload_n 0, 1, []), (.getfield 9, 3, [7, 0, 3]), (.nop, 0, []), (.nop, 0, []), (.aload_n 0, 1, []), (.getfield 15, 3, [7, 1, 0]), (.nop, 0, []), (.nop, 0, []), (.iload_n 1, 1, []), (.iload_n 2, 1, []), (.ishr, 1, []), (.i2b, 1, []), (.bastore, 1, []), (.aload_n 0, 1, []), (.dup, 1, [])],
  [(.getfield 15, 3, [7, 1, 0]), (.nop, 0, []), (.nop, 0, []), (.iconst 1, 1, []), (.iadd, 1, []), (.putfield 15, 3, [7, 1, 0]), (.nop, 0, []), (.nop, 0, []), (.iinc 2 (-8), 3, []), (.nop, 0, []), (.nop, 0, []), (.goto (-40), 3, [3]), (.nop, 0, []), (.nop, 0, []), (.return_, 1, [])]]
def g_t103 : q_T := [
  [(.aload_n 0, 1, []), (.invokespecial 3, 3, []), (.nop, 0, []), (.nop, 0, []), (.aload_n 0, 1, []), (.iconst 5, 1, []), (.newarray .long, 2, [103]), (.nop, 0, []), (.putfield 9, 3, [8, 1, 3]), (.nop, 0, []), (.nop, 0, []), (.aload_n 0, 1, []), (.iconst 5, 1, []), (.newarray .int, 2, [100]), (.nop, 0, []), (.putfield 15, 3, [8, 2, 3])],
  [(.nop, 0, []), (.nop, 0, []), (.aload_n 0, 1, []), (.iconst 5, 1, []), (.newarray .int, 2, [100]), (.nop, 0, []), (.putfield 19, 3, [8, 3, 3]), (.nop, 0, []), (.nop, 0, []), (.aload_n 0, 1, []), (.bipush 7, 2, []), (.nop, 0, []), (.newarray .long, 2, [103]), (.nop, 0, []), (.putfield 22, 3, [8, 5, 3]), (.nop, 0, [])],
  [(.nop, 0, []), (.aload_n 0, 1, []), (.bipush 7, 2, []), (.nop, 0, []), (.newarray .int, 2, [100]), (.nop, 0, []), (.putfield 25, 3, [8, 6, 3]), (.nop, 0, []), (.nop, 0, []), (.aload_n 0, 1, []), (.bipush 7, 2, []), (.nop, 0, []), (.newarray .int, 2, [100]), (.nop, 0, []), (.putfield 28, 3, [8, 7, 3]), (.nop, 0, [])],
  [(.nop, 0, []), (.aload_n 0, 1, []), (.bipush 7, 2, []), (.nop, 0, []), (.newarray .int, 2, [100]), (.nop, 0, []), (.putfield 31, 3, [8, 8, 3]), (.nop, 0, []), (.nop, 0, []), (.aload_n 0, 1, []), (.new 34, 3, [0, 3, 3, 3, 0, 0]), (.nop, 0, []), (.nop, 0, []), (.dup, 1, []), (.invokespecial 36, 3, [75, 1, 1]), (.nop, 0, [])],
  [(.nop, 0, []), (.putfield 37, 3, [8, 13, 3]), (.nop, 0, []), (.nop, 0, []), (.aload_n 0, 1, []), (.invokevirtual 41, 3, [104, 1, 1, 8]), (.nop, 0, []), (.nop, 0, []), (.return_, 1, [])]]
def g_t104 : q_T := [
  [(.aload_n 0, 1, []), (.iconst 0, 1, []), (.putfield 44, 3, [8, 0, 0]), (.nop, 0, []), (.nop, 0, []), (.aload_n 0, 1, []), (.iconst 0, 1, []), (.putfield 48, 3, [8, 4, 0]), (.nop, 0, []), (.nop, 0, []), (.aload_n 0, 1, []), (.bipush 11, 2, []), (.nop, 0, []), (.putfield 51, 3, [8, 9, 0]), (.nop, 0, []), (.nop, 0, [])],
  [(.aload_n 0, 1, []), (.iconst 1, 1, []), (.putfield 54, 3, [8, 10, 0]), (.nop, 0, []), (.nop, 0, []), (.aload_n 0, 1, []), (.iconst 0, 1, []), (.putfield 57, 3, [8, 11, 0]), (.nop, 0, []), (.nop, 0, []), (.aload_n 0, 1, []), (.iconst 0, 1, []), (.putfield 60, 3, [8, 12, 0]), (.nop, 0, []), (.nop, 0, []), (.aload_n 0, 1, [])],
  [(.getfield 37, 3, [8, 13, 3]), (.nop, 0, []), (.nop, 0, []), (.iconst 0, 1, []), (.putfield 63, 3, [0, 3, 0]), (.nop, 0, []), (.nop, 0, []), (.aload_n 0, 1, []), (.getfield 37, 3, [8, 13, 3]), (.nop, 0, []), (.nop, 0, []), (.iconst 0, 1, []), (.putfield 66, 3, [0, 4, 0]), (.nop, 0, []), (.nop, 0, []), (.return_, 1, [])]]
def g_t105 : q_T := [
  [(.aload_n 0, 1, []), (.invokespecial 3, 3, []), (.nop, 0, []), (.nop, 0, []), (.aload_n 0, 1, []), (.bipush 7, 2, []), (.nop, 0, []), (.newarray .int, 2, [100]), (.nop, 0, []), (.putfield 9, 3, [9, 1, 3]), (.nop, 0, []), (.nop, 0, []), (.aload_n 0, 1, []), (.bipush 8, 2, []), (.nop, 0, []), (.newarray .int, 2, [100])],
  [(.nop, 0, []), (.putfield 15, 3, [9, 3, 3]), (.nop, 0, []), (.nop, 0, []), (.aload_n 0, 1, []), (.iconst 5, 1, []), (.newarray .int, 2, [100]), (.nop, 0, []), (.putfield 18, 3, [9, 5, 3]), (.nop, 0, []), (.nop, 0, []), (.aload_n 0, 1, []), (.iconst 3, 1, []), (.newarray .int, 2, [100]), (.nop, 0, []), (.putfield 21, 3, [9, 11, 3])],
  [(.nop, 0, []), (.nop, 0, []), (.aload_n 0, 1, []), (.iconst 3, 1, []), (.newarray .int, 2, [100]), (.nop, 0, []), (.putfield 24, 3, [9, 12, 3]), (.nop, 0, []), (.nop, 0, []), (.aload_n 0, 1, []), (.iconst 3, 1, []), (.newarray .int, 2, [100]), (.nop, 0, []), (.putfield 27, 3, [9, 13, 3]), (.nop, 0, []), (.nop, 0, [])],
  [(.aload_n 0, 1, []), (.bipush 8, 2, []), (.nop, 0, []), (.newarray .int, 2, [100]), (.nop, 0, []), (.putfield 30, 3, [9, 18, 3]), (.nop, 0, []), (.nop, 0, []), (.aload_n 0, 1, []), (.bipush 8, 2, []), (.nop, 0, []), (.newarray .int, 2, [100]), (.nop, 0, []), (.putfield 33, 3, [9, 19, 3]), (.nop, 0, []), (.nop, 0, [])],
  [(.aload_n 0, 1, []), (.aload_n 1, 1, []), (.putfield 36, 3, [9, 0, 3]), (.nop, 0, []), (.nop, 0, []), (.return_, 1, [])]]
def g_t106 : q_T := [
  [(.aload_n 0, 1, []), (.getfield 84, 3, [9, 14, 0]), (.nop, 0, []), (.nop, 0, []), (.istore_n 1, 1, []), (.iconst 0, 1, []), (.istore_n 2, 1, []), (.iload_n 2, 1, []), (.aload_n 0, 1, []), (.getfield 78, 3, [9, 10, 0]), (.nop, 0, []), (.nop, 0, []), (.if_icmp .ge 39, 3, [51]), (.nop, 0, []), (.nop, 0, []), (.aload_n 0, 1, [])],
  [(.getfield 21, 3, [9, 11, 3]), (.nop, 0, []), (.nop, 0, []), (.iload_n 2, 1, []), (.iaload, 1, []), (.iconst (-1), 1, []), (.if_icmp .ne 7, 3, [29]), (.nop, 0, []), (.nop, 0, []), (.iload_n 1, 1, []), (.goto 18, 3, [44]), (.nop, 0, []), (.nop, 0, []), (.iload_n 1, 1, []), (.aload_n 0, 1, []), (.getfield 33, 3, [9, 19, 3])],
  [(.nop, 0, []), (.nop, 0, []), (.aload_n 0, 1, []), (.getfield 21, 3, [9, 11, 3]), (.nop, 0, []), (.nop, 0, []), (.iload_n 2, 1, []), (.iaload, 1, []), (.iaload, 1, []), (.nop, 0, []), (.nop, 0, []), (.nop, 0, []), (.istore_n 1, 1, []), (.iinc 2 1, 3, []), (.nop, 0, []), (.nop, 0, [])],
  [(.goto (-41), 3, [7]), (.nop, 0, []), (.nop, 0, []), (.iconst 0, 1, []), (.istore_n 2, 1, []), (.iload_n 2, 1, []), (.aload_n 0, 1, []), (.getfield 53, 3, [9, 2, 0]), (.nop, 0, []), (.nop, 0, []), (.if_icmp .ge 41, 3, [99]), (.nop, 0, []), (.nop, 0, []), (.iload_n 1, 1, []), (.aload_n 0, 1, []), (.getfield 30, 3, [9, 18, 3])],
  [(.nop, 0, []), (.nop, 0, []), (.aload_n 0, 1, []), (.getfield 9, 3, [9, 1, 3]), (.nop, 0, []), (.nop, 0, []), (.iload_n 2, 1, []), (.iaload, 1, []), (.iaload, 1, []), (.iconst 1, 1, []), (.iadd, 1, []), (.aload_n 0, 1, []), (.getfield 33, 3, [9, 19, 3]), (.nop, 0, []), (.nop, 0, []), (.aload_n 0, 1, [])],
  [(.getfield 9, 3, [9, 1, 3]), (.nop, 0, []), (.nop, 0, []), (.iload_n 2, 1, []), (.iaload, 1, []), (.iaload, 1, []), (.nop, 0, []), (.nop, 0, []), (.nop, 0, []), (.nop, 0, []), (.nop, 0, []), (.nop, 0, []), (.istore_n 1, 1, []), (.iinc 2 1, 3, []), (.nop, 0, []), (.nop, 0, [])],
  [(.goto (-43), 3, [53]), (.nop, 0, []), (.nop, 0, []), (.iload_n 1, 1, []), (.aload_n 0, 1, []), (.getfield 84, 3, [9, 14, 0]), (.nop, 0, []), (.nop, 0, []), (.isub, 1, []), (.ireturn, 1, [0])]]
def g_t107 : q_T := [
  [(.iconst 0, 1, []), (.istore_n 2, 1, []), (.iconst 0, 1, []), (.istore_n 3, 1, []), (.iload_n 3, 1, []), (.aload_n 0, 1, []), (.getfield 53, 3, [9, 2, 0]), (.nop, 0, []), (.nop, 0, []), (.if_icmp .ge 37, 3, [46]), (.nop, 0, []), (.nop, 0, []), (.iload_n 1, 1, []), (.aload_n 0, 1, []), (.getfield 9, 3, [9, 1, 3]), (.nop, 0, [])],
  [(.nop, 0, []), (.iload_n 3, 1, []), (.iaload, 1, []), (.invokestatic 106, 3, [25, 2, 2]), (.nop, 0, []), (.nop, 0, []), (.ifCond .ne 18, 3, [40]), (.nop, 0, []), (.nop, 0, []), (.aload_n 0, 1, []), (.getfield 9, 3, [9, 1, 3]), (.nop, 0, []), (.nop, 0, []), (.iload_n 2, 1, []), (.aload_n 0, 1, []), (.getfield 9, 3, [9, 1, 3])],
  [(.nop, 0, []), (.nop, 0, []), (.iload_n 3, 1, []), (.iaload, 1, []), (.iastore, 1, []), (.iinc 2 1, 3, []), (.nop, 0, []), (.nop, 0, []), (.iinc 3 1, 3, []), (.nop, 0, []), (.nop, 0, []), (.goto (-39), 3, [4]), (.nop, 0, []), (.nop, 0, []), (.aload_n 0, 1, []), (.iload_n 2, 1, [])],
  [(.putfield 53, 3, [9, 2, 0]), (.nop, 0, []), (.nop, 0, []), (.return_, 1, [])]]
def g_t108 : q_T := [
  [(.aload_n 0, 1, []), (.aload_n 1, 1, []), (.putfield 36, 3, [9, 0, 3]), (.nop, 0, []), (.nop, 0, []), (.aload_n 2, 1, []), (.getfield 40, 3, [6, 0, 3]), (.nop, 0, []), (.nop, 0, []), (.iconst 0, 1, []), (.aload_n 0, 1, []), (.getfield 9, 3, [9, 1, 3]), (.nop, 0, []), (.nop, 0, []), (.iconst 0, 1, []), (.bipush 7, 2, [])],
  [(.nop, 0, []), (.invokestatic 43, 3, []), (.nop, 0, []), (.nop, 0, []), (.aload_n 0, 1, []), (.aload_n 2, 1, []), (.getfield 49, 3, [6, 1, 0]), (.nop, 0, []), (.nop, 0, []), (.putfield 53, 3, [9, 2, 0]), (.nop, 0, []), (.nop, 0, []), (.aload_n 1, 1, []), (.getfield 54, 3, [8, 7, 3]), (.nop, 0, []), (.nop, 0, [])],
  [(.iconst 0, 1, []), (.aload_n 0, 1, []), (.getfield 15, 3, [9, 3, 3]), (.nop, 0, []), (.nop, 0, []), (.iconst 0, 1, []), (.bipush 7, 2, []), (.nop, 0, []), (.invokestatic 43, 3, []), (.nop, 0, []), (.nop, 0, []), (.iconst 0, 1, []), (.istore_n 3, 1, []), (.iload_n 3, 1, []), (.aload_n 1, 1, []), (.getfield 57, 3, [8, 0, 0])],
  [(.nop, 0, []), (.nop, 0, []), (.if_icmp .ge 21, 3, [71]), (.nop, 0, []), (.nop, 0, []), (.aload_n 0, 1, []), (.getfield 18, 3, [9, 5, 3]), (.nop, 0, []), (.nop, 0, []), (.iload_n 3, 1, []), (.aload_n 2, 1, []), (.aload_n 1, 1, []), (.iload_n 3, 1, []), (.nop, 0, []), (.nop, 0, []), (.nop, 0, [])],
  [(.iastore, 1, []), (.iinc 3 1, 3, []), (.nop, 0, []), (.nop, 0, []), (.goto (-23), 3, [45]), (.nop, 0, []), (.nop, 0, []), (.aload_n 0, 1, []), (.aload_n 2, 1, []), (.getfield 64, 3, [6, 3, 0]), (.nop, 0, []), (.nop, 0, []), (.putfield 67, 3, [9, 6, 0]), (.nop, 0, []), (.nop, 0, []), (.aload_n 0, 1, [])],
  [(.aload_n 1, 1, []), (.getfield 68, 3, [8, 9, 0]), (.nop, 0, []), (.nop, 0, []), (.putfield 71, 3, [9, 7, 0]), (.nop, 0, []), (.nop, 0, []), (.aload_n 0, 1, []), (.iconst 0, 1, []), (.putfield 72, 3, [9, 8, 0]), (.nop, 0, []), (.nop, 0, []), (.aload_n 0, 1, []), (.aload_n 1, 1, []), (.getfield 75, 3, [8, 10, 0]), (.nop, 0, [])],
  [(.nop, 0, []), (.putfield 78, 3, [9, 10, 0]), (.nop, 0, []), (.nop, 0, []), (.iconst 0, 1, []), (.istore_n 3, 1, []), (.iload_n 3, 1, []), (.iconst 3, 1, []), (.if_icmp .ge 63, 3, [167]), (.nop, 0, []), (.nop, 0, []), (.iload_n 3, 1, []), (.iconst 2, 1, []), (.if_icmp .ge 7, 3, [116]), (.nop, 0, []), (.nop, 0, [])],
  [(.iconst 1, 1, []), (.goto 4, 3, [117]), (.nop, 0, []), (.nop, 0, []), (.iconst 0, 1, []), (.istore 4, 2, []), (.nop, 0, []), (.aload_n 0, 1, []), (.getfield 21, 3, [9, 11, 3]), (.nop, 0, []), (.nop, 0, []), (.iload_n 3, 1, []), (.iload 4, 2, []), (.nop, 0, []), (.ifCond .eq 12, 3, [138]), (.nop, 0, [])],
  [(.nop, 0, []), (.aload_n 2, 1, []), (.getfield 79, 3, [6, 4, 3]), (.nop, 0, []), (.nop, 0, []), (.iload_n 3, 1, []), (.iaload, 1, []), (.goto 4, 3, [139]), (.nop, 0, []), (.nop, 0, []), (.iconst (-1), 1, []), (.iastore, 1, []), (.aload_n 0, 1, []), (.getfield 24, 3, [9, 12, 3]), (.nop, 0, []), (.nop, 0, [])],
  [(.iload_n 3, 1, []), (.iload 4, 2, []), (.nop, 0, []), (.ifCond .eq 12, 3, [159]), (.nop, 0, []), (.nop, 0, []), (.aload_n 2, 1, []), (.getfield 80, 3, [6, 5, 3]), (.nop, 0, []), (.nop, 0, []), (.iload_n 3, 1, []), (.iaload, 1, []), (.goto 4, 3, [160]), (.nop, 0, []), (.nop, 0, []), (.iconst 0, 1, [])],
  [(.iastore, 1, []), (.iinc 3 1, 3, []), (.nop, 0, []), (.nop, 0, []), (.goto (-62), 3, [102]), (.nop, 0, []), (.nop, 0, []), (.aload_n 0, 1, []), (.aload_n 2, 1, []), (.getfield 81, 3, [6, 8, 0]), (.nop, 0, []), (.nop, 0, []), (.putfield 84, 3, [9, 14, 0]), (.nop, 0, []), (.nop, 0, []), (.aload_n 0, 1, [])],
  [(.aload_n 2, 1, []), (.iconst 2, 1, []), (.aload_n 1, 1, []), (.getfield 87, 3, [8, 4, 0]), (.nop, 0, []), (.nop, 0, []), (.invokevirtual 90, 3, [97, 3, 5, 6]), (.nop, 0, []), (.nop, 0, []), (.putfield 94, 3, [9, 15, 0]), (.nop, 0, []), (.nop, 0, []), (.return_, 1, [])]]
def g_t109 : q_T := [
  [(.aload_n 0, 1, []), (.aload_n 0, 1, []), (.getfield 94, 3, [9, 15, 0]), (.nop, 0, []), (.nop, 0, []), (.putfield 125, 3, [9, 16, 0]), (.nop, 0, []), (.nop, 0, []), (.aload_n 0, 1, []), (.iconst 0, 1, []), (.putfield 128, 3, [9, 17, 0]), (.nop, 0, []), (.nop, 0, []), (.iconst 0, 1, []), (.istore_n 2, 1, []), (.iload_n 2, 1, [])],
  [(.aload_n 0, 1, []), (.getfield 78, 3, [9, 10, 0]), (.nop, 0, []), (.nop, 0, []), (.if_icmp .ge 82, 3, [102]), (.nop, 0, []), (.nop, 0, []), (.aload_n 0, 1, []), (.getfield 21, 3, [9, 11, 3]), (.nop, 0, []), (.nop, 0, []), (.iload_n 2, 1, []), (.iaload, 1, []), (.istore_n 3, 1, []), (.aload_n 0, 1, []), (.getfield 27, 3, [9, 13, 3])],
  [(.nop, 0, []), (.nop, 0, []), (.iload_n 2, 1, []), (.aload_n 0, 1, []), (.getfield 84, 3, [9, 14, 0]), (.nop, 0, []), (.nop, 0, []), (.iastore, 1, []), (.iload_n 3, 1, []), (.iconst (-1), 1, []), (.if_icmp .eq 44, 3, [86]), (.nop, 0, []), (.nop, 0, []), (.aload_n 0, 1, []), (.getfield 30, 3, [9, 18, 3]), (.nop, 0, [])],
  [(.nop, 0, []), (.iload_n 3, 1, []), (.aload_n 0, 1, []), (.getfield 84, 3, [9, 14, 0]), (.nop, 0, []), (.nop, 0, []), (.iconst 1, 1, []), (.isub, 1, []), (.iastore, 1, []), (.aload_n 0, 1, []), (.iload_n 3, 1, []), (.aload_n 0, 1, []), (.getfield 84, 3, [9, 14, 0]), (.nop, 0, []), (.nop, 0, []), (.aload_n 0, 1, [])],
  [(.getfield 24, 3, [9, 12, 3]), (.nop, 0, []), (.nop, 0, []), (.iload_n 2, 1, []), (.iaload, 1, []), (.iadd, 1, []), (.nop, 0, []), (.nop, 0, []), (.nop, 0, []), (.pop, 1, []), (.aload_n 0, 1, []), (.getfield 27, 3, [9, 13, 3]), (.nop, 0, []), (.nop, 0, []), (.iload_n 2, 1, []), (.aload_n 0, 1, [])],
  [(.getfield 33, 3, [9, 19, 3]), (.nop, 0, []), (.nop, 0, []), (.iload_n 3, 1, []), (.iaload, 1, []), (.iastore, 1, []), (.aload_n 0, 1, []), (.getfield 27, 3, [9, 13, 3]), (.nop, 0, []), (.nop, 0, []), (.iload_n 2, 1, []), (.dup2, 1, []), (.iaload, 1, []), (.iload_n 1, 1, []), (.iadd, 1, []), (.iastore, 1, [])],
  [(.iinc 2 1, 3, []), (.nop, 0, []), (.nop, 0, []), (.goto (-84), 3, [15]), (.nop, 0, []), (.nop, 0, []), (.return_, 1, [])]]
def g_t110 : q_T := [
  [(.aload_n 0, 1, []), (.iload_n 1, 1, []), (.invokevirtual 110, 3, [109, 2, 4, 9]), (.nop, 0, []), (.nop, 0, []), (.iconst 0, 1, []), (.istore_n 2, 1, []), (.iload_n 2, 1, []), (.aload_n 0, 1, []), (.getfield 53, 3, [9, 2, 0]), (.nop, 0, []), (.nop, 0, []), (.if_icmp .ge 32, 3, [44]), (.nop, 0, []), (.nop, 0, []), (.aload_n 0, 1, [])],
  [(.aload_n 0, 1, []), (.getfield 9, 3, [9, 1, 3]), (.nop, 0, []), (.nop, 0, []), (.iload_n 2, 1, []), (.iaload, 1, []), (.aload_n 0, 1, []), (.nop, 0, []), (.nop, 0, []), (.nop, 0, []), (.aload_n 0, 1, []), (.getfield 53, 3, [9, 2, 0]), (.nop, 0, []), (.nop, 0, []), (.iconst 1, 1, []), (.isub, 1, [])],
  [(.iload_n 2, 1, []), (.isub, 1, []), (.nop, 0, []), (.nop, 0, []), (.nop, 0, []), (.pop, 1, []), (.iinc 2 1, 3, []), (.nop, 0, []), (.nop, 0, []), (.goto (-34), 3, [7]), (.nop, 0, []), (.nop, 0, []), (.return_, 1, [])]]
def g_t111 : q_T := [
  [(.aload_n 0, 1, []), (.invokespecial 1, 3, []), (.nop, 0, []), (.nop, 0, []), (.aload_n 0, 1, []), (.sipush 1600, 3, []), (.nop, 0, []), (.nop, 0, []), (.newarray .int, 2, [100]), (.nop, 0, []), (.putfield 7, 3, [11, 0, 3]), (.nop, 0, []), (.nop, 0, []), (.aload_n 0, 1, []), (.iconst (-1), 1, []), (.putfield 13, 3, [11, 3, 0])],
  [(.nop, 0, []), (.nop, 0, []), (.aload_n 0, 1, []), (.bipush 12, 2, []), (.nop, 0, []), (.newarray .long, 2, [103]), (.nop, 0, []), (.putfield 17, 3, [11, 10, 3]), (.nop, 0, []), (.nop, 0, []), (.aload_n 0, 1, []), (.sipush 320, 3, []), (.nop, 0, []), (.nop, 0, []), (.newarray .int, 2, [100]), (.nop, 0, [])],
  [(.putfield 21, 3, [11, 11, 3]), (.nop, 0, []), (.nop, 0, []), (.aload_n 0, 1, []), (.sipush 320, 3, []), (.nop, 0, []), (.nop, 0, []), (.newarray .int, 2, [100]), (.nop, 0, []), (.putfield 24, 3, [11, 12, 3]), (.nop, 0, []), (.nop, 0, []), (.aload_n 0, 1, []), (.sipush 320, 3, []), (.nop, 0, []), (.nop, 0, [])],
  [(.newarray .int, 2, [100]), (.nop, 0, []), (.putfield 27, 3, [11, 13, 3]), (.nop, 0, []), (.nop, 0, []), (.aload_n 0, 1, []), (.sipush 320, 3, []), (.nop, 0, []), (.nop, 0, []), (.newarray .int, 2, [100]), (.nop, 0, []), (.putfield 30, 3, [11, 14, 3]), (.nop, 0, []), (.nop, 0, []), (.aload_n 0, 1, []), (.sipush 160, 3, [])],
  [(.nop, 0, []), (.nop, 0, []), (.newarray .int, 2, [100]), (.nop, 0, []), (.putfield 33, 3, [11, 15, 3]), (.nop, 0, []), (.nop, 0, []), (.aload_n 0, 1, []), (.bipush 64, 2, []), (.nop, 0, []), (.newarray .int, 2, [100]), (.nop, 0, []), (.putfield 36, 3, [11, 16, 3]), (.nop, 0, []), (.nop, 0, []), (.aload_n 0, 1, [])],
  [(.bipush 6, 2, []), (.nop, 0, []), (.newarray .int, 2, [100]), (.nop, 0, []), (.putfield 39, 3, [11, 26, 3]), (.nop, 0, []), (.nop, 0, []), (.aload_n 0, 1, []), (.iconst (-1), 1, []), (.putfield 42, 3, [11, 29, 0]), (.nop, 0, []), (.nop, 0, []), (.aload_n 0, 1, []), (.iconst 5, 1, []), (.newarray .int, 2, [100]), (.nop, 0, [])],
  [(.putfield 45, 3, [11, 31, 3]), (.nop, 0, []), (.nop, 0, []), (.aload_n 0, 1, []), (.iconst 5, 1, []), (.newarray .int, 2, [100]), (.nop, 0, []), (.putfield 48, 3, [11, 32, 3]), (.nop, 0, []), (.nop, 0, []), (.aload_n 0, 1, []), (.bipush 7, 2, []), (.nop, 0, []), (.newarray .int, 2, [100]), (.nop, 0, []), (.putfield 51, 3, [11, 33, 3])],
  [(.nop, 0, []), (.nop, 0, []), (.aload_n 0, 1, []), (.bipush 7, 2, []), (.nop, 0, []), (.newarray .int, 2, [100]), (.nop, 0, []), (.putfield 54, 3, [11, 34, 3]), (.nop, 0, []), (.nop, 0, []), (.aload_n 0, 1, []), (.bipush 7, 2, []), (.nop, 0, []), (.newarray .int, 2, [100]), (.nop, 0, []), (.putfield 57, 3, [11, 35, 3])],
  [(.nop, 0, []), (.nop, 0, []), (.aload_n 0, 1, []), (.iconst 5, 1, []), (.newarray .int, 2, [100]), (.nop, 0, []), (.putfield 60, 3, [11, 36, 3]), (.nop, 0, []), (.nop, 0, []), (.aload_n 0, 1, []), (.iconst 5, 1, []), (.newarray .int, 2, [100]), (.nop, 0, []), (.putfield 63, 3, [11, 37, 3]), (.nop, 0, []), (.nop, 0, [])],
  [(.aload_n 0, 1, []), (.bipush 8, 2, []), (.nop, 0, []), (.newarray .int, 2, [100]), (.nop, 0, []), (.putfield 66, 3, [11, 38, 3]), (.nop, 0, []), (.nop, 0, []), (.aload_n 0, 1, []), (.bipush 8, 2, []), (.nop, 0, []), (.newarray .int, 2, [100]), (.nop, 0, []), (.putfield 69, 3, [11, 39, 3]), (.nop, 0, []), (.nop, 0, [])],
  [(.aload_n 0, 1, []), (.bipush 8, 2, []), (.nop, 0, []), (.newarray .int, 2, [100]), (.nop, 0, []), (.putfield 72, 3, [11, 40, 3]), (.nop, 0, []), (.nop, 0, []), (.aload_n 0, 1, []), (.bipush 11, 2, []), (.nop, 0, []), (.putfield 75, 3, [11, 49, 0]), (.nop, 0, []), (.nop, 0, []), (.aload_n 0, 1, []), (.iconst 1, 1, [])],
  [(.putfield 78, 3, [11, 50, 0]), (.nop, 0, []), (.nop, 0, []), (.aload_n 0, 1, []), (.bipush 28, 2, []), (.nop, 0, []), (.newarray .int, 2, [100]), (.nop, 0, []), (.putfield 81, 3, [11, 57, 3]), (.nop, 0, []), (.nop, 0, []), (.aload_n 0, 1, []), (.bipush 28, 2, []), (.nop, 0, []), (.newarray .int, 2, [100]), (.nop, 0, [])],
  [(.putfield 84, 3, [11, 58, 3]), (.nop, 0, []), (.nop, 0, []), (.aload_n 0, 1, []), (.iconst 3, 1, []), (.newarray .int, 2, [100]), (.nop, 0, []), (.putfield 87, 3, [11, 60, 3]), (.nop, 0, []), (.nop, 0, []), (.aload_n 0, 1, []), (.iconst 3, 1, []), (.newarray .boolean, 2, [102]), (.nop, 0, []), (.putfield 90, 3, [11, 61, 3]), (.nop, 0, [])],
  [(.nop, 0, []), (.aload_n 0, 1, []), (.bipush 8, 2, []), (.nop, 0, []), (.newarray .int, 2, [100]), (.nop, 0, []), (.putfield 94, 3, [11, 63, 3]), (.nop, 0, []), (.nop, 0, []), (.aload_n 0, 1, []), (.bipush 8, 2, []), (.nop, 0, []), (.newarray .int, 2, [100]), (.nop, 0, []), (.putfield 97, 3, [11, 64, 3]), (.nop, 0, [])],
  [(.nop, 0, []), (.aload_n 0, 1, []), (.sipush 1120, 3, []), (.nop, 0, []), (.nop, 0, []), (.newarray .int, 2, [100]), (.nop, 0, []), (.putfield 100, 3, [11, 65, 3]), (.nop, 0, []), (.nop, 0, []), (.aload_n 0, 1, []), (.bipush 7, 2, []), (.nop, 0, []), (.newarray .int, 2, [100]), (.nop, 0, []), (.putfield 103, 3, [11, 68, 3])],
  [(.nop, 0, []), (.nop, 0, []), (.aload_n 0, 1, []), (.bipush 7, 2, []), (.nop, 0, []), (.newarray .int, 2, [100]), (.nop, 0, []), (.putfield 106, 3, [11, 69, 3]), (.nop, 0, []), (.nop, 0, []), (.aload_n 0, 1, []), (.bipush 7, 2, []), (.nop, 0, []), (.newarray .int, 2, [100]), (.nop, 0, []), (.putfield 109, 3, [11, 71, 3])],
  [(.nop, 0, []), (.nop, 0, []), (.aload_n 0, 1, []), (.bipush 7, 2, []), (.nop, 0, []), (.newarray .int, 2, [100]), (.nop, 0, []), (.putfield 112, 3, [11, 72, 3]), (.nop, 0, []), (.nop, 0, []), (.aload_n 0, 1, []), (.bipush 30, 2, []), (.nop, 0, []), (.newarray .int, 2, [100]), (.nop, 0, []), (.putfield 115, 3, [11, 73, 3])],
  [(.nop, 0, []), (.nop, 0, []), (.aload_n 0, 1, []), (.bipush 30, 2, []), (.nop, 0, []), (.newarray .int, 2, [100]), (.nop, 0, []), (.putfield 118, 3, [11, 74, 3]), (.nop, 0, []), (.nop, 0, []), (.aload_n 0, 1, []), (.bipush 30, 2, []), (.nop, 0, []), (.newarray .int, 2, [100]), (.nop, 0, []), (.putfield 121, 3, [11, 75, 3])],
  [(.nop, 0, []), (.nop, 0, []), (.aload_n 0, 1, []), (.bipush 30, 2, []), (.nop, 0, []), (.newarray .int, 2, [100]), (.nop, 0, []), (.putfield 124, 3, [11, 76, 3]), (.nop, 0, []), (.nop, 0, []), (.aload_n 0, 1, []), (.bipush 30, 2, []), (.nop, 0, []), (.newarray .boolean, 2, [102]), (.nop, 0, []), (.putfield 127, 3, [11, 77, 3])],
  [(.nop, 0, []), (.nop, 0, []), (.aload_n 0, 1, []), (.sipush 1891, 3, []), (.nop, 0, []), (.nop, 0, []), (.newarray .int, 2, [100]), (.nop, 0, []), (.putfield 130, 3, [11, 80, 3]), (.nop, 0, []), (.nop, 0, []), (.aload_n 0, 1, []), (.bipush 8, 2, []), (.nop, 0, []), (.newarray .int, 2, [100]), (.nop, 0, [])],
  [(.putfield 133, 3, [11, 81, 3]), (.nop, 0, []), (.nop, 0, []), (.aload_n 0, 1, []), (.bipush 31, 2, []), (.nop, 0, []), (.newarray .boolean, 2, [102]), (.nop, 0, []), (.putfield 136, 3, [11, 82, 3]), (.nop, 0, []), (.nop, 0, []), (.aload_n 0, 1, []), (.iconst 3, 1, []), (.newarray .boolean, 2, [102]), (.nop, 0, []), (.putfield 139, 3, [11, 83, 3])],
  [(.nop, 0, []), (.nop, 0, []), (.aload_n 0, 1, []), (.bipush 84, 2, []), (.nop, 0, []), (.newarray .int, 2, [100]), (.nop, 0, []), (.putfield 142, 3, [11, 84, 3]), (.nop, 0, []), (.nop, 0, []), (.aload_n 0, 1, []), (.invokevirtual 145, 3, [156, 1, 2, 11]), (.nop, 0, []), (.nop, 0, []), (.aload_n 0, 1, []), (.invokevirtual 148, 3, [151, 1, 2, 11])],
  [(.nop, 0, []), (.nop, 0, []), (.return_, 1, [])]]
def g_t112 : q_T := [
  [(.iload_n 1, 1, []), (.tableswitch 179 0 16 #[83, 88, 93, 101, 106, 112, 118, 126, 134, 139, 144, 149, 154, 159, 164, 169, 174], 83, [180, 84, 89, 94, 102, 107, 113, 119, 127, 135, 140, 145, 150, 155, 160, 165, 170, 175]), (.nop, 0, []), (.nop, 0, []), (.nop, 0, []), (.nop, 0, []), (.nop, 0, []), (.nop, 0, []), (.nop, 0, []), (.nop, 0, []), (.nop, 0, []), (.nop, 0, []), (.nop, 0, []), (.nop, 0, []), (.nop, 0, []), (.nop, 0, [])],
  [(.nop, 0, []), (.nop, 0, []), (.nop, 0, []), (.nop, 0, []), (.nop, 0, []), (.nop, 0, []), (.nop, 0, []), (.nop, 0, []), (.nop, 0, []), (.nop, 0, []), (.nop, 0, []), (.nop, 0, []), (.nop, 0, []), (.nop, 0, []), (.nop, 0, []), (.nop, 0, [])],
  [(.nop, 0, []), (.nop, 0, []), (.nop, 0, []), (.nop, 0, []), (.nop, 0, []), (.nop, 0, []), (.nop, 0, []), (.nop, 0, []), (.nop, 0, []), (.nop, 0, []), (.nop, 0, []), (.nop, 0, []), (.nop, 0, []), (.nop, 0, []), (.nop, 0, []), (.nop, 0, [])],
  [(.nop, 0, []), (.nop, 0, []), (.nop, 0, []), (.nop, 0, []), (.nop, 0, []), (.nop, 0, []), (.nop, 0, []), (.nop, 0, []), (.nop, 0, []), (.nop, 0, []), (.nop, 0, []), (.nop, 0, []), (.nop, 0, []), (.nop, 0, []), (.nop, 0, []), (.nop, 0, [])],
  [(.nop, 0, []), (.nop, 0, []), (.nop, 0, []), (.nop, 0, []), (.nop, 0, []), (.nop, 0, []), (.nop, 0, []), (.nop, 0, []), (.nop, 0, []), (.nop, 0, []), (.nop, 0, []), (.nop, 0, []), (.nop, 0, []), (.nop, 0, []), (.nop, 0, []), (.nop, 0, [])],
  [(.nop, 0, []), (.nop, 0, []), (.nop, 0, []), (.nop, 0, []), (.aload_n 0, 1, []), (.getfield 407, 3, [11, 48, 0]), (.nop, 0, []), (.nop, 0, []), (.ireturn, 1, [0]), (.aload_n 0, 1, []), (.getfield 404, 3, [11, 47, 0]), (.nop, 0, []), (.nop, 0, []), (.ireturn, 1, [0]), (.aload_n 0, 1, []), (.getfield 81, 3, [11, 57, 3])],
  [(.nop, 0, []), (.nop, 0, []), (.bipush 8, 2, []), (.nop, 0, []), (.iaload, 1, []), (.ireturn, 1, [0]), (.aload_n 0, 1, []), (.getfield 78, 3, [11, 50, 0]), (.nop, 0, []), (.nop, 0, []), (.ireturn, 1, [0]), (.aload_n 0, 1, []), (.iconst 2, 1, []), (.invokevirtual 603, 3, [140, 2, 4, 11]), (.nop, 0, []), (.nop, 0, [])],
  [(.ireturn, 1, [0]), (.aload_n 0, 1, []), (.iconst 3, 1, []), (.invokevirtual 603, 3, [140, 2, 4, 11]), (.nop, 0, []), (.nop, 0, []), (.ireturn, 1, [0]), (.aload_n 0, 1, []), (.getfield 81, 3, [11, 57, 3]), (.nop, 0, []), (.nop, 0, []), (.bipush 26, 2, []), (.nop, 0, []), (.iaload, 1, []), (.ireturn, 1, [0]), (.aload_n 0, 1, [])],
  [(.getfield 81, 3, [11, 57, 3]), (.nop, 0, []), (.nop, 0, []), (.bipush 27, 2, []), (.nop, 0, []), (.iaload, 1, []), (.ireturn, 1, [0]), (.aload_n 0, 1, []), (.getfield 419, 3, [11, 66, 0]), (.nop, 0, []), (.nop, 0, []), (.ireturn, 1, [0]), (.aload_n 0, 1, []), (.getfield 422, 3, [11, 67, 0]), (.nop, 0, []), (.nop, 0, [])],
  [(.ireturn, 1, [0]), (.aload_n 0, 1, []), (.getfield 425, 3, [11, 78, 0]), (.nop, 0, []), (.nop, 0, []), (.ireturn, 1, [0]), (.aload_n 0, 1, []), (.getfield 587, 3, [11, 79, 0]), (.nop, 0, []), (.nop, 0, []), (.ireturn, 1, [0]), (.aload_n 0, 1, []), (.getfield 151, 3, [11, 1, 0]), (.nop, 0, []), (.nop, 0, []), (.ireturn, 1, [0])],
  [(.aload_n 0, 1, []), (.getfield 416, 3, [11, 21, 0]), (.nop, 0, []), (.nop, 0, []), (.ireturn, 1, [0]), (.aload_n 0, 1, []), (.getfield 428, 3, [11, 70, 0]), (.nop, 0, []), (.nop, 0, []), (.ireturn, 1, [0]), (.aload_n 0, 1, []), (.getfield 75, 3, [11, 49, 0]), (.nop, 0, []), (.nop, 0, []), (.ireturn, 1, [0]), (.aload_n 0, 1, [])],
  [(.getfield 410, 3, [11, 51, 0]), (.nop, 0, []), (.nop, 0, []), (.ireturn, 1, [0]), (.iconst (-1), 1, []), (.ireturn, 1, [0])]]
def g_t113 : q_T := [
  [(.aload_n 0, 1, []), (.aload_n 0, 1, []), (.getfield 75, 3, [11, 49, 0]), (.nop, 0, []), (.nop, 0, []), (.putfield 324, 3, [11, 27, 0]), (.nop, 0, []), (.nop, 0, []), (.aload_n 0, 1, []), (.aload_n 0, 1, []), (.getfield 78, 3, [11, 50, 0]), (.nop, 0, []), (.nop, 0, []), (.putfield 438, 3, [11, 28, 0]), (.nop, 0, []), (.nop, 0, [])],
  [(.aload_n 0, 1, []), (.iconst (-1), 1, []), (.putfield 42, 3, [11, 29, 0]), (.nop, 0, []), (.nop, 0, []), (.aload_n 0, 1, []), (.iconst 0, 1, []), (.putfield 441, 3, [11, 59, 0]), (.nop, 0, []), (.nop, 0, []), (.iconst 0, 1, []), (.istore_n 1, 1, []), (.iload_n 1, 1, []), (.iconst 3, 1, []), (.if_icmp .ge 23, 3, [53]), (.nop, 0, [])],
  [(.nop, 0, []), (.aload_n 0, 1, []), (.getfield 87, 3, [11, 60, 3]), (.nop, 0, []), (.nop, 0, []), (.iload_n 1, 1, []), (.iconst 0, 1, []), (.iastore, 1, []), (.aload_n 0, 1, []), (.getfield 90, 3, [11, 61, 3]), (.nop, 0, []), (.nop, 0, []), (.iload_n 1, 1, []), (.iconst 0, 1, []), (.bastore, 1, []), (.iinc 1 1, 3, [])],
  [(.nop, 0, []), (.nop, 0, []), (.goto (-22), 3, [28]), (.nop, 0, []), (.nop, 0, []), (.iconst 0, 1, []), (.istore_n 1, 1, []), (.iload_n 1, 1, []), (.bipush 7, 2, []), (.nop, 0, []), (.if_icmp .gt 23, 3, [81]), (.nop, 0, []), (.nop, 0, []), (.aload_n 0, 1, []), (.getfield 94, 3, [11, 63, 3]), (.nop, 0, [])],
  [(.nop, 0, []), (.iload_n 1, 1, []), (.iconst (-1), 1, []), (.iastore, 1, []), (.aload_n 0, 1, []), (.getfield 97, 3, [11, 64, 3]), (.nop, 0, []), (.nop, 0, []), (.iload_n 1, 1, []), (.iconst (-1), 1, []), (.iastore, 1, []), (.iinc 1 1, 3, []), (.nop, 0, []), (.nop, 0, []), (.goto (-23), 3, [55]), (.nop, 0, [])],
  [(.nop, 0, []), (.aload_n 0, 1, []), (.iconst 0, 1, []), (.putfield 444, 3, [11, 62, 0]), (.nop, 0, []), (.nop, 0, []), (.return_, 1, [])]]
def g_t114 : q_T := [
  [(.iload_n 1, 1, []), (.iconst 0, 1, []), (.iconst 1, 1, []), (.invokestatic 431, 3, [146, 3, 3]), (.nop, 0, []), (.nop, 0, []), (.ifCond .ne 5, 3, [11]), (.nop, 0, []), (.nop, 0, []), (.iconst (-1), 1, []), (.ireturn, 1, [0]), (.iconst (-1), 1, []), (.istore_n 2, 1, []), (.iconst (-1), 1, []), (.istore_n 3, 1, []), (.iconst 0, 1, [])],
  [(.istore 4, 2, []), (.nop, 0, []), (.iload 4, 2, []), (.nop, 0, []), (.aload_n 0, 1, []), (.getfield 407, 3, [11, 48, 0]), (.nop, 0, []), (.nop, 0, []), (.if_icmp .ge 60, 3, [84]), (.nop, 0, []), (.nop, 0, []), (.aload_n 0, 1, []), (.iload 4, 2, []), (.nop, 0, []), (.invokevirtual 502, 3, [148, 2, 2, 11]), (.nop, 0, [])],
  [(.nop, 0, []), (.ifCond .ne 6, 3, [39]), (.nop, 0, []), (.nop, 0, []), (.goto 42, 3, [78]), (.nop, 0, []), (.nop, 0, []), (.aload_n 0, 1, []), (.invokevirtual 493, 3, [131, 1, 2, 11]), (.nop, 0, []), (.nop, 0, []), (.aload_n 0, 1, []), (.aload_n 0, 1, []), (.aload_n 0, 1, []), (.iload 4, 2, []), (.nop, 0, [])],
  [(.nop, 0, []), (.nop, 0, []), (.nop, 0, []), (.nop, 0, []), (.nop, 0, []), (.nop, 0, []), (.nop, 0, []), (.nop, 0, []), (.nop, 0, []), (.aload_n 0, 1, []), (.invokevirtual 533, 3, [122, 1, 1, 11]), (.nop, 0, []), (.nop, 0, []), (.istore 5, 2, []), (.nop, 0, []), (.iload 5, 2, [])],
  [(.nop, 0, []), (.iload_n 3, 1, []), (.if_icmp .gt 6, 3, [72]), (.nop, 0, []), (.nop, 0, []), (.goto 9, 3, [78]), (.nop, 0, []), (.nop, 0, []), (.iload 4, 2, []), (.nop, 0, []), (.istore_n 2, 1, []), (.iload 5, 2, []), (.nop, 0, []), (.istore_n 3, 1, []), (.iinc 4 1, 3, []), (.nop, 0, [])],
  [(.nop, 0, []), (.goto (-63), 3, [18]), (.nop, 0, []), (.nop, 0, []), (.iload_n 1, 1, []), (.ifCond .ne 7, 3, [92]), (.nop, 0, []), (.nop, 0, []), (.iload_n 2, 1, []), (.goto 4, 3, [93]), (.nop, 0, []), (.nop, 0, []), (.iload_n 3, 1, []), (.ireturn, 1, [0])]]
def g_t115 : q_T := [
  [(.iload_n 1, 1, []), (.iconst 0, 1, []), (.iconst 1, 1, []), (.invokestatic 431, 3, [146, 3, 3]), (.nop, 0, []), (.nop, 0, []), (.ifCond .eq 11, 3, [17]), (.nop, 0, []), (.nop, 0, []), (.aload_n 0, 1, []), (.iload_n 2, 1, []), (.invokevirtual 594, 3, [155, 2, 6, 11]), (.nop, 0, []), (.nop, 0, []), (.ifCond .ne 5, 3, [19]), (.nop, 0, [])],
  [(.nop, 0, []), (.iconst (-1), 1, []), (.ireturn, 1, [0]), (.iconst 0, 1, []), (.istore_n 3, 1, []), (.iconst 1, 1, []), (.istore 4, 2, []), (.nop, 0, []), (.iload 4, 2, []), (.nop, 0, []), (.bipush 60, 2, []), (.nop, 0, []), (.if_icmp .gt 30, 3, [58]), (.nop, 0, []), (.nop, 0, []), (.aload_n 0, 1, [])],
  [(.iload 4, 2, []), (.nop, 0, []), (.nop, 0, []), (.nop, 0, []), (.nop, 0, []), (.aload_n 0, 1, []), (.iload_n 3, 1, []), (.nop, 0, []), (.nop, 0, []), (.nop, 0, []), (.if_icmp .ge 8, 3, [50]), (.nop, 0, []), (.nop, 0, []), (.iload 4, 2, []), (.nop, 0, []), (.goto 4, 3, [51])],
  [(.nop, 0, []), (.nop, 0, []), (.iload_n 3, 1, []), (.istore_n 3, 1, []), (.iinc 4 1, 3, []), (.nop, 0, []), (.nop, 0, []), (.goto (-31), 3, [24]), (.nop, 0, []), (.nop, 0, []), (.iload_n 1, 1, []), (.ifCond .ne 7, 3, [66]), (.nop, 0, []), (.nop, 0, []), (.iload_n 3, 1, []), (.goto 8, 3, [71])],
  [(.nop, 0, []), (.nop, 0, []), (.aload_n 0, 1, []), (.iload_n 3, 1, []), (.nop, 0, []), (.nop, 0, []), (.nop, 0, []), (.ireturn, 1, [0])]]
def g_t116 : q_T := [
  [(.aload_n 0, 1, []), (.invokevirtual 493, 3, [131, 1, 2, 11]), (.nop, 0, []), (.nop, 0, []), (.aload_n 0, 1, []), (.iload_n 1, 1, []), (.invokevirtual 490, 3, [149, 2, 2, 11]), (.nop, 0, []), (.nop, 0, []), (.ifCond .eq 25, 3, [34]), (.nop, 0, []), (.nop, 0, []), (.aload_n 0, 1, []), (.getfield 81, 3, [11, 57, 3]), (.nop, 0, []), (.nop, 0, [])],
  [(.bipush 24, 2, []), (.nop, 0, []), (.iaload, 1, []), (.iload_n 1, 1, []), (.nop, 0, []), (.nop, 0, []), (.nop, 0, []), (.ifCond .ne 11, 3, [34]), (.nop, 0, []), (.nop, 0, []), (.aload_n 0, 1, []), (.iload_n 1, 1, []), (.nop, 0, []), (.nop, 0, []), (.nop, 0, []), (.ifCond .eq 5, 3, [36])],
  [(.nop, 0, []), (.nop, 0, []), (.iconst (-1), 1, []), (.ireturn, 1, [0]), (.aload_n 0, 1, []), (.nop, 0, []), (.nop, 0, []), (.nop, 0, []), (.aload_n 0, 1, []), (.getfield 81, 3, [11, 57, 3]), (.nop, 0, []), (.nop, 0, []), (.bipush 24, 2, []), (.nop, 0, []), (.dup2, 1, []), (.iaload, 1, [])],
  [(.iconst 1, 1, []), (.iload_n 1, 1, []), (.ishl, 1, []), (.ior, 1, []), (.iastore, 1, []), (.aload_n 0, 1, []), (.invokevirtual 493, 3, [131, 1, 2, 11]), (.nop, 0, []), (.nop, 0, []), (.aload_n 0, 1, []), (.iload_n 1, 1, []), (.nop, 0, []), (.nop, 0, []), (.nop, 0, []), (.ireturn, 1, [0])]]
def g_t117 : q_T := [
  [(.iload_n 1, 1, []), (.invokestatic 600, 3, [143, 1, 1]), (.nop, 0, []), (.nop, 0, []), (.ifCond .eq 12, 3, [16]), (.nop, 0, []), (.nop, 0, []), (.aload_n 0, 1, []), (.getfield 139, 3, [11, 83, 3]), (.nop, 0, []), (.nop, 0, []), (.iload_n 1, 1, []), (.baload, 1, []), (.ifCond .ne 5, 3, [18]), (.nop, 0, []), (.nop, 0, [])],
  [(.iconst (-1), 1, []), (.ireturn, 1, [0]), (.iconst 0, 1, []), (.istore_n 2, 1, []), (.iload_n 2, 1, []), (.bipush 28, 2, []), (.nop, 0, []), (.if_icmp .ge 26, 3, [49]), (.nop, 0, []), (.nop, 0, []), (.aload_n 0, 1, []), (.getfield 81, 3, [11, 57, 3]), (.nop, 0, []), (.nop, 0, []), (.iload_n 2, 1, []), (.aload_n 0, 1, [])],
  [(.getfield 142, 3, [11, 84, 3]), (.nop, 0, []), (.nop, 0, []), (.bipush 28, 2, []), (.nop, 0, []), (.iload_n 1, 1, []), (.imul, 1, []), (.iload_n 2, 1, []), (.iadd, 1, []), (.iaload, 1, []), (.iastore, 1, []), (.iinc 2 1, 3, []), (.nop, 0, []), (.nop, 0, []), (.goto (-26), 3, [20]), (.nop, 0, [])],
  [(.nop, 0, []), (.aload_n 0, 1, []), (.iconst 0, 1, []), (.putfield 419, 3, [11, 66, 0]), (.nop, 0, []), (.nop, 0, []), (.aload_n 0, 1, []), (.iconst 0, 1, []), (.putfield 422, 3, [11, 67, 0]), (.nop, 0, []), (.nop, 0, []), (.aload_n 0, 1, []), (.getfield 81, 3, [11, 57, 3]), (.nop, 0, []), (.nop, 0, []), (.bipush 26, 2, [])],
  [(.nop, 0, []), (.iaload, 1, []), (.ireturn, 1, [0])]]
def g_t118 : q_T := [
  [(.iconst 0, 1, []), (.istore_n 2, 1, []), (.iconst 0, 1, []), (.istore_n 3, 1, []), (.iload_n 3, 1, []), (.aload_n 0, 1, []), (.getfield 407, 3, [11, 48, 0]), (.nop, 0, []), (.nop, 0, []), (.if_icmp .ge 30, 3, [39]), (.nop, 0, []), (.nop, 0, []), (.aload_n 0, 1, []), (.iload_n 3, 1, []), (.invokevirtual 502, 3, [148, 2, 2, 11]), (.nop, 0, [])],
  [(.nop, 0, []), (.ifCond .ne 6, 3, [23]), (.nop, 0, []), (.nop, 0, []), (.goto 13, 3, [33]), (.nop, 0, []), (.nop, 0, []), (.aload_n 0, 1, []), (.getfield 106, 3, [11, 69, 3]), (.nop, 0, []), (.nop, 0, []), (.iload_n 2, 1, []), (.iload_n 3, 1, []), (.iastore, 1, []), (.iinc 2 1, 3, []), (.nop, 0, [])],
  [(.nop, 0, []), (.iinc 3 1, 3, []), (.nop, 0, []), (.nop, 0, []), (.goto (-32), 3, [4]), (.nop, 0, []), (.nop, 0, []), (.iconst (-1), 1, []), (.istore_n 3, 1, []), (.iconst 1, 1, []), (.istore 4, 2, []), (.nop, 0, []), (.iload 4, 2, []), (.nop, 0, []), (.ifCond .eq 101, 3, [147]), (.nop, 0, [])],
  [(.nop, 0, []), (.aload_n 0, 1, []), (.invokevirtual 493, 3, [131, 1, 2, 11]), (.nop, 0, []), (.nop, 0, []), (.iconst 0, 1, []), (.istore 5, 2, []), (.nop, 0, []), (.iload 5, 2, []), (.nop, 0, []), (.iload_n 2, 1, []), (.if_icmp .ge 23, 3, [82]), (.nop, 0, []), (.nop, 0, []), (.aload_n 0, 1, []), (.getfield 84, 3, [11, 58, 3])],
  [(.nop, 0, []), (.nop, 0, []), (.iload 5, 2, []), (.nop, 0, []), (.aload_n 0, 1, []), (.getfield 106, 3, [11, 69, 3]), (.nop, 0, []), (.nop, 0, []), (.iload 5, 2, []), (.nop, 0, []), (.iaload, 1, []), (.iastore, 1, []), (.iinc 5 1, 3, []), (.nop, 0, []), (.nop, 0, []), (.goto (-23), 3, [56])],
  [(.nop, 0, []), (.nop, 0, []), (.iload_n 1, 1, []), (.ifCond .ne 10, 3, [93]), (.nop, 0, []), (.nop, 0, []), (.aload_n 0, 1, []), (.invokevirtual 533, 3, [122, 1, 1, 11]), (.nop, 0, []), (.nop, 0, []), (.goto 7, 3, [97]), (.nop, 0, []), (.nop, 0, []), (.aload_n 0, 1, []), (.invokevirtual 536, 3, [164, 1, 3, 11]), (.nop, 0, [])],
  [(.nop, 0, []), (.istore 5, 2, []), (.nop, 0, []), (.iload 5, 2, []), (.nop, 0, []), (.iload_n 3, 1, []), (.if_icmp .le 35, 3, [137]), (.nop, 0, []), (.nop, 0, []), (.iload 5, 2, []), (.nop, 0, []), (.istore_n 3, 1, []), (.iconst 0, 1, []), (.istore 6, 2, []), (.nop, 0, []), (.iload 6, 2, [])],
  [(.nop, 0, []), (.iload_n 2, 1, []), (.if_icmp .ge 23, 3, [137]), (.nop, 0, []), (.nop, 0, []), (.aload_n 0, 1, []), (.getfield 103, 3, [11, 68, 3]), (.nop, 0, []), (.nop, 0, []), (.iload 6, 2, []), (.nop, 0, []), (.aload_n 0, 1, []), (.getfield 106, 3, [11, 69, 3]), (.nop, 0, []), (.nop, 0, []), (.iload 6, 2, [])],
  [(.nop, 0, []), (.iaload, 1, []), (.iastore, 1, []), (.iinc 6 1, 3, []), (.nop, 0, []), (.nop, 0, []), (.goto (-23), 3, [111]), (.nop, 0, []), (.nop, 0, []), (.aload_n 0, 1, []), (.iload_n 2, 1, []), (.invokevirtual 542, 3, [168, 2, 6, 11]), (.nop, 0, []), (.nop, 0, []), (.istore 4, 2, []), (.nop, 0, [])],
  [(.goto (-100), 3, [44]), (.nop, 0, []), (.nop, 0, []), (.aload_n 0, 1, []), (.iload_n 2, 1, []), (.putfield 428, 3, [11, 70, 0]), (.nop, 0, []), (.nop, 0, []), (.iload_n 3, 1, []), (.ireturn, 1, [0])]]
def g_t119 : q_T := [
  [(.aload_n 0, 1, []), (.iload_n 1, 1, []), (.invokevirtual 502, 3, [148, 2, 2, 11]), (.nop, 0, []), (.nop, 0, []), (.ifCond .eq 12, 3, [17]), (.nop, 0, []), (.nop, 0, []), (.iload_n 2, 1, []), (.iconst 0, 1, []), (.iconst 1, 1, []), (.invokestatic 431, 3, [146, 3, 3]), (.nop, 0, []), (.nop, 0, []), (.ifCond .ne 7, 3, [21]), (.nop, 0, [])],
  [(.nop, 0, []), (.sipush (-1000), 3, []), (.nop, 0, []), (.nop, 0, []), (.ireturn, 1, [0]), (.aload_n 0, 1, []), (.invokevirtual 548, 3, [176, 1, 3, 11]), (.nop, 0, []), (.nop, 0, []), (.istore_n 3, 1, []), (.iconst 0, 1, []), (.istore 4, 2, []), (.nop, 0, []), (.iconst 0, 1, []), (.istore 5, 2, []), (.nop, 0, [])],
  [(.iload 5, 2, []), (.nop, 0, []), (.iload_n 3, 1, []), (.if_icmp .gt 81, 3, [116]), (.nop, 0, []), (.nop, 0, []), (.iload 5, 2, []), (.nop, 0, []), (.iload_n 3, 1, []), (.iconst (-1), 1, []), (.ixor, 1, []), (.iand, 1, []), (.ifCond .ne 66, 3, [110]), (.nop, 0, []), (.nop, 0, []), (.iload 5, 2, [])],
  [(.nop, 0, []), (.iload_n 1, 1, []), (.nop, 0, []), (.nop, 0, []), (.nop, 0, []), (.ifCond .eq 6, 3, [59]), (.nop, 0, []), (.nop, 0, []), (.goto 54, 3, [110]), (.nop, 0, []), (.nop, 0, []), (.iload 5, 2, []), (.nop, 0, []), (.invokestatic 487, 3, [165, 1, 3]), (.nop, 0, []), (.nop, 0, [])],
  [(.nop, 0, []), (.nop, 0, []), (.nop, 0, []), (.iload_n 3, 1, []), (.invokestatic 487, 3, [165, 1, 3]), (.nop, 0, []), (.nop, 0, []), (.iconst 1, 1, []), (.isub, 1, []), (.iload 5, 2, []), (.nop, 0, []), (.invokestatic 487, 3, [165, 1, 3]), (.nop, 0, []), (.nop, 0, []), (.isub, 1, []), (.nop, 0, [])],
  [(.nop, 0, []), (.nop, 0, []), (.imul, 1, []), (.istore 6, 2, []), (.nop, 0, []), (.iload 4, 2, []), (.nop, 0, []), (.iload 6, 2, []), (.nop, 0, []), (.aload_n 0, 1, []), (.iload 5, 2, []), (.nop, 0, []), (.iconst 1, 1, []), (.iload_n 1, 1, []), (.ishl, 1, []), (.ior, 1, [])],
  [(.nop, 0, []), (.nop, 0, []), (.nop, 0, []), (.aload_n 0, 1, []), (.iload 5, 2, []), (.nop, 0, []), (.nop, 0, []), (.nop, 0, []), (.nop, 0, []), (.isub, 1, []), (.imul, 1, []), (.iadd, 1, []), (.istore 4, 2, []), (.nop, 0, []), (.iinc 5 1, 3, []), (.nop, 0, [])],
  [(.nop, 0, []), (.goto (-81), 3, [32]), (.nop, 0, []), (.nop, 0, []), (.iload_n 3, 1, []), (.invokestatic 487, 3, [165, 1, 3]), (.nop, 0, []), (.nop, 0, []), (.nop, 0, []), (.nop, 0, []), (.nop, 0, []), (.istore 5, 2, []), (.nop, 0, []), (.iload 5, 2, []), (.nop, 0, []), (.iload 4, 2, [])],
  [(.nop, 0, []), (.invokestatic 578, 3, [125, 2, 5]), (.nop, 0, []), (.nop, 0, []), (.istore 6, 2, []), (.nop, 0, []), (.iload_n 2, 1, []), (.ifCond .ne 11, 3, [146]), (.nop, 0, []), (.nop, 0, []), (.iload 4, 2, []), (.nop, 0, []), (.iload 6, 2, []), (.nop, 0, []), (.idiv, 1, []), (.goto 8, 3, [151])],
  [(.nop, 0, []), (.nop, 0, []), (.iload 5, 2, []), (.nop, 0, []), (.iload 6, 2, []), (.nop, 0, []), (.idiv, 1, []), (.ireturn, 1, [0])]]
def g_t120 : q_T := [
  [(.aload_n 0, 1, []), (.iload_n 1, 1, []), (.invokevirtual 502, 3, [148, 2, 2, 11]), (.nop, 0, []), (.nop, 0, []), (.ifCond .eq 16, 3, [21]), (.nop, 0, []), (.nop, 0, []), (.aload_n 0, 1, []), (.iload_n 2, 1, []), (.invokevirtual 502, 3, [148, 2, 2, 11]), (.nop, 0, []), (.nop, 0, []), (.ifCond .eq 8, 3, [21]), (.nop, 0, []), (.nop, 0, [])],
  [(.iload_n 1, 1, []), (.iload_n 2, 1, []), (.if_icmp .ne 5, 3, [23]), (.nop, 0, []), (.nop, 0, []), (.iconst (-1), 1, []), (.ireturn, 1, [0]), (.aload_n 0, 1, []), (.nop, 0, []), (.nop, 0, []), (.nop, 0, []), (.aload_n 0, 1, []), (.iload_n 1, 1, []), (.iload_n 2, 1, []), (.nop, 0, []), (.nop, 0, [])],
  [(.nop, 0, []), (.aload_n 0, 1, []), (.invokevirtual 148, 3, [151, 1, 2, 11]), (.nop, 0, []), (.nop, 0, []), (.aload_n 0, 1, []), (.invokevirtual 514, 3, [121, 1, 1, 11]), (.nop, 0, []), (.nop, 0, []), (.ireturn, 1, [0])]]
def g_t121 : q_T := [
  [(.aload_n 0, 1, []), (.invokevirtual 493, 3, [131, 1, 2, 11]), (.nop, 0, []), (.nop, 0, []), (.aload_n 0, 1, []), (.invokevirtual 533, 3, [122, 1, 1, 11]), (.nop, 0, []), (.nop, 0, []), (.ireturn, 1, [0])]]
def g_t122 : q_T := [
  [(.aload_n 0, 1, []), (.invokevirtual 481, 3, [136, 1, 1, 11]), (.nop, 0, []), (.nop, 0, []), (.aload_n 0, 1, []), (.invokevirtual 484, 3, [183, 1, 3, 11]), (.nop, 0, []), (.nop, 0, []), (.invokestatic 487, 3, [165, 1, 3]), (.nop, 0, []), (.nop, 0, []), (.ireturn, 1, [0])]]
def g_t123 : q_T := [
  [(.aload_n 0, 1, []), (.iconst 1, 1, []), (.invokevirtual 545, 3, [118, 2, 7, 11]), (.nop, 0, []), (.nop, 0, []), (.ireturn, 1, [0])]]
def g_t124 : q_T := [
  [(.aload_n 0, 1, []), (.iload_n 1, 1, []), (.invokevirtual 496, 3, [147, 2, 2, 11]), (.nop, 0, []), (.nop, 0, []), (.ifCond .eq 16, 3, [21]), (.nop, 0, []), (.nop, 0, []), (.aload_n 0, 1, []), (.iload_n 2, 1, []), (.invokevirtual 502, 3, [148, 2, 2, 11]), (.nop, 0, []), (.nop, 0, []), (.ifCond .eq 8, 3, [21]), (.nop, 0, []), (.nop, 0, [])],
  [(.iload_n 1, 1, []), (.iload_n 2, 1, []), (.if_icmp .ne 5, 3, [23]), (.nop, 0, []), (.nop, 0, []), (.iconst (-1), 1, []), (.ireturn, 1, [0]), (.aload_n 0, 1, []), (.iload_n 1, 1, []), (.nop, 0, []), (.nop, 0, []), (.nop, 0, []), (.istore_n 3, 1, []), (.aload_n 0, 1, []), (.iload_n 1, 1, []), (.iload_n 2, 1, [])],
  [(.nop, 0, []), (.nop, 0, []), (.nop, 0, []), (.istore 4, 2, []), (.nop, 0, []), (.iload 4, 2, []), (.nop, 0, []), (.ldc_w 526, 3, [1000000]), (.nop, 0, []), (.nop, 0, []), (.if_icmp .ne 7, 3, [49]), (.nop, 0, []), (.nop, 0, []), (.iconst 0, 1, []), (.goto 19, 3, [65]), (.nop, 0, [])],
  [(.nop, 0, []), (.iload_n 3, 1, []), (.ldc_w 526, 3, [1000000]), (.nop, 0, []), (.nop, 0, []), (.if_icmp .ne 8, 3, [61]), (.nop, 0, []), (.nop, 0, []), (.bipush 60, 2, []), (.nop, 0, []), (.goto 7, 3, [65]), (.nop, 0, []), (.nop, 0, []), (.iload_n 3, 1, []), (.iload 4, 2, []), (.nop, 0, [])],
  [(.isub, 1, []), (.ireturn, 1, [0])]]
def g_t125 : q_T := [
  [(.iload_n 0, 1, []), (.ifCond .ge 8, 3, [9]), (.nop, 0, []), (.nop, 0, []), (.iload_n 0, 1, []), (.ineg, 1, []), (.goto 4, 3, [10]), (.nop, 0, []), (.nop, 0, []), (.iload_n 0, 1, []), (.istore_n 2, 1, []), (.iload_n 1, 1, []), (.ifCond .ge 8, 3, [20]), (.nop, 0, []), (.nop, 0, []), (.iload_n 1, 1, [])],
  [(.ineg, 1, []), (.goto 4, 3, [21]), (.nop, 0, []), (.nop, 0, []), (.iload_n 1, 1, []), (.istore_n 3, 1, []), (.iload_n 3, 1, []), (.ifCond .le 16, 3, [39]), (.nop, 0, []), (.nop, 0, []), (.iload_n 2, 1, []), (.iload_n 3, 1, []), (.irem, 1, []), (.istore 4, 2, []), (.nop, 0, []), (.iload_n 3, 1, [])],
  [(.istore_n 2, 1, []), (.iload 4, 2, []), (.nop, 0, []), (.istore_n 3, 1, []), (.goto (-14), 3, [22]), (.nop, 0, []), (.nop, 0, []), (.iload_n 2, 1, []), (.ireturn, 1, [0])]]
def g_t126 : q_T := [
  [(.aload_n 0, 1, []), (.invokevirtual 481, 3, [136, 1, 1, 11]), (.nop, 0, []), (.nop, 0, []), (.iload_n 1, 1, []), (.aload_n 0, 1, []), (.invokevirtual 484, 3, [183, 1, 3, 11]), (.nop, 0, []), (.nop, 0, []), (.iconst (-1), 1, []), (.ixor, 1, []), (.iand, 1, []), (.ifCond .ne 7, 3, [19]), (.nop, 0, []), (.nop, 0, []), (.iconst 1, 1, [])],
  [(.goto 4, 3, [20]), (.nop, 0, []), (.nop, 0, []), (.iconst 0, 1, []), (.ireturn, 1, [1])]]
def g_t127 : q_T := [
  [(.aload_n 0, 1, []), (.invokevirtual 493, 3, [131, 1, 2, 11]), (.nop, 0, []), (.nop, 0, []), (.aload_n 0, 1, []), (.invokevirtual 481, 3, [136, 1, 1, 11]), (.nop, 0, []), (.nop, 0, []), (.aload_n 0, 1, []), (.getfield 444, 3, [11, 62, 0]), (.nop, 0, []), (.nop, 0, []), (.ireturn, 1, [0])]]
def g_t128 : q_T := [
  [(.iload_n 1, 1, []), (.ifCond .lt 11, 3, [12]), (.nop, 0, []), (.nop, 0, []), (.iload_n 1, 1, []), (.aload_n 0, 1, []), (.getfield 151, 3, [11, 1, 0]), (.nop, 0, []), (.nop, 0, []), (.if_icmp .le 5, 3, [14]), (.nop, 0, []), (.nop, 0, []), (.iconst (-1), 1, []), (.ireturn, 1, [0]), (.aload_n 0, 1, []), (.iload_n 1, 1, [])],
  [(.putfield 151, 3, [11, 1, 0]), (.nop, 0, []), (.nop, 0, []), (.iload_n 1, 1, []), (.ireturn, 1, [0])]]
def g_t129 : q_T := [
  [(.iload_n 1, 1, []), (.ifCond .ne 10, 3, [11]), (.nop, 0, []), (.nop, 0, []), (.aload_n 0, 1, []), (.getfield 191, 3, [11, 2, 0]), (.nop, 0, []), (.nop, 0, []), (.goto 16, 3, [24]), (.nop, 0, []), (.nop, 0, []), (.iload_n 1, 1, []), (.iconst 1, 1, []), (.if_icmp .ne 10, 3, [23]), (.nop, 0, []), (.nop, 0, [])],
  [(.aload_n 0, 1, []), (.getfield 13, 3, [11, 3, 0]), (.nop, 0, []), (.nop, 0, []), (.goto 4, 3, [24]), (.nop, 0, []), (.nop, 0, []), (.iconst (-1), 1, []), (.ireturn, 1, [0])]]
def g_t130 : q_T := [
  [(.aload_n 0, 1, []), (.getfield 151, 3, [11, 1, 0]), (.nop, 0, []), (.nop, 0, []), (.bipush 20, 2, []), (.nop, 0, []), (.iadd, 1, []), (.sipush 1600, 3, []), (.nop, 0, []), (.nop, 0, []), (.if_icmp .le 5, 3, [15]), (.nop, 0, []), (.nop, 0, []), (.iconst (-1), 1, []), (.ireturn, 1, [0]), (.aload_n 0, 1, [])],
  [(.iload_n 1, 1, []), (.invokevirtual 154, 3, [134, 2, 3, 11]), (.nop, 0, []), (.nop, 0, []), (.aload_n 0, 1, []), (.iload_n 2, 1, []), (.invokevirtual 154, 3, [134, 2, 3, 11]), (.nop, 0, []), (.nop, 0, []), (.aload_n 0, 1, []), (.iload_n 3, 1, []), (.invokevirtual 154, 3, [134, 2, 3, 11]), (.nop, 0, []), (.nop, 0, []), (.aload_n 0, 1, []), (.iload 4, 2, [])],
  [(.nop, 0, []), (.invokevirtual 154, 3, [134, 2, 3, 11]), (.nop, 0, []), (.nop, 0, []), (.aload_n 0, 1, []), (.iload 5, 2, []), (.nop, 0, []), (.invokevirtual 154, 3, [134, 2, 3, 11]), (.nop, 0, []), (.nop, 0, []), (.aload_n 0, 1, []), (.getfield 151, 3, [11, 1, 0]), (.nop, 0, []), (.nop, 0, []), (.ireturn, 1, [0])]]
def g_t131 : q_T := [
  [(.iconst 0, 1, []), (.istore_n 1, 1, []), (.iload_n 1, 1, []), (.bipush 28, 2, []), (.nop, 0, []), (.if_icmp .ge 21, 3, [26]), (.nop, 0, []), (.nop, 0, []), (.aload_n 0, 1, []), (.getfield 84, 3, [11, 58, 3]), (.nop, 0, []), (.nop, 0, []), (.iload_n 1, 1, []), (.aload_n 0, 1, []), (.getfield 81, 3, [11, 57, 3]), (.nop, 0, [])],
  [(.nop, 0, []), (.iload_n 1, 1, []), (.iaload, 1, []), (.iastore, 1, []), (.iinc 1 1, 3, []), (.nop, 0, []), (.nop, 0, []), (.goto (-21), 3, [2]), (.nop, 0, []), (.nop, 0, []), (.aload_n 0, 1, []), (.invokevirtual 435, 3, [113, 1, 2, 11]), (.nop, 0, []), (.nop, 0, []), (.return_, 1, [])]]
def g_t132 : q_T := [
  [(.aload_n 0, 1, []), (.iload_n 1, 1, []), (.invokevirtual 594, 3, [155, 2, 6, 11]), (.nop, 0, []), (.nop, 0, []), (.ireturn, 1, [0])]]
def g_t133 : q_T := [
  [(.iconst (-1), 1, []), (.istore_n 1, 1, []), (.iconst 0, 1, []), (.istore_n 2, 1, []), (.iload_n 2, 1, []), (.aload_n 0, 1, []), (.getfield 81, 3, [11, 57, 3]), (.nop, 0, []), (.nop, 0, []), (.bipush 8, 2, []), (.nop, 0, []), (.iaload, 1, []), (.if_icmp .ge 40, 3, [52]), (.nop, 0, []), (.nop, 0, []), (.iload_n 1, 1, [])],
  [(.ifCond .lt 23, 3, [39]), (.nop, 0, []), (.nop, 0, []), (.aload_n 0, 1, []), (.getfield 72, 3, [11, 40, 3]), (.nop, 0, []), (.nop, 0, []), (.aload_n 0, 1, []), (.getfield 81, 3, [11, 57, 3]), (.nop, 0, []), (.nop, 0, []), (.iload_n 2, 1, []), (.iaload, 1, []), (.iaload, 1, []), (.aload_n 0, 1, []), (.getfield 72, 3, [11, 40, 3])],
  [(.nop, 0, []), (.nop, 0, []), (.iload_n 1, 1, []), (.iaload, 1, []), (.if_icmp .le 10, 3, [46]), (.nop, 0, []), (.nop, 0, []), (.aload_n 0, 1, []), (.getfield 81, 3, [11, 57, 3]), (.nop, 0, []), (.nop, 0, []), (.iload_n 2, 1, []), (.iaload, 1, []), (.istore_n 1, 1, []), (.iinc 2 1, 3, []), (.nop, 0, [])],
  [(.nop, 0, []), (.goto (-45), 3, [4]), (.nop, 0, []), (.nop, 0, []), (.iload_n 1, 1, []), (.ireturn, 1, [0])]]
def g_t134 : q_T := [
  [(.bipush 24, 2, []), (.nop, 0, []), (.istore_n 2, 1, []), (.iload_n 2, 1, []), (.ifCond .lt 35, 3, [39]), (.nop, 0, []), (.nop, 0, []), (.aload_n 0, 1, []), (.getfield 7, 3, [11, 0, 3]), (.nop, 0, []), (.nop, 0, []), (.aload_n 0, 1, []), (.getfield 151, 3, [11, 1, 0]), (.nop, 0, []), (.nop, 0, []), (.iload_n 1, 1, [])],
  [(.iload_n 2, 1, []), (.ishr, 1, []), (.sipush 255, 3, []), (.nop, 0, []), (.nop, 0, []), (.iand, 1, []), (.iastore, 1, []), (.aload_n 0, 1, []), (.dup, 1, []), (.getfield 151, 3, [11, 1, 0]), (.nop, 0, []), (.nop, 0, []), (.iconst 1, 1, []), (.iadd, 1, []), (.putfield 151, 3, [11, 1, 0]), (.nop, 0, [])],
  [(.nop, 0, []), (.iinc 2 (-8), 3, []), (.nop, 0, []), (.nop, 0, []), (.goto (-33), 3, [3]), (.nop, 0, []), (.nop, 0, []), (.return_, 1, [])]]
def g_t135 : q_T := [
  [(.aload_n 0, 1, []), (.iload_n 1, 1, []), (.invokevirtual 502, 3, [148, 2, 2, 11]), (.nop, 0, []), (.nop, 0, []), (.ifCond .ne 5, 3, [10]), (.nop, 0, []), (.nop, 0, []), (.iconst (-1), 1, []), (.ireturn, 1, [0]), (.aload_n 0, 1, []), (.nop, 0, []), (.nop, 0, []), (.nop, 0, []), (.aload_n 0, 1, []), (.aload_n 0, 1, [])],
  [(.iload_n 1, 1, []), (.nop, 0, []), (.nop, 0, []), (.nop, 0, []), (.nop, 0, []), (.nop, 0, []), (.nop, 0, []), (.pop, 1, []), (.aload_n 0, 1, []), (.getfield 84, 3, [11, 58, 3]), (.nop, 0, []), (.nop, 0, []), (.bipush 9, 2, []), (.nop, 0, []), (.iload_n 1, 1, []), (.iadd, 1, [])],
  [(.iconst 4, 1, []), (.iastore, 1, []), (.aload_n 0, 1, []), (.invokevirtual 148, 3, [151, 1, 2, 11]), (.nop, 0, []), (.nop, 0, []), (.aload_n 0, 1, []), (.getfield 81, 3, [11, 57, 3]), (.nop, 0, []), (.nop, 0, []), (.bipush 8, 2, []), (.nop, 0, []), (.iaload, 1, []), (.ireturn, 1, [0])]]
def g_t136 : q_T := [
  [(.aload_n 0, 1, []), (.invokevirtual 475, 3, [144, 1, 3, 11]), (.nop, 0, []), (.nop, 0, []), (.ifCond .ne 12, 3, [16]), (.nop, 0, []), (.nop, 0, []), (.aload_n 0, 1, []), (.iconst 0, 1, []), (.nop, 0, []), (.nop, 0, []), (.nop, 0, []), (.pop, 1, []), (.goto (-13), 3, [0]), (.nop, 0, []), (.nop, 0, [])],
  [(.return_, 1, [])]]
def g_t137 : q_T := [
  [(.aload_n 0, 1, []), (.iload_n 1, 1, []), (.invokevirtual 502, 3, [148, 2, 2, 11]), (.nop, 0, []), (.nop, 0, []), (.ifCond .eq 14, 3, [19]), (.nop, 0, []), (.nop, 0, []), (.aload_n 0, 1, []), (.iload_n 1, 1, []), (.nop, 0, []), (.nop, 0, []), (.nop, 0, []), (.ldc_w 526, 3, [1000000]), (.nop, 0, []), (.nop, 0, [])],
  [(.if_icmp .ge 5, 3, [21]), (.nop, 0, []), (.nop, 0, []), (.iconst (-1), 1, []), (.ireturn, 1, [0]), (.iconst 0, 1, []), (.istore_n 2, 1, []), (.iconst 0, 1, []), (.istore_n 3, 1, []), (.iload_n 3, 1, []), (.aload_n 0, 1, []), (.getfield 407, 3, [11, 48, 0]), (.nop, 0, []), (.nop, 0, []), (.if_icmp .ge 47, 3, [77]), (.nop, 0, [])],
  [(.nop, 0, []), (.iload_n 2, 1, []), (.iload_n 3, 1, []), (.iload_n 1, 1, []), (.if_icmp .eq 27, 3, [63]), (.nop, 0, []), (.nop, 0, []), (.aload_n 0, 1, []), (.iload_n 3, 1, []), (.invokevirtual 502, 3, [148, 2, 2, 11]), (.nop, 0, []), (.nop, 0, []), (.ifCond .eq 19, 3, [63]), (.nop, 0, []), (.nop, 0, []), (.aload_n 0, 1, [])],
  [(.iload_n 1, 1, []), (.iload_n 3, 1, []), (.nop, 0, []), (.nop, 0, []), (.nop, 0, []), (.ldc_w 526, 3, [1000000]), (.nop, 0, []), (.nop, 0, []), (.if_icmp .ge 7, 3, [63]), (.nop, 0, []), (.nop, 0, []), (.iconst 1, 1, []), (.goto 4, 3, [64]), (.nop, 0, []), (.nop, 0, []), (.iconst 0, 1, [])],
  [(.invokestatic 320, 3, [197, 1, 1]), (.nop, 0, []), (.nop, 0, []), (.iload_n 3, 1, []), (.ishl, 1, []), (.ior, 1, []), (.istore_n 2, 1, []), (.iinc 3 1, 3, []), (.nop, 0, []), (.nop, 0, []), (.goto (-49), 3, [25]), (.nop, 0, []), (.nop, 0, []), (.iload_n 2, 1, []), (.ireturn, 1, [0])]]
def g_t138 : q_T := [
  [(.aload_n 0, 1, []), (.getfield 158, 3, [11, 4, 0]), (.nop, 0, []), (.nop, 0, []), (.iload_n 1, 1, []), (.iadd, 1, []), (.aload_n 0, 1, []), (.getfield 161, 3, [11, 5, 0]), (.nop, 0, []), (.nop, 0, []), (.if_icmp .ge 17, 3, [27]), (.nop, 0, []), (.nop, 0, []), (.aload_n 0, 1, []), (.getfield 7, 3, [11, 0, 3]), (.nop, 0, [])],
  [(.nop, 0, []), (.aload_n 0, 1, []), (.getfield 158, 3, [11, 4, 0]), (.nop, 0, []), (.nop, 0, []), (.iload_n 1, 1, []), (.iadd, 1, []), (.iaload, 1, []), (.goto 4, 3, [28]), (.nop, 0, []), (.nop, 0, []), (.iconst (-1), 1, []), (.ireturn, 1, [0])]]
def g_t139 : q_T := [
  [(.aload_n 0, 1, []), (.invokevirtual 493, 3, [131, 1, 2, 11]), (.nop, 0, []), (.nop, 0, []), (.aload_n 0, 1, []), (.iload_n 1, 1, []), (.invokevirtual 490, 3, [149, 2, 2, 11]), (.nop, 0, []), (.nop, 0, []), (.ifCond .eq 11, 3, [20]), (.nop, 0, []), (.nop, 0, []), (.aload_n 0, 1, []), (.iload_n 1, 1, []), (.nop, 0, []), (.nop, 0, [])],
  [(.nop, 0, []), (.ifCond .eq 5, 3, [22]), (.nop, 0, []), (.nop, 0, []), (.iconst (-1), 1, []), (.ireturn, 1, [0]), (.iconst 0, 1, []), (.istore_n 2, 1, []), (.iconst 0, 1, []), (.istore_n 3, 1, []), (.iload_n 3, 1, []), (.aload_n 0, 1, []), (.getfield 407, 3, [11, 48, 0]), (.nop, 0, []), (.nop, 0, []), (.if_icmp .ge 48, 3, [79])],
  [(.nop, 0, []), (.nop, 0, []), (.iload_n 2, 1, []), (.aload_n 0, 1, []), (.getfield 66, 3, [11, 38, 3]), (.nop, 0, []), (.nop, 0, []), (.iload_n 3, 1, []), (.iaload, 1, []), (.iload_n 1, 1, []), (.if_icmp .ne 23, 3, [65]), (.nop, 0, []), (.nop, 0, []), (.aload_n 0, 1, []), (.invokevirtual 548, 3, [176, 1, 3, 11]), (.nop, 0, [])],
  [(.nop, 0, []), (.aload_n 0, 1, []), (.invokevirtual 551, 3, [178, 1, 3, 11]), (.nop, 0, []), (.nop, 0, []), (.ior, 1, []), (.iload_n 3, 1, []), (.nop, 0, []), (.nop, 0, []), (.nop, 0, []), (.ifCond .eq 7, 3, [65]), (.nop, 0, []), (.nop, 0, []), (.iconst 1, 1, []), (.goto 4, 3, [66]), (.nop, 0, [])],
  [(.nop, 0, []), (.iconst 0, 1, []), (.invokestatic 320, 3, [197, 1, 1]), (.nop, 0, []), (.nop, 0, []), (.iload_n 3, 1, []), (.ishl, 1, []), (.ior, 1, []), (.istore_n 2, 1, []), (.iinc 3 1, 3, []), (.nop, 0, []), (.nop, 0, []), (.goto (-50), 3, [26]), (.nop, 0, []), (.nop, 0, []), (.iconst 0, 1, [])],
  [(.istore_n 3, 1, []), (.iload_n 3, 1, []), (.sipush 240, 3, []), (.nop, 0, []), (.nop, 0, []), (.if_icmp .gt 33, 3, [118]), (.nop, 0, []), (.nop, 0, []), (.aload_n 0, 1, []), (.invokevirtual 493, 3, [131, 1, 2, 11]), (.nop, 0, []), (.nop, 0, []), (.aload_n 0, 1, []), (.iload_n 1, 1, []), (.putfield 42, 3, [11, 29, 0]), (.nop, 0, [])],
  [(.nop, 0, []), (.aload_n 0, 1, []), (.iload_n 3, 1, []), (.putfield 447, 3, [11, 30, 0]), (.nop, 0, []), (.nop, 0, []), (.aload_n 0, 1, []), (.iload_n 2, 1, []), (.invokevirtual 554, 3, [126, 2, 2, 11]), (.nop, 0, []), (.nop, 0, []), (.ifCond .eq 5, 3, [112]), (.nop, 0, []), (.nop, 0, []), (.iload_n 3, 1, []), (.ireturn, 1, [0])],
  [(.iinc 3 1, 3, []), (.nop, 0, []), (.nop, 0, []), (.goto (-34), 3, [81]), (.nop, 0, []), (.nop, 0, []), (.iconst (-1), 1, []), (.ireturn, 1, [0])]]
def g_t140 : q_T := [
  [(.iconst 0, 1, []), (.istore_n 2, 1, []), (.iconst 0, 1, []), (.istore_n 3, 1, []), (.iload_n 3, 1, []), (.aload_n 0, 1, []), (.getfield 407, 3, [11, 48, 0]), (.nop, 0, []), (.nop, 0, []), (.if_icmp .ge 35, 3, [44]), (.nop, 0, []), (.nop, 0, []), (.iload_n 2, 1, []), (.aload_n 0, 1, []), (.getfield 81, 3, [11, 57, 3]), (.nop, 0, [])],
  [(.nop, 0, []), (.bipush 9, 2, []), (.nop, 0, []), (.iload_n 3, 1, []), (.iadd, 1, []), (.iaload, 1, []), (.iload_n 1, 1, []), (.if_icmp .ne 7, 3, [30]), (.nop, 0, []), (.nop, 0, []), (.iconst 1, 1, []), (.goto 4, 3, [31]), (.nop, 0, []), (.nop, 0, []), (.iconst 0, 1, []), (.invokestatic 320, 3, [197, 1, 1])],
  [(.nop, 0, []), (.nop, 0, []), (.iload_n 3, 1, []), (.ishl, 1, []), (.ior, 1, []), (.istore_n 2, 1, []), (.iinc 3 1, 3, []), (.nop, 0, []), (.nop, 0, []), (.goto (-37), 3, [4]), (.nop, 0, []), (.nop, 0, []), (.iload_n 2, 1, []), (.ireturn, 1, [0])]]
def g_t141 : q_T := [
  [(.iload_n 1, 1, []), (.invokestatic 600, 3, [143, 1, 1]), (.nop, 0, []), (.nop, 0, []), (.ifCond .ne 5, 3, [9]), (.nop, 0, []), (.nop, 0, []), (.iconst (-1), 1, []), (.ireturn, 1, [0]), (.aload_n 0, 1, []), (.getfield 139, 3, [11, 83, 3]), (.nop, 0, []), (.nop, 0, []), (.iload_n 1, 1, []), (.iconst 1, 1, []), (.bastore, 1, [])],
  [(.iconst 0, 1, []), (.istore_n 2, 1, []), (.iload_n 2, 1, []), (.bipush 28, 2, []), (.nop, 0, []), (.if_icmp .ge 26, 3, [47]), (.nop, 0, []), (.nop, 0, []), (.aload_n 0, 1, []), (.getfield 142, 3, [11, 84, 3]), (.nop, 0, []), (.nop, 0, []), (.bipush 28, 2, []), (.nop, 0, []), (.iload_n 1, 1, []), (.imul, 1, [])],
  [(.iload_n 2, 1, []), (.iadd, 1, []), (.aload_n 0, 1, []), (.getfield 81, 3, [11, 57, 3]), (.nop, 0, []), (.nop, 0, []), (.iload_n 2, 1, []), (.iaload, 1, []), (.iastore, 1, []), (.iinc 2 1, 3, []), (.nop, 0, []), (.nop, 0, []), (.goto (-26), 3, [18]), (.nop, 0, []), (.nop, 0, []), (.aload_n 0, 1, [])],
  [(.getfield 81, 3, [11, 57, 3]), (.nop, 0, []), (.nop, 0, []), (.bipush 26, 2, []), (.nop, 0, []), (.iaload, 1, []), (.ireturn, 1, [0])]]
def g_t142 : q_T := [
  [(.aload_n 0, 1, []), (.iload_n 1, 1, []), (.invokevirtual 502, 3, [148, 2, 2, 11]), (.nop, 0, []), (.nop, 0, []), (.ifCond .eq 25, 3, [30]), (.nop, 0, []), (.nop, 0, []), (.aload_n 0, 1, []), (.getfield 81, 3, [11, 57, 3]), (.nop, 0, []), (.nop, 0, []), (.bipush 17, 2, []), (.nop, 0, []), (.iaload, 1, []), (.iload_n 1, 1, [])],
  [(.nop, 0, []), (.nop, 0, []), (.nop, 0, []), (.ifCond .eq 11, 3, [30]), (.nop, 0, []), (.nop, 0, []), (.aload_n 0, 1, []), (.iload_n 1, 1, []), (.nop, 0, []), (.nop, 0, []), (.nop, 0, []), (.goto 4, 3, [31]), (.nop, 0, []), (.nop, 0, []), (.iconst (-1), 1, []), (.ireturn, 1, [0])]]
def g_t143 : q_T := [
  [(.iload_n 0, 1, []), (.ifCond .lt 12, 3, [13]), (.nop, 0, []), (.nop, 0, []), (.iload_n 0, 1, []), (.iconst 3, 1, []), (.if_icmp .ge 7, 3, [13]), (.nop, 0, []), (.nop, 0, []), (.iconst 1, 1, []), (.goto 4, 3, [14]), (.nop, 0, []), (.nop, 0, []), (.iconst 0, 1, []), (.ireturn, 1, [1])]]
def g_t144 : q_T := [
  [(.aload_n 0, 1, []), (.invokevirtual 450, 3, [175, 1, 1, 11]), (.nop, 0, []), (.nop, 0, []), (.ifCond .ne 7, 3, [11]), (.nop, 0, []), (.nop, 0, []), (.iconst 1, 1, []), (.goto 4, 3, [12]), (.nop, 0, []), (.nop, 0, []), (.iconst 0, 1, []), (.istore_n 1, 1, []), (.iconst 0, 1, []), (.istore_n 2, 1, []), (.iload_n 2, 1, [])],
  [(.aload_n 0, 1, []), (.getfield 438, 3, [11, 28, 0]), (.nop, 0, []), (.nop, 0, []), (.if_icmp .ge 27, 3, [47]), (.nop, 0, []), (.nop, 0, []), (.iload_n 1, 1, []), (.ifCond .eq 15, 3, [39]), (.nop, 0, []), (.nop, 0, []), (.aload_n 0, 1, []), (.iload_n 2, 1, []), (.invokevirtual 465, 3, [145, 2, 2, 11]), (.nop, 0, []), (.nop, 0, [])],
  [(.ifCond .eq 7, 3, [39]), (.nop, 0, []), (.nop, 0, []), (.iconst 1, 1, []), (.goto 4, 3, [40]), (.nop, 0, []), (.nop, 0, []), (.iconst 0, 1, []), (.istore_n 1, 1, []), (.iinc 2 1, 3, []), (.nop, 0, []), (.nop, 0, []), (.goto (-29), 3, [15]), (.nop, 0, []), (.nop, 0, []), (.iload_n 1, 1, [])],
  [(.ireturn, 1, [1])]]
def g_t145 : q_T := [
  [(.aload_n 0, 1, []), (.getfield 84, 3, [11, 58, 3]), (.nop, 0, []), (.nop, 0, []), (.bipush 18, 2, []), (.nop, 0, []), (.iload_n 1, 1, []), (.iadd, 1, []), (.iaload, 1, []), (.ifCond .ge 7, 3, [16]), (.nop, 0, []), (.nop, 0, []), (.iconst 1, 1, []), (.goto 4, 3, [17]), (.nop, 0, []), (.nop, 0, [])],
  [(.iconst 0, 1, []), (.ireturn, 1, [1])]]
def g_t146 : q_T := [
  [(.iload_n 0, 1, []), (.iload_n 1, 1, []), (.if_icmp .lt 12, 3, [14]), (.nop, 0, []), (.nop, 0, []), (.iload_n 0, 1, []), (.iload_n 2, 1, []), (.if_icmp .gt 7, 3, [14]), (.nop, 0, []), (.nop, 0, []), (.iconst 1, 1, []), (.goto 4, 3, [15]), (.nop, 0, []), (.nop, 0, []), (.iconst 0, 1, []), (.ireturn, 1, [1])]]
def g_t147 : q_T := [
  [(.iload_n 1, 1, []), (.iconst 0, 1, []), (.aload_n 0, 1, []), (.getfield 407, 3, [11, 48, 0]), (.nop, 0, []), (.nop, 0, []), (.iconst 1, 1, []), (.isub, 1, []), (.invokestatic 431, 3, [146, 3, 3]), (.nop, 0, []), (.nop, 0, []), (.ireturn, 1, [1])]]
def g_t148 : q_T := [
  [(.aload_n 0, 1, []), (.iload_n 1, 1, []), (.invokevirtual 496, 3, [147, 2, 2, 11]), (.nop, 0, []), (.nop, 0, []), (.ifCond .eq 19, 3, [24]), (.nop, 0, []), (.nop, 0, []), (.aload_n 0, 1, []), (.getfield 81, 3, [11, 57, 3]), (.nop, 0, []), (.nop, 0, []), (.bipush 9, 2, []), (.nop, 0, []), (.iload_n 1, 1, []), (.iadd, 1, [])],
  [(.iaload, 1, []), (.ifCond .ne 7, 3, [24]), (.nop, 0, []), (.nop, 0, []), (.iconst 1, 1, []), (.goto 4, 3, [25]), (.nop, 0, []), (.nop, 0, []), (.iconst 0, 1, []), (.ireturn, 1, [1])]]
def g_t149 : q_T := [
  [(.iload_n 1, 1, []), (.iconst 0, 1, []), (.aload_n 0, 1, []), (.getfield 404, 3, [11, 47, 0]), (.nop, 0, []), (.nop, 0, []), (.iconst 1, 1, []), (.isub, 1, []), (.invokestatic 431, 3, [146, 3, 3]), (.nop, 0, []), (.nop, 0, []), (.ireturn, 1, [1])]]
def g_t150 : q_T := [
  [(.aload_n 0, 1, []), (.invokevirtual 493, 3, [131, 1, 2, 11]), (.nop, 0, []), (.nop, 0, []), (.aload_n 0, 1, []), (.iload_n 1, 1, []), (.invokevirtual 496, 3, [147, 2, 2, 11]), (.nop, 0, []), (.nop, 0, []), (.ifCond .eq 42, 3, [51]), (.nop, 0, []), (.nop, 0, []), (.aload_n 0, 1, []), (.getfield 81, 3, [11, 57, 3]), (.nop, 0, []), (.nop, 0, [])],
  [(.bipush 9, 2, []), (.nop, 0, []), (.iload_n 1, 1, []), (.iadd, 1, []), (.iaload, 1, []), (.iconst 4, 1, []), (.if_icmp .eq 16, 3, [38]), (.nop, 0, []), (.nop, 0, []), (.aload_n 0, 1, []), (.getfield 81, 3, [11, 57, 3]), (.nop, 0, []), (.nop, 0, []), (.bipush 9, 2, []), (.nop, 0, []), (.iload_n 1, 1, [])],
  [(.iadd, 1, []), (.iaload, 1, []), (.iconst 3, 1, []), (.if_icmp .ne 16, 3, [51]), (.nop, 0, []), (.nop, 0, []), (.aload_n 0, 1, []), (.aload_n 0, 1, []), (.getfield 66, 3, [11, 38, 3]), (.nop, 0, []), (.nop, 0, []), (.iload_n 1, 1, []), (.iaload, 1, []), (.nop, 0, []), (.nop, 0, []), (.nop, 0, [])],
  [(.ifCond .eq 5, 3, [53]), (.nop, 0, []), (.nop, 0, []), (.iconst (-1), 1, []), (.ireturn, 1, [0]), (.aload_n 0, 1, []), (.nop, 0, []), (.nop, 0, []), (.nop, 0, []), (.aload_n 0, 1, []), (.iload_n 1, 1, []), (.nop, 0, []), (.nop, 0, []), (.nop, 0, []), (.aload_n 0, 1, []), (.invokevirtual 148, 3, [151, 1, 2, 11])],
  [(.nop, 0, []), (.nop, 0, []), (.aload_n 0, 1, []), (.getfield 81, 3, [11, 57, 3]), (.nop, 0, []), (.nop, 0, []), (.bipush 8, 2, []), (.nop, 0, []), (.iaload, 1, []), (.iconst 1, 1, []), (.isub, 1, []), (.ireturn, 1, [0])]]
def g_t151 : q_T := [
  [(.iconst 0, 1, []), (.istore_n 1, 1, []), (.iload_n 1, 1, []), (.bipush 28, 2, []), (.nop, 0, []), (.if_icmp .ge 21, 3, [26]), (.nop, 0, []), (.nop, 0, []), (.aload_n 0, 1, []), (.getfield 81, 3, [11, 57, 3]), (.nop, 0, []), (.nop, 0, []), (.iload_n 1, 1, []), (.aload_n 0, 1, []), (.getfield 84, 3, [11, 58, 3]), (.nop, 0, [])],
  [(.nop, 0, []), (.iload_n 1, 1, []), (.iaload, 1, []), (.iastore, 1, []), (.iinc 1 1, 3, []), (.nop, 0, []), (.nop, 0, []), (.goto (-21), 3, [2]), (.nop, 0, []), (.nop, 0, []), (.return_, 1, [])]]
def g_t152 : q_T := [
  [(.aload_n 0, 1, []), (.iload_n 1, 1, []), (.invokevirtual 490, 3, [149, 2, 2, 11]), (.nop, 0, []), (.nop, 0, []), (.ifCond .eq 13, 3, [18]), (.nop, 0, []), (.nop, 0, []), (.iload_n 2, 1, []), (.iconst 1, 1, []), (.bipush 30, 2, []), (.nop, 0, []), (.invokestatic 431, 3, [146, 3, 3]), (.nop, 0, []), (.nop, 0, []), (.ifCond .ne 5, 3, [20])],
  [(.nop, 0, []), (.nop, 0, []), (.iconst (-1), 1, []), (.ireturn, 1, [0]), (.aload_n 0, 1, []), (.getfield 66, 3, [11, 38, 3]), (.nop, 0, []), (.nop, 0, []), (.bipush 7, 2, []), (.nop, 0, []), (.iload_n 1, 1, []), (.iastore, 1, []), (.aload_n 0, 1, []), (.getfield 69, 3, [11, 39, 3]), (.nop, 0, []), (.nop, 0, [])],
  [(.bipush 7, 2, []), (.nop, 0, []), (.iload_n 2, 1, []), (.iastore, 1, []), (.aload_n 0, 1, []), (.getfield 72, 3, [11, 40, 3]), (.nop, 0, []), (.nop, 0, []), (.bipush 7, 2, []), (.nop, 0, []), (.iconst 1, 1, []), (.iastore, 1, []), (.sipush 240, 3, []), (.nop, 0, []), (.nop, 0, []), (.istore_n 3, 1, [])],
  [(.iload_n 3, 1, []), (.ifCond .lt 68, 3, [117]), (.nop, 0, []), (.nop, 0, []), (.aload_n 0, 1, []), (.invokevirtual 493, 3, [131, 1, 2, 11]), (.nop, 0, []), (.nop, 0, []), (.iconst 0, 1, []), (.istore 4, 2, []), (.nop, 0, []), (.iload 4, 2, []), (.nop, 0, []), (.iload_n 3, 1, []), (.if_icmp .ge 15, 3, [77]), (.nop, 0, [])],
  [(.nop, 0, []), (.aload_n 0, 1, []), (.iconst 0, 1, []), (.nop, 0, []), (.nop, 0, []), (.nop, 0, []), (.pop, 1, []), (.iinc 4 1, 3, []), (.nop, 0, []), (.nop, 0, []), (.goto (-15), 3, [59]), (.nop, 0, []), (.nop, 0, []), (.aload_n 0, 1, []), (.iload_n 1, 1, []), (.nop, 0, [])],
  [(.nop, 0, []), (.nop, 0, []), (.ifCond .eq 6, 3, [88]), (.nop, 0, []), (.nop, 0, []), (.goto 26, 3, [111]), (.nop, 0, []), (.nop, 0, []), (.aload_n 0, 1, []), (.bipush 7, 2, []), (.nop, 0, []), (.nop, 0, []), (.nop, 0, []), (.nop, 0, []), (.aload_n 0, 1, []), (.invokevirtual 481, 3, [136, 1, 1, 11])],
  [(.nop, 0, []), (.nop, 0, []), (.aload_n 0, 1, []), (.getfield 84, 3, [11, 58, 3]), (.nop, 0, []), (.nop, 0, []), (.bipush 16, 2, []), (.nop, 0, []), (.iaload, 1, []), (.iconst 2, 1, []), (.if_icmp .ne 5, 3, [111]), (.nop, 0, []), (.nop, 0, []), (.iload_n 3, 1, []), (.ireturn, 1, [0]), (.iinc 3 (-1), 3, [])],
  [(.nop, 0, []), (.nop, 0, []), (.goto (-66), 3, [48]), (.nop, 0, []), (.nop, 0, []), (.iconst (-1), 1, []), (.ireturn, 1, [0])]]
def g_t153 : q_T := [
  [(.iload_n 1, 1, []), (.ifCond .lt 22, 3, [23]), (.nop, 0, []), (.nop, 0, []), (.iload_n 1, 1, []), (.sipush 1000, 3, []), (.nop, 0, []), (.nop, 0, []), (.if_icmp .gt 15, 3, [23]), (.nop, 0, []), (.nop, 0, []), (.aload_n 0, 1, []), (.getfield 587, 3, [11, 79, 0]), (.nop, 0, []), (.nop, 0, []), (.iload_n 1, 1, [])],
  [(.iadd, 1, []), (.ldc_w 590, 3, [100000]), (.nop, 0, []), (.nop, 0, []), (.if_icmp .le 5, 3, [25]), (.nop, 0, []), (.nop, 0, []), (.iconst (-1), 1, []), (.ireturn, 1, [0]), (.aload_n 0, 1, []), (.dup, 1, []), (.getfield 587, 3, [11, 79, 0]), (.nop, 0, []), (.nop, 0, []), (.iload_n 1, 1, []), (.iadd, 1, [])],
  [(.putfield 587, 3, [11, 79, 0]), (.nop, 0, []), (.nop, 0, []), (.aload_n 0, 1, []), (.getfield 587, 3, [11, 79, 0]), (.nop, 0, []), (.nop, 0, []), (.ireturn, 1, [0])]]
def g_t154 : q_T := [
  [(.iload_n 1, 1, []), (.iconst 1, 1, []), (.bipush 60, 2, []), (.nop, 0, []), (.invokestatic 431, 3, [146, 3, 3]), (.nop, 0, []), (.nop, 0, []), (.ifCond .ne 5, 3, [12]), (.nop, 0, []), (.nop, 0, []), (.iconst (-1), 1, []), (.ireturn, 1, [0]), (.aload_n 0, 1, []), (.invokevirtual 493, 3, [131, 1, 2, 11]), (.nop, 0, []), (.nop, 0, [])],
  [(.aload_n 0, 1, []), (.iload_n 1, 1, []), (.putfield 324, 3, [11, 27, 0]), (.nop, 0, []), (.nop, 0, []), (.aload_n 0, 1, []), (.invokevirtual 533, 3, [122, 1, 1, 11]), (.nop, 0, []), (.nop, 0, []), (.ireturn, 1, [0])]]
def g_t155 : q_T := [
  [(.aload_n 0, 1, []), (.getfield 407, 3, [11, 48, 0]), (.nop, 0, []), (.nop, 0, []), (.ifCond .ne 5, 3, [9]), (.nop, 0, []), (.nop, 0, []), (.iconst 0, 1, []), (.ireturn, 1, [0]), (.iconst 0, 1, []), (.istore_n 2, 1, []), (.aload_n 0, 1, []), (.getfield 69, 3, [11, 39, 3]), (.nop, 0, []), (.nop, 0, []), (.aload_n 0, 1, [])],
  [(.getfield 407, 3, [11, 48, 0]), (.nop, 0, []), (.nop, 0, []), (.iconst 1, 1, []), (.isub, 1, []), (.iaload, 1, []), (.istore_n 3, 1, []), (.iconst 1, 1, []), (.istore 4, 2, []), (.nop, 0, []), (.iload 4, 2, []), (.nop, 0, []), (.bipush 30, 2, []), (.nop, 0, []), (.if_icmp .gt 104, 3, [134]), (.nop, 0, [])],
  [(.nop, 0, []), (.aload_n 0, 1, []), (.getfield 69, 3, [11, 39, 3]), (.nop, 0, []), (.nop, 0, []), (.aload_n 0, 1, []), (.getfield 407, 3, [11, 48, 0]), (.nop, 0, []), (.nop, 0, []), (.iconst 1, 1, []), (.isub, 1, []), (.iload 4, 2, []), (.nop, 0, []), (.iastore, 1, []), (.aload_n 0, 1, []), (.invokevirtual 145, 3, [156, 1, 2, 11])],
  [(.nop, 0, []), (.nop, 0, []), (.iconst 0, 1, []), (.istore 5, 2, []), (.nop, 0, []), (.iload 5, 2, []), (.nop, 0, []), (.bipush 60, 2, []), (.nop, 0, []), (.if_icmp .gt 44, 3, [101]), (.nop, 0, []), (.nop, 0, []), (.aload_n 0, 1, []), (.getfield 130, 3, [11, 80, 3]), (.nop, 0, []), (.nop, 0, [])],
  [(.bipush 61, 2, []), (.nop, 0, []), (.iload 4, 2, []), (.nop, 0, []), (.imul, 1, []), (.iload 5, 2, []), (.nop, 0, []), (.iadd, 1, []), (.aload_n 0, 1, []), (.getfield 407, 3, [11, 48, 0]), (.nop, 0, []), (.nop, 0, []), (.aload_n 0, 1, []), (.invokevirtual 450, 3, [175, 1, 1, 11]), (.nop, 0, []), (.nop, 0, [])],
  [(.isub, 1, []), (.iastore, 1, []), (.aload_n 0, 1, []), (.invokevirtual 475, 3, [144, 1, 3, 11]), (.nop, 0, []), (.nop, 0, []), (.ifCond .ne 9, 3, [95]), (.nop, 0, []), (.nop, 0, []), (.aload_n 0, 1, []), (.iconst 0, 1, []), (.nop, 0, []), (.nop, 0, []), (.nop, 0, []), (.pop, 1, []), (.iinc 5 1, 3, [])],
  [(.nop, 0, []), (.nop, 0, []), (.goto (-45), 3, [53]), (.nop, 0, []), (.nop, 0, []), (.aload_n 0, 1, []), (.getfield 136, 3, [11, 82, 3]), (.nop, 0, []), (.nop, 0, []), (.iload 4, 2, []), (.nop, 0, []), (.aload_n 0, 1, []), (.iload 4, 2, []), (.nop, 0, []), (.iload_n 1, 1, []), (.nop, 0, [])],
  [(.nop, 0, []), (.nop, 0, []), (.bastore, 1, []), (.iload_n 2, 1, []), (.aload_n 0, 1, []), (.getfield 136, 3, [11, 82, 3]), (.nop, 0, []), (.nop, 0, []), (.iload 4, 2, []), (.nop, 0, []), (.baload, 1, []), (.invokestatic 320, 3, [197, 1, 1]), (.nop, 0, []), (.nop, 0, []), (.iadd, 1, []), (.istore_n 2, 1, [])],
  [(.iinc 4 1, 3, []), (.nop, 0, []), (.nop, 0, []), (.goto (-105), 3, [26]), (.nop, 0, []), (.nop, 0, []), (.aload_n 0, 1, []), (.getfield 69, 3, [11, 39, 3]), (.nop, 0, []), (.nop, 0, []), (.aload_n 0, 1, []), (.getfield 407, 3, [11, 48, 0]), (.nop, 0, []), (.nop, 0, []), (.iconst 1, 1, []), (.isub, 1, [])],
  [(.iload_n 3, 1, []), (.iastore, 1, []), (.iload_n 2, 1, []), (.ireturn, 1, [0])]]
def g_t156 : q_T := [
  [(.iconst 0, 1, []), (.istore_n 1, 1, []), (.iload_n 1, 1, []), (.bipush 28, 2, []), (.nop, 0, []), (.if_icmp .ge 16, 3, [21]), (.nop, 0, []), (.nop, 0, []), (.aload_n 0, 1, []), (.getfield 84, 3, [11, 58, 3]), (.nop, 0, []), (.nop, 0, []), (.iload_n 1, 1, []), (.iconst 0, 1, []), (.iastore, 1, []), (.iinc 1 1, 3, [])],
  [(.nop, 0, []), (.nop, 0, []), (.goto (-16), 3, [2]), (.nop, 0, []), (.nop, 0, []), (.iconst 0, 1, []), (.istore_n 1, 1, []), (.iload_n 1, 1, []), (.aload_n 0, 1, []), (.getfield 407, 3, [11, 48, 0]), (.nop, 0, []), (.nop, 0, []), (.if_icmp .ge 16, 3, [44]), (.nop, 0, []), (.nop, 0, []), (.aload_n 0, 1, [])],
  [(.getfield 84, 3, [11, 58, 3]), (.nop, 0, []), (.nop, 0, []), (.iload_n 1, 1, []), (.iload_n 1, 1, []), (.iastore, 1, []), (.iinc 1 1, 3, []), (.nop, 0, []), (.nop, 0, []), (.goto (-18), 3, [23]), (.nop, 0, []), (.nop, 0, []), (.iconst 0, 1, []), (.istore_n 1, 1, []), (.iload_n 1, 1, []), (.iconst 3, 1, [])],
  [(.if_icmp .ge 19, 3, [67]), (.nop, 0, []), (.nop, 0, []), (.aload_n 0, 1, []), (.getfield 84, 3, [11, 58, 3]), (.nop, 0, []), (.nop, 0, []), (.bipush 18, 2, []), (.nop, 0, []), (.iload_n 1, 1, []), (.iadd, 1, []), (.iconst (-1), 1, []), (.iastore, 1, []), (.iinc 1 1, 3, []), (.nop, 0, []), (.nop, 0, [])],
  [(.goto (-18), 3, [46]), (.nop, 0, []), (.nop, 0, []), (.aload_n 0, 1, []), (.getfield 84, 3, [11, 58, 3]), (.nop, 0, []), (.nop, 0, []), (.bipush 8, 2, []), (.nop, 0, []), (.aload_n 0, 1, []), (.getfield 407, 3, [11, 48, 0]), (.nop, 0, []), (.nop, 0, []), (.iastore, 1, []), (.aload_n 0, 1, []), (.getfield 84, 3, [11, 58, 3])],
  [(.nop, 0, []), (.nop, 0, []), (.bipush 27, 2, []), (.nop, 0, []), (.aload_n 0, 1, []), (.getfield 413, 3, [11, 52, 0]), (.nop, 0, []), (.nop, 0, []), (.iastore, 1, []), (.aload_n 0, 1, []), (.invokevirtual 435, 3, [113, 1, 2, 11]), (.nop, 0, []), (.nop, 0, []), (.return_, 1, [])]]
def g_t157 : q_T := [
  [(.iconst 0, 1, []), (.istore_n 2, 1, []), (.iload_n 2, 1, []), (.aload_n 0, 1, []), (.getfield 407, 3, [11, 48, 0]), (.nop, 0, []), (.nop, 0, []), (.if_icmp .ge 43, 3, [50]), (.nop, 0, []), (.nop, 0, []), (.aload_n 0, 1, []), (.iload_n 2, 1, []), (.invokevirtual 502, 3, [148, 2, 2, 11]), (.nop, 0, []), (.nop, 0, []), (.ifCond .eq 29, 3, [44])],
  [(.nop, 0, []), (.nop, 0, []), (.iload_n 1, 1, []), (.iload_n 2, 1, []), (.nop, 0, []), (.nop, 0, []), (.nop, 0, []), (.ifCond .ne 21, 3, [44]), (.nop, 0, []), (.nop, 0, []), (.aload_n 0, 1, []), (.getfield 84, 3, [11, 58, 3]), (.nop, 0, []), (.nop, 0, []), (.bipush 9, 2, []), (.nop, 0, [])],
  [(.aload_n 0, 1, []), (.aload_n 0, 1, []), (.iload_n 2, 1, []), (.nop, 0, []), (.nop, 0, []), (.nop, 0, []), (.nop, 0, []), (.nop, 0, []), (.nop, 0, []), (.iadd, 1, []), (.iconst 4, 1, []), (.iastore, 1, []), (.iinc 2 1, 3, []), (.nop, 0, []), (.nop, 0, []), (.goto (-45), 3, [2])],
  [(.nop, 0, []), (.nop, 0, []), (.return_, 1, [])]]
def g_t158 : q_T := [
  [(.aload_n 0, 1, []), (.iload_n 1, 1, []), (.invokevirtual 502, 3, [148, 2, 2, 11]), (.nop, 0, []), (.nop, 0, []), (.ifCond .eq 11, 3, [16]), (.nop, 0, []), (.nop, 0, []), (.aload_n 0, 1, []), (.iload_n 1, 1, []), (.nop, 0, []), (.nop, 0, []), (.nop, 0, []), (.goto 4, 3, [17]), (.nop, 0, []), (.nop, 0, [])],
  [(.iconst (-1), 1, []), (.ireturn, 1, [0])]]
def g_t159 : q_T := [
  [(.iload_n 0, 1, []), (.iload_n 1, 1, []), (.if_icmp .ge 7, 3, [9]), (.nop, 0, []), (.nop, 0, []), (.iload_n 0, 1, []), (.goto 4, 3, [10]), (.nop, 0, []), (.nop, 0, []), (.iload_n 1, 1, []), (.ireturn, 1, [0])]]
def g_t160 : q_T := [
  [(.iload_n 1, 1, []), (.iconst 0, 1, []), (.bipush 60, 2, []), (.nop, 0, []), (.invokestatic 431, 3, [146, 3, 3]), (.nop, 0, []), (.nop, 0, []), (.ifCond .eq 11, 3, [18]), (.nop, 0, []), (.nop, 0, []), (.aload_n 0, 1, []), (.iload_n 1, 1, []), (.invokevirtual 581, 3, [182, 2, 3, 11]), (.nop, 0, []), (.nop, 0, []), (.goto 4, 3, [19])],
  [(.nop, 0, []), (.nop, 0, []), (.iconst (-1), 1, []), (.ireturn, 1, [0])]]
def g_t161 : q_T := [
  [(.iload_n 1, 1, []), (.iconst 0, 1, []), (.aload_n 0, 1, []), (.getfield 428, 3, [11, 70, 0]), (.nop, 0, []), (.nop, 0, []), (.iconst 1, 1, []), (.isub, 1, []), (.invokestatic 431, 3, [146, 3, 3]), (.nop, 0, []), (.nop, 0, []), (.ifCond .eq 12, 3, [23]), (.nop, 0, []), (.nop, 0, []), (.aload_n 0, 1, []), (.getfield 103, 3, [11, 68, 3])],
  [(.nop, 0, []), (.nop, 0, []), (.iload_n 1, 1, []), (.iaload, 1, []), (.goto 5, 3, [25]), (.nop, 0, []), (.nop, 0, []), (.bipush (-2), 2, []), (.nop, 0, []), (.ireturn, 1, [0])]]
def g_t162 : q_T := [
  [(.aload_n 0, 1, []), (.invokevirtual 493, 3, [131, 1, 2, 11]), (.nop, 0, []), (.nop, 0, []), (.aload_n 0, 1, []), (.invokevirtual 481, 3, [136, 1, 1, 11]), (.nop, 0, []), (.nop, 0, []), (.aload_n 0, 1, []), (.getfield 84, 3, [11, 58, 3]), (.nop, 0, []), (.nop, 0, []), (.bipush 25, 2, []), (.nop, 0, []), (.iaload, 1, []), (.ireturn, 1, [0])]]
def g_t163 : q_T := [
  [(.aload_n 0, 1, []), (.invokevirtual 493, 3, [131, 1, 2, 11]), (.nop, 0, []), (.nop, 0, []), (.aload_n 0, 1, []), (.invokevirtual 536, 3, [164, 1, 3, 11]), (.nop, 0, []), (.nop, 0, []), (.ireturn, 1, [0])]]
def g_t164 : q_T := [
  [(.aload_n 0, 1, []), (.invokevirtual 481, 3, [136, 1, 1, 11]), (.nop, 0, []), (.nop, 0, []), (.iconst 0, 1, []), (.istore_n 1, 1, []), (.iconst 0, 1, []), (.istore_n 2, 1, []), (.iload_n 2, 1, []), (.aload_n 0, 1, []), (.getfield 407, 3, [11, 48, 0]), (.nop, 0, []), (.nop, 0, []), (.if_icmp .ge 35, 3, [48]), (.nop, 0, []), (.nop, 0, [])],
  [(.iload_n 1, 1, []), (.aload_n 0, 1, []), (.getfield 84, 3, [11, 58, 3]), (.nop, 0, []), (.nop, 0, []), (.bipush 9, 2, []), (.nop, 0, []), (.iload_n 2, 1, []), (.iadd, 1, []), (.iaload, 1, []), (.iconst 2, 1, []), (.if_icmp .ne 12, 3, [39]), (.nop, 0, []), (.nop, 0, []), (.aload_n 0, 1, []), (.getfield 72, 3, [11, 40, 3])],
  [(.nop, 0, []), (.nop, 0, []), (.iload_n 2, 1, []), (.iaload, 1, []), (.goto 4, 3, [40]), (.nop, 0, []), (.nop, 0, []), (.iconst 0, 1, []), (.iadd, 1, []), (.istore_n 1, 1, []), (.iinc 2 1, 3, []), (.nop, 0, []), (.nop, 0, []), (.goto (-37), 3, [8]), (.nop, 0, []), (.nop, 0, [])],
  [(.iload_n 1, 1, []), (.ireturn, 1, [0])]]
def g_t165 : q_T := [
  [(.iconst 0, 1, []), (.istore_n 1, 1, []), (.iconst 0, 1, []), (.istore_n 2, 1, []), (.iload_n 2, 1, []), (.bipush 7, 2, []), (.nop, 0, []), (.if_icmp .gt 17, 3, [24]), (.nop, 0, []), (.nop, 0, []), (.iload_n 1, 1, []), (.iload_n 0, 1, []), (.iload_n 2, 1, []), (.ishr, 1, []), (.iconst 1, 1, []), (.iand, 1, [])],
  [(.iadd, 1, []), (.istore_n 1, 1, []), (.iinc 2 1, 3, []), (.nop, 0, []), (.nop, 0, []), (.goto (-17), 3, [4]), (.nop, 0, []), (.nop, 0, []), (.iload_n 1, 1, []), (.ireturn, 1, [0])]]
def g_t166 : q_T := [
  [(.aload_n 0, 1, []), (.invokevirtual 493, 3, [131, 1, 2, 11]), (.nop, 0, []), (.nop, 0, []), (.aload_n 0, 1, []), (.invokevirtual 475, 3, [144, 1, 3, 11]), (.nop, 0, []), (.nop, 0, []), (.ifCond .ne 16, 3, [24]), (.nop, 0, []), (.nop, 0, []), (.aload_n 0, 1, []), (.getfield 81, 3, [11, 57, 3]), (.nop, 0, []), (.nop, 0, []), (.bipush 26, 2, [])],
  [(.nop, 0, []), (.iaload, 1, []), (.sipush 999, 3, []), (.nop, 0, []), (.nop, 0, []), (.if_icmp .ne 5, 3, [26]), (.nop, 0, []), (.nop, 0, []), (.iconst (-1), 1, []), (.ireturn, 1, [0]), (.aload_n 0, 1, []), (.nop, 0, []), (.nop, 0, []), (.nop, 0, []), (.aload_n 0, 1, []), (.iconst 1, 1, [])],
  [(.nop, 0, []), (.nop, 0, []), (.nop, 0, []), (.istore_n 1, 1, []), (.aload_n 0, 1, []), (.invokevirtual 148, 3, [151, 1, 2, 11]), (.nop, 0, []), (.nop, 0, []), (.iload_n 1, 1, []), (.ireturn, 1, [0])]]
def g_t167 : q_T := [
  [(.aload_n 0, 1, []), (.invokevirtual 493, 3, [131, 1, 2, 11]), (.nop, 0, []), (.nop, 0, []), (.aload_n 0, 1, []), (.invokevirtual 481, 3, [136, 1, 1, 11]), (.nop, 0, []), (.nop, 0, []), (.iconst 0, 1, []), (.istore_n 1, 1, []), (.iconst 0, 1, []), (.istore_n 2, 1, []), (.iload_n 2, 1, []), (.aload_n 0, 1, []), (.getfield 407, 3, [11, 48, 0]), (.nop, 0, [])],
  [(.nop, 0, []), (.if_icmp .ge 35, 3, [52]), (.nop, 0, []), (.nop, 0, []), (.iload_n 1, 1, []), (.aload_n 0, 1, []), (.getfield 84, 3, [11, 58, 3]), (.nop, 0, []), (.nop, 0, []), (.bipush 9, 2, []), (.nop, 0, []), (.iload_n 2, 1, []), (.iadd, 1, []), (.iaload, 1, []), (.iconst 3, 1, []), (.if_icmp .ne 7, 3, [38])],
  [(.nop, 0, []), (.nop, 0, []), (.iconst 1, 1, []), (.goto 4, 3, [39]), (.nop, 0, []), (.nop, 0, []), (.iconst 0, 1, []), (.invokestatic 320, 3, [197, 1, 1]), (.nop, 0, []), (.nop, 0, []), (.iload_n 2, 1, []), (.ishl, 1, []), (.ior, 1, []), (.istore_n 1, 1, []), (.iinc 2 1, 3, []), (.nop, 0, [])],
  [(.nop, 0, []), (.goto (-37), 3, [12]), (.nop, 0, []), (.nop, 0, []), (.iload_n 1, 1, []), (.ireturn, 1, [0])]]
def g_t168 : q_T := [
  [(.iload_n 1, 1, []), (.iconst 2, 1, []), (.isub, 1, []), (.istore_n 2, 1, []), (.iload_n 2, 1, []), (.ifCond .lt 26, 3, [31]), (.nop, 0, []), (.nop, 0, []), (.aload_n 0, 1, []), (.getfield 106, 3, [11, 69, 3]), (.nop, 0, []), (.nop, 0, []), (.iload_n 2, 1, []), (.iaload, 1, []), (.aload_n 0, 1, []), (.getfield 106, 3, [11, 69, 3])],
  [(.nop, 0, []), (.nop, 0, []), (.iload_n 2, 1, []), (.iconst 1, 1, []), (.iadd, 1, []), (.iaload, 1, []), (.if_icmp .le 9, 3, [31]), (.nop, 0, []), (.nop, 0, []), (.iinc 2 (-1), 3, []), (.nop, 0, []), (.nop, 0, []), (.goto (-24), 3, [4]), (.nop, 0, []), (.nop, 0, []), (.iload_n 2, 1, [])],
  [(.ifCond .ge 5, 3, [37]), (.nop, 0, []), (.nop, 0, []), (.iconst 0, 1, []), (.ireturn, 1, [1]), (.iload_n 1, 1, []), (.iconst 1, 1, []), (.isub, 1, []), (.istore_n 3, 1, []), (.aload_n 0, 1, []), (.getfield 106, 3, [11, 69, 3]), (.nop, 0, []), (.nop, 0, []), (.iload_n 3, 1, []), (.iaload, 1, []), (.aload_n 0, 1, [])],
  [(.getfield 106, 3, [11, 69, 3]), (.nop, 0, []), (.nop, 0, []), (.iload_n 2, 1, []), (.iaload, 1, []), (.if_icmp .ge 9, 3, [62]), (.nop, 0, []), (.nop, 0, []), (.iinc 3 (-1), 3, []), (.nop, 0, []), (.nop, 0, []), (.goto (-18), 3, [41]), (.nop, 0, []), (.nop, 0, []), (.aload_n 0, 1, []), (.iload_n 2, 1, [])],
  [(.iload_n 3, 1, []), (.nop, 0, []), (.nop, 0, []), (.nop, 0, []), (.iload_n 2, 1, []), (.iconst 1, 1, []), (.iadd, 1, []), (.istore 4, 2, []), (.nop, 0, []), (.iload_n 1, 1, []), (.iconst 1, 1, []), (.isub, 1, []), (.istore 5, 2, []), (.nop, 0, []), (.iload 4, 2, []), (.nop, 0, [])],
  [(.iload 5, 2, []), (.nop, 0, []), (.if_icmp .ge 20, 3, [102]), (.nop, 0, []), (.nop, 0, []), (.aload_n 0, 1, []), (.iload 4, 2, []), (.nop, 0, []), (.iload 5, 2, []), (.nop, 0, []), (.nop, 0, []), (.nop, 0, []), (.nop, 0, []), (.iinc 4 1, 3, []), (.nop, 0, []), (.nop, 0, [])],
  [(.iinc 5 (-1), 3, []), (.nop, 0, []), (.nop, 0, []), (.goto (-21), 3, [78]), (.nop, 0, []), (.nop, 0, []), (.iconst 1, 1, []), (.ireturn, 1, [1])]]
def g_t169 : q_T := [
  [(.iload_n 1, 1, []), (.iconst 0, 1, []), (.iconst 4, 1, []), (.invokestatic 431, 3, [146, 3, 3]), (.nop, 0, []), (.nop, 0, []), (.ifCond .eq 12, 3, [18]), (.nop, 0, []), (.nop, 0, []), (.iload_n 2, 1, []), (.iconst 0, 1, []), (.iconst 1, 1, []), (.invokestatic 431, 3, [146, 3, 3]), (.nop, 0, []), (.nop, 0, []), (.ifCond .ne 5, 3, [20])],
  [(.nop, 0, []), (.nop, 0, []), (.iconst (-1), 1, []), (.ireturn, 1, [0]), (.bipush 100, 2, []), (.nop, 0, []), (.aload_n 0, 1, []), (.getfield 410, 3, [11, 51, 0]), (.nop, 0, []), (.nop, 0, []), (.isub, 1, []), (.iload_n 1, 1, []), (.invokestatic 584, 3, [172, 2, 4]), (.nop, 0, []), (.nop, 0, []), (.istore_n 3, 1, [])],
  [(.bipush 100, 2, []), (.nop, 0, []), (.iload_n 1, 1, []), (.invokestatic 584, 3, [172, 2, 4]), (.nop, 0, []), (.nop, 0, []), (.istore 4, 2, []), (.nop, 0, []), (.iload 4, 2, []), (.nop, 0, []), (.iload_n 3, 1, []), (.invokestatic 578, 3, [125, 2, 5]), (.nop, 0, []), (.nop, 0, []), (.istore 5, 2, []), (.nop, 0, [])],
  [(.iload_n 2, 1, []), (.ifCond .ne 10, 3, [59]), (.nop, 0, []), (.nop, 0, []), (.iload_n 3, 1, []), (.iload 5, 2, []), (.nop, 0, []), (.idiv, 1, []), (.goto 8, 3, [64]), (.nop, 0, []), (.nop, 0, []), (.iload 4, 2, []), (.nop, 0, []), (.iload 5, 2, []), (.nop, 0, []), (.idiv, 1, [])],
  [(.ireturn, 1, [0])]]
def g_t170 : q_T := [
  [(.aload_n 0, 1, []), (.iconst 0, 1, []), (.invokevirtual 545, 3, [118, 2, 7, 11]), (.nop, 0, []), (.nop, 0, []), (.ireturn, 1, [0])]]
def g_t171 : q_T := [
  [(.aload_n 0, 1, []), (.iload_n 1, 1, []), (.invokevirtual 496, 3, [147, 2, 2, 11]), (.nop, 0, []), (.nop, 0, []), (.ifCond .ne 5, 3, [10]), (.nop, 0, []), (.nop, 0, []), (.iconst (-1), 1, []), (.ireturn, 1, [0]), (.aload_n 0, 1, []), (.invokevirtual 493, 3, [131, 1, 2, 11]), (.nop, 0, []), (.nop, 0, []), (.iload_n 2, 1, []), (.tableswitch 89 0 5 #[37, 44, 51, 58, 68, 74], 37, [104, 52, 59, 66, 73, 83, 89])],
  [(.nop, 0, []), (.nop, 0, []), (.nop, 0, []), (.nop, 0, []), (.nop, 0, []), (.nop, 0, []), (.nop, 0, []), (.nop, 0, []), (.nop, 0, []), (.nop, 0, []), (.nop, 0, []), (.nop, 0, []), (.nop, 0, []), (.nop, 0, []), (.nop, 0, []), (.nop, 0, [])],
  [(.nop, 0, []), (.nop, 0, []), (.nop, 0, []), (.nop, 0, []), (.nop, 0, []), (.nop, 0, []), (.nop, 0, []), (.nop, 0, []), (.nop, 0, []), (.nop, 0, []), (.nop, 0, []), (.nop, 0, []), (.nop, 0, []), (.nop, 0, []), (.nop, 0, []), (.nop, 0, [])],
  [(.nop, 0, []), (.nop, 0, []), (.nop, 0, []), (.nop, 0, []), (.aload_n 0, 1, []), (.getfield 66, 3, [11, 38, 3]), (.nop, 0, []), (.nop, 0, []), (.iload_n 1, 1, []), (.iaload, 1, []), (.ireturn, 1, [0]), (.aload_n 0, 1, []), (.getfield 69, 3, [11, 39, 3]), (.nop, 0, []), (.nop, 0, []), (.iload_n 1, 1, [])],
  [(.iaload, 1, []), (.ireturn, 1, [0]), (.aload_n 0, 1, []), (.getfield 72, 3, [11, 40, 3]), (.nop, 0, []), (.nop, 0, []), (.iload_n 1, 1, []), (.iaload, 1, []), (.ireturn, 1, [0]), (.aload_n 0, 1, []), (.getfield 81, 3, [11, 57, 3]), (.nop, 0, []), (.nop, 0, []), (.bipush 9, 2, []), (.nop, 0, []), (.iload_n 1, 1, [])],
  [(.iadd, 1, []), (.iaload, 1, []), (.ireturn, 1, [0]), (.aload_n 0, 1, []), (.iload_n 1, 1, []), (.nop, 0, []), (.nop, 0, []), (.nop, 0, []), (.ireturn, 1, [0]), (.aload_n 0, 1, []), (.getfield 81, 3, [11, 57, 3]), (.nop, 0, []), (.nop, 0, []), (.bipush 17, 2, []), (.nop, 0, []), (.iaload, 1, [])],
  [(.iload_n 1, 1, []), (.nop, 0, []), (.nop, 0, []), (.nop, 0, []), (.invokestatic 320, 3, [197, 1, 1]), (.nop, 0, []), (.nop, 0, []), (.ireturn, 1, [0]), (.iconst (-1), 1, []), (.ireturn, 1, [0])]]
def g_t172 : q_T := [
  [(.iconst 1, 1, []), (.istore_n 2, 1, []), (.iconst 0, 1, []), (.istore_n 3, 1, []), (.iload_n 3, 1, []), (.iload_n 1, 1, []), (.if_icmp .ge 13, 3, [19]), (.nop, 0, []), (.nop, 0, []), (.iload_n 2, 1, []), (.iload_n 0, 1, []), (.imul, 1, []), (.istore_n 2, 1, []), (.iinc 3 1, 3, []), (.nop, 0, []), (.nop, 0, [])],
  [(.goto (-12), 3, [4]), (.nop, 0, []), (.nop, 0, []), (.iload_n 2, 1, []), (.ireturn, 1, [0])]]
def g_t173 : q_T := [
  [(.aload_n 0, 1, []), (.invokevirtual 401, 3, [179, 1, 1, 11]), (.nop, 0, []), (.nop, 0, []), (.aload_n 0, 1, []), (.getfield 191, 3, [11, 2, 0]), (.nop, 0, []), (.nop, 0, []), (.ifCond .le 5, 3, [13]), (.nop, 0, []), (.nop, 0, []), (.iconst (-1), 1, []), (.ireturn, 1, [0]), (.aload_n 0, 1, []), (.aload_n 0, 1, []), (.getfield 260, 3, [11, 41, 0])],
  [(.nop, 0, []), (.nop, 0, []), (.putfield 404, 3, [11, 47, 0]), (.nop, 0, []), (.nop, 0, []), (.aload_n 0, 1, []), (.aload_n 0, 1, []), (.getfield 359, 3, [11, 42, 0]), (.nop, 0, []), (.nop, 0, []), (.putfield 407, 3, [11, 48, 0]), (.nop, 0, []), (.nop, 0, []), (.aload_n 0, 1, []), (.aload_n 0, 1, []), (.getfield 374, 3, [11, 43, 0])],
  [(.nop, 0, []), (.nop, 0, []), (.putfield 75, 3, [11, 49, 0]), (.nop, 0, []), (.nop, 0, []), (.aload_n 0, 1, []), (.aload_n 0, 1, []), (.getfield 380, 3, [11, 44, 0]), (.nop, 0, []), (.nop, 0, []), (.putfield 78, 3, [11, 50, 0]), (.nop, 0, []), (.nop, 0, []), (.aload_n 0, 1, []), (.aload_n 0, 1, []), (.getfield 389, 3, [11, 45, 0])],
  [(.nop, 0, []), (.nop, 0, []), (.putfield 410, 3, [11, 51, 0]), (.nop, 0, []), (.nop, 0, []), (.aload_n 0, 1, []), (.aload_n 0, 1, []), (.getfield 395, 3, [11, 46, 0]), (.nop, 0, []), (.nop, 0, []), (.putfield 413, 3, [11, 52, 0]), (.nop, 0, []), (.nop, 0, []), (.aload_n 0, 1, []), (.aload_n 0, 1, []), (.getfield 279, 3, [11, 20, 0])],
  [(.nop, 0, []), (.nop, 0, []), (.putfield 416, 3, [11, 21, 0]), (.nop, 0, []), (.nop, 0, []), (.aload_n 0, 1, []), (.aload_n 0, 1, []), (.getfield 301, 3, [11, 24, 1]), (.nop, 0, []), (.nop, 0, []), (.putfield 340, 3, [11, 25, 1]), (.nop, 0, []), (.nop, 0, []), (.aload_n 0, 1, []), (.aload_n 0, 1, []), (.getfield 301, 3, [11, 24, 1])],
  [(.nop, 0, []), (.nop, 0, []), (.ifCond .eq 10, 3, [92]), (.nop, 0, []), (.nop, 0, []), (.aload_n 0, 1, []), (.getfield 263, 3, [11, 17, 0]), (.nop, 0, []), (.nop, 0, []), (.goto 4, 3, [93]), (.nop, 0, []), (.nop, 0, []), (.iconst 0, 1, []), (.putfield 333, 3, [11, 18, 0]), (.nop, 0, []), (.nop, 0, [])],
  [(.iconst 0, 1, []), (.istore_n 1, 1, []), (.iload_n 1, 1, []), (.aload_n 0, 1, []), (.getfield 333, 3, [11, 18, 0]), (.nop, 0, []), (.nop, 0, []), (.if_icmp .ge 33, 3, [136]), (.nop, 0, []), (.nop, 0, []), (.aload_n 0, 1, []), (.getfield 27, 3, [11, 13, 3]), (.nop, 0, []), (.nop, 0, []), (.iload_n 1, 1, []), (.aload_n 0, 1, [])],
  [(.getfield 21, 3, [11, 11, 3]), (.nop, 0, []), (.nop, 0, []), (.iload_n 1, 1, []), (.iaload, 1, []), (.iastore, 1, []), (.aload_n 0, 1, []), (.getfield 30, 3, [11, 14, 3]), (.nop, 0, []), (.nop, 0, []), (.iload_n 1, 1, []), (.aload_n 0, 1, []), (.getfield 24, 3, [11, 12, 3]), (.nop, 0, []), (.nop, 0, []), (.iload_n 1, 1, [])],
  [(.iaload, 1, []), (.iastore, 1, []), (.iinc 1 1, 3, []), (.nop, 0, []), (.nop, 0, []), (.goto (-35), 3, [98]), (.nop, 0, []), (.nop, 0, []), (.iconst 0, 1, []), (.istore_n 1, 1, []), (.iload_n 1, 1, []), (.aload_n 0, 1, []), (.getfield 404, 3, [11, 47, 0]), (.nop, 0, []), (.nop, 0, []), (.if_icmp .ge 33, 3, [176])],
  [(.nop, 0, []), (.nop, 0, []), (.aload_n 0, 1, []), (.getfield 60, 3, [11, 36, 3]), (.nop, 0, []), (.nop, 0, []), (.iload_n 1, 1, []), (.aload_n 0, 1, []), (.getfield 45, 3, [11, 31, 3]), (.nop, 0, []), (.nop, 0, []), (.iload_n 1, 1, []), (.iaload, 1, []), (.iastore, 1, []), (.aload_n 0, 1, []), (.getfield 63, 3, [11, 37, 3])],
  [(.nop, 0, []), (.nop, 0, []), (.iload_n 1, 1, []), (.aload_n 0, 1, []), (.getfield 48, 3, [11, 32, 3]), (.nop, 0, []), (.nop, 0, []), (.iload_n 1, 1, []), (.iaload, 1, []), (.iastore, 1, []), (.iinc 1 1, 3, []), (.nop, 0, []), (.nop, 0, []), (.goto (-35), 3, [138]), (.nop, 0, []), (.nop, 0, [])],
  [(.iconst 0, 1, []), (.istore_n 1, 1, []), (.iload_n 1, 1, []), (.aload_n 0, 1, []), (.getfield 407, 3, [11, 48, 0]), (.nop, 0, []), (.nop, 0, []), (.if_icmp .ge 45, 3, [228]), (.nop, 0, []), (.nop, 0, []), (.aload_n 0, 1, []), (.getfield 66, 3, [11, 38, 3]), (.nop, 0, []), (.nop, 0, []), (.iload_n 1, 1, []), (.aload_n 0, 1, [])],
  [(.getfield 51, 3, [11, 33, 3]), (.nop, 0, []), (.nop, 0, []), (.iload_n 1, 1, []), (.iaload, 1, []), (.iastore, 1, []), (.aload_n 0, 1, []), (.getfield 69, 3, [11, 39, 3]), (.nop, 0, []), (.nop, 0, []), (.iload_n 1, 1, []), (.aload_n 0, 1, []), (.getfield 54, 3, [11, 34, 3]), (.nop, 0, []), (.nop, 0, []), (.iload_n 1, 1, [])],
  [(.iaload, 1, []), (.iastore, 1, []), (.aload_n 0, 1, []), (.getfield 72, 3, [11, 40, 3]), (.nop, 0, []), (.nop, 0, []), (.iload_n 1, 1, []), (.aload_n 0, 1, []), (.getfield 57, 3, [11, 35, 3]), (.nop, 0, []), (.nop, 0, []), (.iload_n 1, 1, []), (.iaload, 1, []), (.iastore, 1, []), (.iinc 1 1, 3, []), (.nop, 0, [])],
  [(.nop, 0, []), (.goto (-47), 3, [178]), (.nop, 0, []), (.nop, 0, []), (.aload_n 0, 1, []), (.invokevirtual 145, 3, [156, 1, 2, 11]), (.nop, 0, []), (.nop, 0, []), (.aload_n 0, 1, []), (.invokevirtual 148, 3, [151, 1, 2, 11]), (.nop, 0, []), (.nop, 0, []), (.aload_n 0, 1, []), (.iconst 0, 1, []), (.putfield 419, 3, [11, 66, 0]), (.nop, 0, [])],
  [(.nop, 0, []), (.aload_n 0, 1, []), (.iconst 0, 1, []), (.putfield 422, 3, [11, 67, 0]), (.nop, 0, []), (.nop, 0, []), (.aload_n 0, 1, []), (.iconst 0, 1, []), (.putfield 425, 3, [11, 78, 0]), (.nop, 0, []), (.nop, 0, []), (.aload_n 0, 1, []), (.iconst 0, 1, []), (.putfield 428, 3, [11, 70, 0]), (.nop, 0, []), (.nop, 0, [])],
  [(.iconst 0, 1, []), (.istore_n 1, 1, []), (.iload_n 1, 1, []), (.iconst 3, 1, []), (.if_icmp .ge 16, 3, [276]), (.nop, 0, []), (.nop, 0, []), (.aload_n 0, 1, []), (.getfield 139, 3, [11, 83, 3]), (.nop, 0, []), (.nop, 0, []), (.iload_n 1, 1, []), (.iconst 0, 1, []), (.bastore, 1, []), (.iinc 1 1, 3, []), (.nop, 0, [])],
  [(.nop, 0, []), (.goto (-15), 3, [258]), (.nop, 0, []), (.nop, 0, []), (.aload_n 0, 1, []), (.getfield 407, 3, [11, 48, 0]), (.nop, 0, []), (.nop, 0, []), (.ireturn, 1, [0])]]
def g_t174 : q_T := [
  [(.iload_n 1, 1, []), (.iconst 0, 1, []), (.aload_n 0, 1, []), (.getfield 81, 3, [11, 57, 3]), (.nop, 0, []), (.nop, 0, []), (.bipush 8, 2, []), (.nop, 0, []), (.iaload, 1, []), (.iconst 1, 1, []), (.isub, 1, []), (.invokestatic 431, 3, [146, 3, 3]), (.nop, 0, []), (.nop, 0, []), (.ifCond .eq 12, 3, [26]), (.nop, 0, [])],
  [(.nop, 0, []), (.aload_n 0, 1, []), (.getfield 81, 3, [11, 57, 3]), (.nop, 0, []), (.nop, 0, []), (.iload_n 1, 1, []), (.iaload, 1, []), (.goto 4, 3, [27]), (.nop, 0, []), (.nop, 0, []), (.iconst (-1), 1, []), (.ireturn, 1, [0])]]
def g_t175 : q_T := [
  [(.aload_n 0, 1, []), (.getfield 84, 3, [11, 58, 3]), (.nop, 0, []), (.nop, 0, []), (.bipush 8, 2, []), (.nop, 0, []), (.iaload, 1, []), (.ireturn, 1, [0])]]
def g_t176 : q_T := [
  [(.iconst 0, 1, []), (.istore_n 1, 1, []), (.iconst 0, 1, []), (.istore_n 2, 1, []), (.iload_n 2, 1, []), (.aload_n 0, 1, []), (.getfield 407, 3, [11, 48, 0]), (.nop, 0, []), (.nop, 0, []), (.if_icmp .ge 22, 3, [31]), (.nop, 0, []), (.nop, 0, []), (.iload_n 1, 1, []), (.aload_n 0, 1, []), (.iload_n 2, 1, []), (.invokevirtual 502, 3, [148, 2, 2, 11])],
  [(.nop, 0, []), (.nop, 0, []), (.invokestatic 320, 3, [197, 1, 1]), (.nop, 0, []), (.nop, 0, []), (.iload_n 2, 1, []), (.ishl, 1, []), (.ior, 1, []), (.istore_n 1, 1, []), (.iinc 2 1, 3, []), (.nop, 0, []), (.nop, 0, []), (.goto (-24), 3, [4]), (.nop, 0, []), (.nop, 0, []), (.iload_n 1, 1, [])],
  [(.ireturn, 1, [0])]]
def g_t177 : q_T := [
  [(.iload_n 1, 1, []), (.iconst 0, 1, []), (.aload_n 0, 1, []), (.getfield 78, 3, [11, 50, 0]), (.nop, 0, []), (.nop, 0, []), (.iconst 1, 1, []), (.isub, 1, []), (.invokestatic 431, 3, [146, 3, 3]), (.nop, 0, []), (.nop, 0, []), (.ifCond .ne 7, 3, [18]), (.nop, 0, []), (.nop, 0, []), (.iconst (-1), 1, []), (.goto 37, 3, [52])],
  [(.nop, 0, []), (.nop, 0, []), (.iload_n 2, 1, []), (.ifCond .ne 15, 3, [34]), (.nop, 0, []), (.nop, 0, []), (.aload_n 0, 1, []), (.getfield 81, 3, [11, 57, 3]), (.nop, 0, []), (.nop, 0, []), (.bipush 18, 2, []), (.nop, 0, []), (.iload_n 1, 1, []), (.iadd, 1, []), (.iaload, 1, []), (.goto 21, 3, [52])],
  [(.nop, 0, []), (.nop, 0, []), (.iload_n 2, 1, []), (.iconst 1, 1, []), (.if_icmp .ne 15, 3, [51]), (.nop, 0, []), (.nop, 0, []), (.aload_n 0, 1, []), (.getfield 81, 3, [11, 57, 3]), (.nop, 0, []), (.nop, 0, []), (.bipush 21, 2, []), (.nop, 0, []), (.iload_n 1, 1, []), (.iadd, 1, []), (.iaload, 1, [])],
  [(.goto 4, 3, [52]), (.nop, 0, []), (.nop, 0, []), (.iconst (-1), 1, []), (.ireturn, 1, [0])]]
def g_t178 : q_T := [
  [(.iconst 0, 1, []), (.istore_n 1, 1, []), (.iconst 0, 1, []), (.istore_n 2, 1, []), (.iload_n 2, 1, []), (.aload_n 0, 1, []), (.getfield 407, 3, [11, 48, 0]), (.nop, 0, []), (.nop, 0, []), (.if_icmp .ge 35, 3, [44]), (.nop, 0, []), (.nop, 0, []), (.iload_n 1, 1, []), (.aload_n 0, 1, []), (.getfield 81, 3, [11, 57, 3]), (.nop, 0, [])],
  [(.nop, 0, []), (.bipush 9, 2, []), (.nop, 0, []), (.iload_n 2, 1, []), (.iadd, 1, []), (.iaload, 1, []), (.iconst 1, 1, []), (.if_icmp .ne 7, 3, [30]), (.nop, 0, []), (.nop, 0, []), (.iconst 1, 1, []), (.goto 4, 3, [31]), (.nop, 0, []), (.nop, 0, []), (.iconst 0, 1, []), (.invokestatic 320, 3, [197, 1, 1])],
  [(.nop, 0, []), (.nop, 0, []), (.iload_n 2, 1, []), (.ishl, 1, []), (.ior, 1, []), (.istore_n 1, 1, []), (.iinc 2 1, 3, []), (.nop, 0, []), (.nop, 0, []), (.goto (-37), 3, [4]), (.nop, 0, []), (.nop, 0, []), (.iload_n 1, 1, []), (.ireturn, 1, [0])]]
def g_t179 : q_T := [
  [(.aload_n 0, 1, []), (.aload_n 0, 1, []), (.getfield 151, 3, [11, 1, 0]), (.nop, 0, []), (.nop, 0, []), (.putfield 161, 3, [11, 5, 0]), (.nop, 0, []), (.nop, 0, []), (.aload_n 0, 1, []), (.iconst 0, 1, []), (.putfield 151, 3, [11, 1, 0]), (.nop, 0, []), (.nop, 0, []), (.aload_n 0, 1, []), (.iconst 0, 1, []), (.putfield 158, 3, [11, 4, 0])],
  [(.nop, 0, []), (.nop, 0, []), (.aload_n 0, 1, []), (.iconst 0, 1, []), (.putfield 191, 3, [11, 2, 0]), (.nop, 0, []), (.nop, 0, []), (.aload_n 0, 1, []), (.iconst (-1), 1, []), (.putfield 13, 3, [11, 3, 0]), (.nop, 0, []), (.nop, 0, []), (.aload_n 0, 1, []), (.iconst 0, 1, []), (.putfield 260, 3, [11, 41, 0]), (.nop, 0, [])],
  [(.nop, 0, []), (.aload_n 0, 1, []), (.iconst 0, 1, []), (.putfield 359, 3, [11, 42, 0]), (.nop, 0, []), (.nop, 0, []), (.aload_n 0, 1, []), (.bipush 11, 2, []), (.nop, 0, []), (.putfield 374, 3, [11, 43, 0]), (.nop, 0, []), (.nop, 0, []), (.aload_n 0, 1, []), (.iconst 1, 1, []), (.putfield 380, 3, [11, 44, 0]), (.nop, 0, [])],
  [(.nop, 0, []), (.aload_n 0, 1, []), (.iconst 0, 1, []), (.putfield 389, 3, [11, 45, 0]), (.nop, 0, []), (.nop, 0, []), (.aload_n 0, 1, []), (.iconst 0, 1, []), (.putfield 395, 3, [11, 46, 0]), (.nop, 0, []), (.nop, 0, []), (.aload_n 0, 1, []), (.iconst 0, 1, []), (.putfield 371, 3, [11, 53, 1]), (.nop, 0, []), (.nop, 0, [])],
  [(.aload_n 0, 1, []), (.iconst 0, 1, []), (.putfield 377, 3, [11, 54, 1]), (.nop, 0, []), (.nop, 0, []), (.aload_n 0, 1, []), (.iconst 0, 1, []), (.putfield 386, 3, [11, 55, 1]), (.nop, 0, []), (.nop, 0, []), (.aload_n 0, 1, []), (.iconst 0, 1, []), (.putfield 392, 3, [11, 56, 1]), (.nop, 0, []), (.nop, 0, []), (.aload_n 0, 1, [])],
  [(.iconst 0, 1, []), (.putfield 301, 3, [11, 24, 1]), (.nop, 0, []), (.nop, 0, []), (.aload_n 0, 1, []), (.iconst 0, 1, []), (.putfield 279, 3, [11, 20, 0]), (.nop, 0, []), (.nop, 0, []), (.aload_n 0, 1, []), (.invokevirtual 239, 3, [195, 1, 3, 11]), (.nop, 0, []), (.nop, 0, []), (.aload_n 0, 1, []), (.getfield 191, 3, [11, 2, 0]), (.nop, 0, [])],
  [(.nop, 0, []), (.ifCond .ne 17, 3, [114]), (.nop, 0, []), (.nop, 0, []), (.aload_n 0, 1, []), (.getfield 178, 3, [11, 6, 0]), (.nop, 0, []), (.nop, 0, []), (.ifCond .eq 10, 3, [114]), (.nop, 0, []), (.nop, 0, []), (.aload_n 0, 1, []), (.nop, 0, []), (.nop, 0, []), (.nop, 0, []), (.goto (-18), 3, [93])],
  [(.nop, 0, []), (.nop, 0, []), (.return_, 1, [])]]
def g_t180 : q_T := [
  [(.aload_n 0, 1, []), (.getfield 422, 3, [11, 67, 0]), (.nop, 0, []), (.nop, 0, []), (.ifCond .ne 5, 3, [9]), (.nop, 0, []), (.nop, 0, []), (.iconst 0, 1, []), (.ireturn, 1, [1]), (.aload_n 0, 1, []), (.bipush 28, 2, []), (.nop, 0, []), (.aload_n 0, 1, []), (.getfield 419, 3, [11, 66, 0]), (.nop, 0, []), (.nop, 0, [])],
  [(.imul, 1, []), (.nop, 0, []), (.nop, 0, []), (.nop, 0, []), (.aload_n 0, 1, []), (.dup, 1, []), (.getfield 419, 3, [11, 66, 0]), (.nop, 0, []), (.nop, 0, []), (.iconst 1, 1, []), (.iadd, 1, []), (.putfield 419, 3, [11, 66, 0]), (.nop, 0, []), (.nop, 0, []), (.aload_n 0, 1, []), (.dup, 1, [])],
  [(.getfield 422, 3, [11, 67, 0]), (.nop, 0, []), (.nop, 0, []), (.iconst 1, 1, []), (.isub, 1, []), (.putfield 422, 3, [11, 67, 0]), (.nop, 0, []), (.nop, 0, []), (.iconst 1, 1, []), (.ireturn, 1, [1])]]
def g_t181 : q_T := [
  [(.aload_n 0, 1, []), (.iconst 0, 1, []), (.invokevirtual 581, 3, [182, 2, 3, 11]), (.nop, 0, []), (.nop, 0, []), (.istore_n 1, 1, []), (.iconst 0, 1, []), (.istore_n 2, 1, []), (.iconst 1, 1, []), (.istore_n 3, 1, []), (.iload_n 3, 1, []), (.bipush 60, 2, []), (.nop, 0, []), (.if_icmp .gt 27, 3, [40]), (.nop, 0, []), (.nop, 0, [])],
  [(.iload_n 1, 1, []), (.aload_n 0, 1, []), (.iload_n 3, 1, []), (.invokevirtual 581, 3, [182, 2, 3, 11]), (.nop, 0, []), (.nop, 0, []), (.iconst (-1), 1, []), (.ixor, 1, []), (.iand, 1, []), (.ifCond .ne 7, 3, [32]), (.nop, 0, []), (.nop, 0, []), (.iload_n 3, 1, []), (.goto 4, 3, [33]), (.nop, 0, []), (.nop, 0, [])],
  [(.iload_n 2, 1, []), (.istore_n 2, 1, []), (.iinc 3 1, 3, []), (.nop, 0, []), (.nop, 0, []), (.goto (-27), 3, [10]), (.nop, 0, []), (.nop, 0, []), (.iload_n 2, 1, []), (.ireturn, 1, [0])]]
def g_t182 : q_T := [
  [(.aload_n 0, 1, []), (.invokevirtual 493, 3, [131, 1, 2, 11]), (.nop, 0, []), (.nop, 0, []), (.aload_n 0, 1, []), (.iload_n 1, 1, []), (.putfield 441, 3, [11, 59, 0]), (.nop, 0, []), (.nop, 0, []), (.iconst 0, 1, []), (.istore_n 2, 1, []), (.iload_n 2, 1, []), (.aload_n 0, 1, []), (.getfield 78, 3, [11, 50, 0]), (.nop, 0, []), (.nop, 0, [])],
  [(.if_icmp .ge 47, 3, [63]), (.nop, 0, []), (.nop, 0, []), (.aload_n 0, 1, []), (.getfield 87, 3, [11, 60, 3]), (.nop, 0, []), (.nop, 0, []), (.iload_n 2, 1, []), (.aload_n 0, 1, []), (.iload_n 2, 1, []), (.invokevirtual 465, 3, [145, 2, 2, 11]), (.nop, 0, []), (.nop, 0, []), (.ifCond .eq 7, 3, [36]), (.nop, 0, []), (.nop, 0, [])],
  [(.iload_n 1, 1, []), (.goto 4, 3, [37]), (.nop, 0, []), (.nop, 0, []), (.iconst 0, 1, []), (.iastore, 1, []), (.aload_n 0, 1, []), (.getfield 90, 3, [11, 61, 3]), (.nop, 0, []), (.nop, 0, []), (.iload_n 2, 1, []), (.aload_n 0, 1, []), (.iload_n 2, 1, []), (.invokevirtual 465, 3, [145, 2, 2, 11]), (.nop, 0, []), (.nop, 0, [])],
  [(.ifCond .ne 7, 3, [55]), (.nop, 0, []), (.nop, 0, []), (.iconst 1, 1, []), (.goto 4, 3, [56]), (.nop, 0, []), (.nop, 0, []), (.iconst 0, 1, []), (.bastore, 1, []), (.iinc 2 1, 3, []), (.nop, 0, []), (.nop, 0, []), (.goto (-49), 3, [11]), (.nop, 0, []), (.nop, 0, []), (.aload_n 0, 1, [])],
  [(.invokevirtual 481, 3, [136, 1, 1, 11]), (.nop, 0, []), (.nop, 0, []), (.aload_n 0, 1, []), (.invokevirtual 484, 3, [183, 1, 3, 11]), (.nop, 0, []), (.nop, 0, []), (.ireturn, 1, [0])]]
def g_t183 : q_T := [
  [(.iconst 0, 1, []), (.istore_n 1, 1, []), (.iconst 0, 1, []), (.istore_n 2, 1, []), (.iload_n 2, 1, []), (.bipush 7, 2, []), (.nop, 0, []), (.if_icmp .gt 35, 3, [42]), (.nop, 0, []), (.nop, 0, []), (.iload_n 1, 1, []), (.aload_n 0, 1, []), (.getfield 84, 3, [11, 58, 3]), (.nop, 0, []), (.nop, 0, []), (.bipush 9, 2, [])],
  [(.nop, 0, []), (.iload_n 2, 1, []), (.iadd, 1, []), (.iaload, 1, []), (.iconst 2, 1, []), (.if_icmp .ne 7, 3, [28]), (.nop, 0, []), (.nop, 0, []), (.iconst 1, 1, []), (.goto 4, 3, [29]), (.nop, 0, []), (.nop, 0, []), (.iconst 0, 1, []), (.invokestatic 320, 3, [197, 1, 1]), (.nop, 0, []), (.nop, 0, [])],
  [(.iload_n 2, 1, []), (.ishl, 1, []), (.ior, 1, []), (.istore_n 1, 1, []), (.iinc 2 1, 3, []), (.nop, 0, []), (.nop, 0, []), (.goto (-35), 3, [4]), (.nop, 0, []), (.nop, 0, []), (.iload_n 1, 1, []), (.ireturn, 1, [0])]]
def g_t184 : q_T := [
  [(.aload_n 0, 1, []), (.iload_n 1, 1, []), (.invokevirtual 496, 3, [147, 2, 2, 11]), (.nop, 0, []), (.nop, 0, []), (.ifCond .ne 5, 3, [10]), (.nop, 0, []), (.nop, 0, []), (.iconst (-1), 1, []), (.ireturn, 1, [0]), (.aload_n 0, 1, []), (.invokevirtual 493, 3, [131, 1, 2, 11]), (.nop, 0, []), (.nop, 0, []), (.aload_n 0, 1, []), (.invokevirtual 481, 3, [136, 1, 1, 11])],
  [(.nop, 0, []), (.nop, 0, []), (.aload_n 0, 1, []), (.iload_n 1, 1, []), (.nop, 0, []), (.nop, 0, []), (.nop, 0, []), (.nop, 0, []), (.nop, 0, []), (.nop, 0, []), (.ireturn, 1, [0])]]
def g_t185 : q_T := [
  [(.aload_n 0, 1, []), (.invokevirtual 493, 3, [131, 1, 2, 11]), (.nop, 0, []), (.nop, 0, []), (.aload_n 0, 1, []), (.iconst 3, 1, []), (.aload_n 0, 1, []), (.getfield 78, 3, [11, 50, 0]), (.nop, 0, []), (.nop, 0, []), (.iconst 1, 1, []), (.iadd, 1, []), (.invokestatic 330, 3, [159, 2, 2]), (.nop, 0, []), (.nop, 0, []), (.putfield 438, 3, [11, 28, 0])],
  [(.nop, 0, []), (.nop, 0, []), (.aload_n 0, 1, []), (.invokevirtual 533, 3, [122, 1, 1, 11]), (.nop, 0, []), (.nop, 0, []), (.ireturn, 1, [0])]]
def g_t186 : q_T := [
  [(.iload_n 1, 1, []), (.iconst 0, 1, []), (.bipush 60, 2, []), (.nop, 0, []), (.invokestatic 431, 3, [146, 3, 3]), (.nop, 0, []), (.nop, 0, []), (.ifCond .eq 29, 3, [36]), (.nop, 0, []), (.nop, 0, []), (.iload_n 2, 1, []), (.iconst 0, 1, []), (.bipush 7, 2, []), (.nop, 0, []), (.invokestatic 431, 3, [146, 3, 3]), (.nop, 0, [])],
  [(.nop, 0, []), (.ifCond .eq 19, 3, [36]), (.nop, 0, []), (.nop, 0, []), (.aload_n 0, 1, []), (.getfield 407, 3, [11, 48, 0]), (.nop, 0, []), (.nop, 0, []), (.ifCond .eq 12, 3, [36]), (.nop, 0, []), (.nop, 0, []), (.aload_n 0, 1, []), (.getfield 425, 3, [11, 78, 0]), (.nop, 0, []), (.nop, 0, []), (.bipush 30, 2, [])],
  [(.nop, 0, []), (.if_icmp .ne 5, 3, [38]), (.nop, 0, []), (.nop, 0, []), (.iconst (-1), 1, []), (.ireturn, 1, [0]), (.aload_n 0, 1, []), (.getfield 115, 3, [11, 73, 3]), (.nop, 0, []), (.nop, 0, []), (.aload_n 0, 1, []), (.getfield 425, 3, [11, 78, 0]), (.nop, 0, []), (.nop, 0, []), (.iload_n 1, 1, []), (.iastore, 1, [])],
  [(.aload_n 0, 1, []), (.getfield 118, 3, [11, 74, 3]), (.nop, 0, []), (.nop, 0, []), (.aload_n 0, 1, []), (.getfield 425, 3, [11, 78, 0]), (.nop, 0, []), (.nop, 0, []), (.iload_n 2, 1, []), (.iastore, 1, []), (.aload_n 0, 1, []), (.getfield 127, 3, [11, 77, 3]), (.nop, 0, []), (.nop, 0, []), (.aload_n 0, 1, []), (.getfield 425, 3, [11, 78, 0])],
  [(.nop, 0, []), (.nop, 0, []), (.iload_n 3, 1, []), (.bastore, 1, []), (.aload_n 0, 1, []), (.getfield 121, 3, [11, 75, 3]), (.nop, 0, []), (.nop, 0, []), (.aload_n 0, 1, []), (.getfield 425, 3, [11, 78, 0]), (.nop, 0, []), (.nop, 0, []), (.aload_n 0, 1, []), (.getfield 587, 3, [11, 79, 0]), (.nop, 0, []), (.nop, 0, [])],
  [(.iastore, 1, []), (.aload_n 0, 1, []), (.getfield 124, 3, [11, 76, 3]), (.nop, 0, []), (.nop, 0, []), (.aload_n 0, 1, []), (.getfield 425, 3, [11, 78, 0]), (.nop, 0, []), (.nop, 0, []), (.iconst (-1), 1, []), (.iastore, 1, []), (.aload_n 0, 1, []), (.dup, 1, []), (.getfield 425, 3, [11, 78, 0]), (.nop, 0, []), (.nop, 0, [])],
  [(.iconst 1, 1, []), (.iadd, 1, []), (.putfield 425, 3, [11, 78, 0]), (.nop, 0, []), (.nop, 0, []), (.aload_n 0, 1, []), (.getfield 425, 3, [11, 78, 0]), (.nop, 0, []), (.nop, 0, []), (.iconst 1, 1, []), (.isub, 1, []), (.ireturn, 1, [0])]]
def g_t187 : q_T := [
  [(.aload_n 0, 1, []), (.iload_n 1, 1, []), (.invokevirtual 490, 3, [149, 2, 2, 11]), (.nop, 0, []), (.nop, 0, []), (.ifCond .ne 5, 3, [10]), (.nop, 0, []), (.nop, 0, []), (.iconst (-1), 1, []), (.ireturn, 1, [0]), (.aload_n 0, 1, []), (.invokevirtual 493, 3, [131, 1, 2, 11]), (.nop, 0, []), (.nop, 0, []), (.iconst 0, 1, []), (.istore_n 3, 1, [])],
  [(.iconst 0, 1, []), (.istore 4, 2, []), (.nop, 0, []), (.iload 4, 2, []), (.nop, 0, []), (.aload_n 0, 1, []), (.getfield 407, 3, [11, 48, 0]), (.nop, 0, []), (.nop, 0, []), (.if_icmp .ge 34, 3, [59]), (.nop, 0, []), (.nop, 0, []), (.iload_n 3, 1, []), (.aload_n 0, 1, []), (.getfield 66, 3, [11, 38, 3]), (.nop, 0, [])],
  [(.nop, 0, []), (.iload 4, 2, []), (.nop, 0, []), (.iaload, 1, []), (.iload_n 1, 1, []), (.if_icmp .ne 7, 3, [44]), (.nop, 0, []), (.nop, 0, []), (.iconst 1, 1, []), (.goto 4, 3, [45]), (.nop, 0, []), (.nop, 0, []), (.iconst 0, 1, []), (.invokestatic 320, 3, [197, 1, 1]), (.nop, 0, []), (.nop, 0, [])],
  [(.iload 4, 2, []), (.nop, 0, []), (.ishl, 1, []), (.ior, 1, []), (.istore_n 3, 1, []), (.iinc 4 1, 3, []), (.nop, 0, []), (.nop, 0, []), (.goto (-37), 3, [19]), (.nop, 0, []), (.nop, 0, []), (.iload_n 2, 1, []), (.tableswitch 75 0 4 #[36, 42, 49, 64, 73], 36, [135, 96, 102, 109, 124, 133]), (.nop, 0, []), (.nop, 0, []), (.nop, 0, [])],
  [(.nop, 0, []), (.nop, 0, []), (.nop, 0, []), (.nop, 0, []), (.nop, 0, []), (.nop, 0, []), (.nop, 0, []), (.nop, 0, []), (.nop, 0, []), (.nop, 0, []), (.nop, 0, []), (.nop, 0, []), (.nop, 0, []), (.nop, 0, []), (.nop, 0, []), (.nop, 0, [])],
  [(.nop, 0, []), (.nop, 0, []), (.nop, 0, []), (.nop, 0, []), (.nop, 0, []), (.nop, 0, []), (.nop, 0, []), (.nop, 0, []), (.nop, 0, []), (.nop, 0, []), (.nop, 0, []), (.nop, 0, []), (.nop, 0, []), (.nop, 0, []), (.nop, 0, []), (.nop, 0, [])],
  [(.aload_n 0, 1, []), (.iload_n 1, 1, []), (.nop, 0, []), (.nop, 0, []), (.nop, 0, []), (.ireturn, 1, [0]), (.aload_n 0, 1, []), (.getfield 63, 3, [11, 37, 3]), (.nop, 0, []), (.nop, 0, []), (.iload_n 1, 1, []), (.iaload, 1, []), (.ireturn, 1, [0]), (.aload_n 0, 1, []), (.getfield 81, 3, [11, 57, 3]), (.nop, 0, [])],
  [(.nop, 0, []), (.bipush 24, 2, []), (.nop, 0, []), (.iaload, 1, []), (.iload_n 1, 1, []), (.nop, 0, []), (.nop, 0, []), (.nop, 0, []), (.invokestatic 320, 3, [197, 1, 1]), (.nop, 0, []), (.nop, 0, []), (.ireturn, 1, [0]), (.aload_n 0, 1, []), (.iload_n 1, 1, []), (.nop, 0, []), (.nop, 0, [])],
  [(.nop, 0, []), (.invokestatic 320, 3, [197, 1, 1]), (.nop, 0, []), (.nop, 0, []), (.ireturn, 1, [0]), (.iload_n 3, 1, []), (.ireturn, 1, [0]), (.iconst (-1), 1, []), (.ireturn, 1, [0])]]
def g_t188 : q_T := [
  [(.aload_n 0, 1, []), (.iload_n 1, 1, []), (.invokevirtual 502, 3, [148, 2, 2, 11]), (.nop, 0, []), (.nop, 0, []), (.ifCond .eq 25, 3, [30]), (.nop, 0, []), (.nop, 0, []), (.aload_n 0, 1, []), (.getfield 81, 3, [11, 57, 3]), (.nop, 0, []), (.nop, 0, []), (.bipush 17, 2, []), (.nop, 0, []), (.iaload, 1, []), (.iload_n 1, 1, [])],
  [(.nop, 0, []), (.nop, 0, []), (.nop, 0, []), (.ifCond .ne 11, 3, [30]), (.nop, 0, []), (.nop, 0, []), (.aload_n 0, 1, []), (.iload_n 1, 1, []), (.nop, 0, []), (.nop, 0, []), (.nop, 0, []), (.goto 4, 3, [31]), (.nop, 0, []), (.nop, 0, []), (.iconst (-1), 1, []), (.ireturn, 1, [0])]]
def g_t189 : q_T := [
  [(.iload_n 1, 1, []), (.iconst 0, 1, []), (.iconst 1, 1, []), (.invokestatic 431, 3, [146, 3, 3]), (.nop, 0, []), (.nop, 0, []), (.ifCond .ne 5, 3, [11]), (.nop, 0, []), (.nop, 0, []), (.iconst (-1), 1, []), (.ireturn, 1, [0]), (.aload_n 0, 1, []), (.invokevirtual 548, 3, [176, 1, 3, 11]), (.nop, 0, []), (.nop, 0, []), (.aload_n 0, 1, [])],
  [(.getfield 81, 3, [11, 57, 3]), (.nop, 0, []), (.nop, 0, []), (.bipush 17, 2, []), (.nop, 0, []), (.iaload, 1, []), (.iconst (-1), 1, []), (.ixor, 1, []), (.iand, 1, []), (.istore_n 2, 1, []), (.iconst (-1), 1, []), (.istore_n 3, 1, []), (.iconst 0, 1, []), (.istore 4, 2, []), (.nop, 0, []), (.iload 4, 2, [])],
  [(.nop, 0, []), (.iload_n 2, 1, []), (.if_icmp .gt 72, 3, [106]), (.nop, 0, []), (.nop, 0, []), (.iload 4, 2, []), (.nop, 0, []), (.iload_n 2, 1, []), (.iconst (-1), 1, []), (.ixor, 1, []), (.iand, 1, []), (.ifCond .ne 57, 3, [100]), (.nop, 0, []), (.nop, 0, []), (.iload_n 3, 1, []), (.ifCond .lt 18, 3, [65])],
  [(.nop, 0, []), (.nop, 0, []), (.iload 4, 2, []), (.nop, 0, []), (.invokestatic 487, 3, [165, 1, 3]), (.nop, 0, []), (.nop, 0, []), (.iload_n 3, 1, []), (.invokestatic 487, 3, [165, 1, 3]), (.nop, 0, []), (.nop, 0, []), (.if_icmp .lt 6, 3, [65]), (.nop, 0, []), (.nop, 0, []), (.goto 38, 3, [100]), (.nop, 0, [])],
  [(.nop, 0, []), (.aload_n 0, 1, []), (.invokevirtual 493, 3, [131, 1, 2, 11]), (.nop, 0, []), (.nop, 0, []), (.aload_n 0, 1, []), (.getfield 84, 3, [11, 58, 3]), (.nop, 0, []), (.nop, 0, []), (.bipush 17, 2, []), (.nop, 0, []), (.dup2, 1, []), (.iaload, 1, []), (.iload 4, 2, []), (.nop, 0, []), (.ior, 1, [])],
  [(.iastore, 1, []), (.aload_n 0, 1, []), (.aload_n 0, 1, []), (.invokevirtual 548, 3, [176, 1, 3, 11]), (.nop, 0, []), (.nop, 0, []), (.aload_n 0, 1, []), (.invokevirtual 551, 3, [178, 1, 3, 11]), (.nop, 0, []), (.nop, 0, []), (.ior, 1, []), (.invokevirtual 554, 3, [126, 2, 2, 11]), (.nop, 0, []), (.nop, 0, []), (.ifCond .eq 6, 3, [100]), (.nop, 0, [])],
  [(.nop, 0, []), (.iload 4, 2, []), (.nop, 0, []), (.istore_n 3, 1, []), (.iinc 4 1, 3, []), (.nop, 0, []), (.nop, 0, []), (.goto (-72), 3, [31]), (.nop, 0, []), (.nop, 0, []), (.iload_n 3, 1, []), (.ifCond .ge 7, 3, [114]), (.nop, 0, []), (.nop, 0, []), (.iconst (-1), 1, []), (.goto 15, 3, [126])],
  [(.nop, 0, []), (.nop, 0, []), (.iload_n 1, 1, []), (.ifCond .ne 10, 3, [125]), (.nop, 0, []), (.nop, 0, []), (.iload_n 3, 1, []), (.invokestatic 487, 3, [165, 1, 3]), (.nop, 0, []), (.nop, 0, []), (.goto 4, 3, [126]), (.nop, 0, []), (.nop, 0, []), (.iload_n 3, 1, []), (.ireturn, 1, [0])]]
def g_t190 : q_T := [
  [(.aload_n 0, 1, []), (.invokevirtual 493, 3, [131, 1, 2, 11]), (.nop, 0, []), (.nop, 0, []), (.iconst (-1), 1, []), (.istore_n 1, 1, []), (.iconst 0, 1, []), (.istore_n 2, 1, []), (.iload_n 2, 1, []), (.aload_n 0, 1, []), (.getfield 404, 3, [11, 47, 0]), (.nop, 0, []), (.nop, 0, []), (.if_icmp .ge 36, 3, [49]), (.nop, 0, []), (.nop, 0, [])],
  [(.aload_n 0, 1, []), (.iload_n 2, 1, []), (.nop, 0, []), (.nop, 0, []), (.nop, 0, []), (.ifCond .ne 22, 3, [43]), (.nop, 0, []), (.nop, 0, []), (.iload_n 1, 1, []), (.ifCond .lt 16, 3, [41]), (.nop, 0, []), (.nop, 0, []), (.aload_n 0, 1, []), (.iload_n 2, 1, []), (.nop, 0, []), (.nop, 0, [])],
  [(.nop, 0, []), (.aload_n 0, 1, []), (.iload_n 1, 1, []), (.nop, 0, []), (.nop, 0, []), (.nop, 0, []), (.if_icmp .ge 5, 3, [43]), (.nop, 0, []), (.nop, 0, []), (.iload_n 2, 1, []), (.istore_n 1, 1, []), (.iinc 2 1, 3, []), (.nop, 0, []), (.nop, 0, []), (.goto (-38), 3, [8]), (.nop, 0, [])],
  [(.nop, 0, []), (.iload_n 1, 1, []), (.ireturn, 1, [0])]]
def g_t191 : q_T := [
  [(.iload_n 1, 1, []), (.iconst 0, 1, []), (.iconst 1, 1, []), (.invokestatic 431, 3, [146, 3, 3]), (.nop, 0, []), (.nop, 0, []), (.ifCond .ne 5, 3, [11]), (.nop, 0, []), (.nop, 0, []), (.iconst (-1), 1, []), (.ireturn, 1, [0]), (.aload_n 0, 1, []), (.invokevirtual 548, 3, [176, 1, 3, 11]), (.nop, 0, []), (.nop, 0, []), (.istore_n 2, 1, [])],
  [(.iconst (-1), 1, []), (.istore_n 3, 1, []), (.iconst 0, 1, []), (.istore 4, 2, []), (.nop, 0, []), (.iload 4, 2, []), (.nop, 0, []), (.iload_n 2, 1, []), (.if_icmp .gt 72, 3, [96]), (.nop, 0, []), (.nop, 0, []), (.iload 4, 2, []), (.nop, 0, []), (.iload_n 2, 1, []), (.iconst (-1), 1, []), (.ixor, 1, [])],
  [(.iand, 1, []), (.ifCond .ne 57, 3, [90]), (.nop, 0, []), (.nop, 0, []), (.iload_n 3, 1, []), (.ifCond .lt 18, 3, [55]), (.nop, 0, []), (.nop, 0, []), (.iload 4, 2, []), (.nop, 0, []), (.invokestatic 487, 3, [165, 1, 3]), (.nop, 0, []), (.nop, 0, []), (.iload_n 3, 1, []), (.invokestatic 487, 3, [165, 1, 3]), (.nop, 0, [])],
  [(.nop, 0, []), (.if_icmp .lt 6, 3, [55]), (.nop, 0, []), (.nop, 0, []), (.goto 38, 3, [90]), (.nop, 0, []), (.nop, 0, []), (.aload_n 0, 1, []), (.invokevirtual 493, 3, [131, 1, 2, 11]), (.nop, 0, []), (.nop, 0, []), (.aload_n 0, 1, []), (.iload_n 2, 1, []), (.iload 4, 2, []), (.nop, 0, []), (.iconst (-1), 1, [])],
  [(.ixor, 1, []), (.iand, 1, []), (.invokevirtual 557, 3, [157, 2, 3, 11]), (.nop, 0, []), (.nop, 0, []), (.aload_n 0, 1, []), (.iload_n 2, 1, []), (.iload 4, 2, []), (.nop, 0, []), (.iconst (-1), 1, []), (.ixor, 1, []), (.iand, 1, []), (.aload_n 0, 1, []), (.invokevirtual 551, 3, [178, 1, 3, 11]), (.nop, 0, []), (.nop, 0, [])],
  [(.ior, 1, []), (.invokevirtual 554, 3, [126, 2, 2, 11]), (.nop, 0, []), (.nop, 0, []), (.ifCond .eq 6, 3, [90]), (.nop, 0, []), (.nop, 0, []), (.iload 4, 2, []), (.nop, 0, []), (.istore_n 3, 1, []), (.iinc 4 1, 3, []), (.nop, 0, []), (.nop, 0, []), (.goto (-72), 3, [21]), (.nop, 0, []), (.nop, 0, [])],
  [(.iload_n 3, 1, []), (.ifCond .ge 7, 3, [104]), (.nop, 0, []), (.nop, 0, []), (.iconst (-1), 1, []), (.goto 15, 3, [116]), (.nop, 0, []), (.nop, 0, []), (.iload_n 1, 1, []), (.ifCond .ne 10, 3, [115]), (.nop, 0, []), (.nop, 0, []), (.iload_n 3, 1, []), (.invokestatic 487, 3, [165, 1, 3]), (.nop, 0, []), (.nop, 0, [])],
  [(.goto 4, 3, [116]), (.nop, 0, []), (.nop, 0, []), (.iload_n 3, 1, []), (.ireturn, 1, [0])]]
def g_t192 : q_T := [
  [(.aload_n 0, 1, []), (.iload_n 1, 1, []), (.invokevirtual 502, 3, [148, 2, 2, 11]), (.nop, 0, []), (.nop, 0, []), (.ifCond .ne 5, 3, [10]), (.nop, 0, []), (.nop, 0, []), (.iconst (-1), 1, []), (.ireturn, 1, [0]), (.aload_n 0, 1, []), (.invokevirtual 493, 3, [131, 1, 2, 11]), (.nop, 0, []), (.nop, 0, []), (.aload_n 0, 1, []), (.invokevirtual 481, 3, [136, 1, 1, 11])],
  [(.nop, 0, []), (.nop, 0, []), (.aload_n 0, 1, []), (.getfield 97, 3, [11, 64, 3]), (.nop, 0, []), (.nop, 0, []), (.iload_n 1, 1, []), (.iaload, 1, []), (.ireturn, 1, [0])]]
def g_t193 : q_T := [
  [(.iload_n 1, 1, []), (.iconst 0, 1, []), (.iconst 1, 1, []), (.invokestatic 431, 3, [146, 3, 3]), (.nop, 0, []), (.nop, 0, []), (.ifCond .eq 11, 3, [17]), (.nop, 0, []), (.nop, 0, []), (.aload_n 0, 1, []), (.iload_n 2, 1, []), (.invokevirtual 594, 3, [155, 2, 6, 11]), (.nop, 0, []), (.nop, 0, []), (.ifCond .ne 5, 3, [19]), (.nop, 0, [])],
  [(.nop, 0, []), (.iconst (-1), 1, []), (.ireturn, 1, [0]), (.iconst (-1), 1, []), (.istore_n 3, 1, []), (.iconst 1, 1, []), (.istore 4, 2, []), (.nop, 0, []), (.iload 4, 2, []), (.nop, 0, []), (.bipush 30, 2, []), (.nop, 0, []), (.if_icmp .gt 31, 3, [59]), (.nop, 0, []), (.nop, 0, []), (.aload_n 0, 1, [])],
  [(.getfield 136, 3, [11, 82, 3]), (.nop, 0, []), (.nop, 0, []), (.iload 4, 2, []), (.nop, 0, []), (.baload, 1, []), (.ifCond .eq 15, 3, [53]), (.nop, 0, []), (.nop, 0, []), (.iload_n 3, 1, []), (.ifCond .lt 8, 3, [50]), (.nop, 0, []), (.nop, 0, []), (.iload_n 1, 1, []), (.iconst 1, 1, []), (.if_icmp .ne 6, 3, [53])],
  [(.nop, 0, []), (.nop, 0, []), (.iload 4, 2, []), (.nop, 0, []), (.istore_n 3, 1, []), (.iinc 4 1, 3, []), (.nop, 0, []), (.nop, 0, []), (.goto (-32), 3, [24]), (.nop, 0, []), (.nop, 0, []), (.iload_n 3, 1, []), (.ireturn, 1, [0])]]
def g_t194 : q_T := [
  [(.iload_n 1, 1, []), (.iconst 0, 1, []), (.iconst 2, 1, []), (.invokestatic 431, 3, [146, 3, 3]), (.nop, 0, []), (.nop, 0, []), (.ifCond .ne 5, 3, [11]), (.nop, 0, []), (.nop, 0, []), (.iconst (-1), 1, []), (.ireturn, 1, [0]), (.iconst (-1), 1, []), (.istore_n 2, 1, []), (.iconst (-1), 1, []), (.istore_n 3, 1, []), (.aload_n 0, 1, [])],
  [(.invokevirtual 514, 3, [121, 1, 1, 11]), (.nop, 0, []), (.nop, 0, []), (.istore 4, 2, []), (.nop, 0, []), (.iconst 0, 1, []), (.istore 5, 2, []), (.nop, 0, []), (.iload 5, 2, []), (.nop, 0, []), (.aload_n 0, 1, []), (.getfield 407, 3, [11, 48, 0]), (.nop, 0, []), (.nop, 0, []), (.if_icmp .ge 89, 3, [119]), (.nop, 0, [])],
  [(.nop, 0, []), (.iload 5, 2, []), (.nop, 0, []), (.iconst 1, 1, []), (.iadd, 1, []), (.istore 6, 2, []), (.nop, 0, []), (.iload 6, 2, []), (.nop, 0, []), (.aload_n 0, 1, []), (.getfield 407, 3, [11, 48, 0]), (.nop, 0, []), (.nop, 0, []), (.if_icmp .ge 68, 3, [113]), (.nop, 0, []), (.nop, 0, [])],
  [(.aload_n 0, 1, []), (.iload 5, 2, []), (.nop, 0, []), (.invokevirtual 502, 3, [148, 2, 2, 11]), (.nop, 0, []), (.nop, 0, []), (.ifCond .eq 53, 3, [107]), (.nop, 0, []), (.nop, 0, []), (.aload_n 0, 1, []), (.iload 6, 2, []), (.nop, 0, []), (.invokevirtual 502, 3, [148, 2, 2, 11]), (.nop, 0, []), (.nop, 0, []), (.ifCond .ne 6, 3, [69])],
  [(.nop, 0, []), (.nop, 0, []), (.goto 41, 3, [107]), (.nop, 0, []), (.nop, 0, []), (.aload_n 0, 1, []), (.invokevirtual 493, 3, [131, 1, 2, 11]), (.nop, 0, []), (.nop, 0, []), (.aload_n 0, 1, []), (.iload 5, 2, []), (.nop, 0, []), (.iload 6, 2, []), (.nop, 0, []), (.nop, 0, []), (.nop, 0, [])],
  [(.nop, 0, []), (.aload_n 0, 1, []), (.invokevirtual 533, 3, [122, 1, 1, 11]), (.nop, 0, []), (.nop, 0, []), (.istore 7, 2, []), (.nop, 0, []), (.iload 7, 2, []), (.nop, 0, []), (.iload 4, 2, []), (.nop, 0, []), (.if_icmp .gt 6, 3, [97]), (.nop, 0, []), (.nop, 0, []), (.goto 13, 3, [107]), (.nop, 0, [])],
  [(.nop, 0, []), (.iload 5, 2, []), (.nop, 0, []), (.istore_n 2, 1, []), (.iload 6, 2, []), (.nop, 0, []), (.istore_n 3, 1, []), (.iload 7, 2, []), (.nop, 0, []), (.istore 4, 2, []), (.nop, 0, []), (.iinc 6 1, 3, []), (.nop, 0, []), (.nop, 0, []), (.goto (-71), 3, [39]), (.nop, 0, [])],
  [(.nop, 0, []), (.iinc 5 1, 3, []), (.nop, 0, []), (.nop, 0, []), (.goto (-92), 3, [24]), (.nop, 0, []), (.nop, 0, []), (.iload_n 2, 1, []), (.ifCond .ge 7, 3, [127]), (.nop, 0, []), (.nop, 0, []), (.iconst (-1), 1, []), (.goto 22, 3, [146]), (.nop, 0, []), (.nop, 0, []), (.iload_n 1, 1, [])],
  [(.ifCond .ne 7, 3, [135]), (.nop, 0, []), (.nop, 0, []), (.iload_n 2, 1, []), (.goto 14, 3, [146]), (.nop, 0, []), (.nop, 0, []), (.iload_n 1, 1, []), (.iconst 1, 1, []), (.if_icmp .ne 7, 3, [144]), (.nop, 0, []), (.nop, 0, []), (.iload_n 3, 1, []), (.goto 5, 3, [146]), (.nop, 0, []), (.nop, 0, [])],
  [(.iload 4, 2, []), (.nop, 0, []), (.ireturn, 1, [0])]]
def g_t195 : q_T := [
  [(.aload_n 0, 1, []), (.iconst 0, 1, []), (.invokevirtual 164, 3, [138, 2, 2, 11]), (.nop, 0, []), (.nop, 0, []), (.bipush 32, 2, []), (.nop, 0, []), (.if_icmp .eq 13, 3, [20]), (.nop, 0, []), (.nop, 0, []), (.aload_n 0, 1, []), (.iconst 0, 1, []), (.invokevirtual 164, 3, [138, 2, 2, 11]), (.nop, 0, []), (.nop, 0, []), (.bipush 10, 2, [])],
  [(.nop, 0, []), (.if_icmp .ne 16, 3, [33]), (.nop, 0, []), (.nop, 0, []), (.aload_n 0, 1, []), (.dup, 1, []), (.getfield 158, 3, [11, 4, 0]), (.nop, 0, []), (.nop, 0, []), (.iconst 1, 1, []), (.iadd, 1, []), (.putfield 158, 3, [11, 4, 0]), (.nop, 0, []), (.nop, 0, []), (.goto (-30), 3, [0]), (.nop, 0, [])],
  [(.nop, 0, []), (.aload_n 0, 1, []), (.aload_n 0, 1, []), (.getfield 158, 3, [11, 4, 0]), (.nop, 0, []), (.nop, 0, []), (.putfield 168, 3, [11, 7, 0]), (.nop, 0, []), (.nop, 0, []), (.aload_n 0, 1, []), (.iconst 0, 1, []), (.invokevirtual 164, 3, [138, 2, 2, 11]), (.nop, 0, []), (.nop, 0, []), (.istore_n 1, 1, []), (.iconst 0, 1, [])],
  [(.istore_n 2, 1, []), (.aload_n 0, 1, []), (.lconst 0, 1, []), (.putfield 171, 3, [11, 9, 2]), (.nop, 0, []), (.nop, 0, []), (.aload_n 0, 1, []), (.iconst 0, 1, []), (.putfield 175, 3, [11, 8, 0]), (.nop, 0, []), (.nop, 0, []), (.iload_n 1, 1, []), (.ifCond .ge 11, 3, [71]), (.nop, 0, []), (.nop, 0, []), (.aload_n 0, 1, [])],
  [(.iconst 0, 1, []), (.putfield 178, 3, [11, 6, 0]), (.nop, 0, []), (.nop, 0, []), (.goto 164, 3, [232]), (.nop, 0, []), (.nop, 0, []), (.iload_n 1, 1, []), (.nop, 0, []), (.nop, 0, []), (.nop, 0, []), (.ifCond .eq 62, 3, [137]), (.nop, 0, []), (.nop, 0, []), (.aload_n 0, 1, []), (.iload_n 2, 1, [])],
  [(.invokevirtual 164, 3, [138, 2, 2, 11]), (.nop, 0, []), (.nop, 0, []), (.nop, 0, []), (.nop, 0, []), (.nop, 0, []), (.ifCond .eq 33, 3, [119]), (.nop, 0, []), (.nop, 0, []), (.iload_n 2, 1, []), (.bipush 8, 2, []), (.nop, 0, []), (.if_icmp .ge 21, 3, [113]), (.nop, 0, []), (.nop, 0, []), (.aload_n 0, 1, [])],
  [(.aload_n 0, 1, []), (.getfield 171, 3, [11, 9, 2]), (.nop, 0, []), (.nop, 0, []), (.bipush 8, 2, []), (.nop, 0, []), (.lshl, 1, []), (.aload_n 0, 1, []), (.iload_n 2, 1, []), (.invokevirtual 164, 3, [138, 2, 2, 11]), (.nop, 0, []), (.nop, 0, []), (.i2l, 1, []), (.lor, 1, []), (.putfield 171, 3, [11, 9, 2]), (.nop, 0, [])],
  [(.nop, 0, []), (.iinc 2 1, 3, []), (.nop, 0, []), (.nop, 0, []), (.goto (-38), 3, [78]), (.nop, 0, []), (.nop, 0, []), (.aload_n 0, 1, []), (.iload_n 2, 1, []), (.bipush 8, 2, []), (.nop, 0, []), (.if_icmp .le 7, 3, [130]), (.nop, 0, []), (.nop, 0, []), (.iconst 3, 1, []), (.goto 4, 3, [131])],
  [(.nop, 0, []), (.nop, 0, []), (.iconst 1, 1, []), (.putfield 178, 3, [11, 6, 0]), (.nop, 0, []), (.nop, 0, []), (.goto 98, 3, [232]), (.nop, 0, []), (.nop, 0, []), (.iload_n 1, 1, []), (.nop, 0, []), (.nop, 0, []), (.nop, 0, []), (.ifCond .eq 73, 3, [214]), (.nop, 0, []), (.nop, 0, [])],
  [(.aload_n 0, 1, []), (.iload_n 2, 1, []), (.invokevirtual 164, 3, [138, 2, 2, 11]), (.nop, 0, []), (.nop, 0, []), (.nop, 0, []), (.nop, 0, []), (.nop, 0, []), (.ifCond .eq 34, 3, [186]), (.nop, 0, []), (.nop, 0, []), (.iload_n 2, 1, []), (.iconst 4, 1, []), (.if_icmp .ge 23, 3, [180]), (.nop, 0, []), (.nop, 0, [])],
  [(.aload_n 0, 1, []), (.bipush 10, 2, []), (.nop, 0, []), (.aload_n 0, 1, []), (.getfield 175, 3, [11, 8, 0]), (.nop, 0, []), (.nop, 0, []), (.imul, 1, []), (.aload_n 0, 1, []), (.iload_n 2, 1, []), (.invokevirtual 164, 3, [138, 2, 2, 11]), (.nop, 0, []), (.nop, 0, []), (.iadd, 1, []), (.bipush 48, 2, []), (.nop, 0, [])],
  [(.isub, 1, []), (.putfield 175, 3, [11, 8, 0]), (.nop, 0, []), (.nop, 0, []), (.iinc 2 1, 3, []), (.nop, 0, []), (.nop, 0, []), (.goto (-39), 3, [144]), (.nop, 0, []), (.nop, 0, []), (.aload_n 0, 1, []), (.iload_n 2, 1, []), (.iconst 4, 1, []), (.if_icmp .gt 14, 3, [203]), (.nop, 0, []), (.nop, 0, [])],
  [(.aload_n 0, 1, []), (.iload_n 2, 1, []), (.invokevirtual 164, 3, [138, 2, 2, 11]), (.nop, 0, []), (.nop, 0, []), (.nop, 0, []), (.nop, 0, []), (.nop, 0, []), (.ifCond .eq 7, 3, [207]), (.nop, 0, []), (.nop, 0, []), (.iconst 3, 1, []), (.goto 4, 3, [208]), (.nop, 0, []), (.nop, 0, []), (.iconst 2, 1, [])],
  [(.putfield 178, 3, [11, 6, 0]), (.nop, 0, []), (.nop, 0, []), (.goto 21, 3, [232]), (.nop, 0, []), (.nop, 0, []), (.iconst 1, 1, []), (.istore_n 2, 1, []), (.aload_n 0, 1, []), (.iload_n 1, 1, []), (.nop, 0, []), (.nop, 0, []), (.nop, 0, []), (.ifCond .eq 7, 3, [228]), (.nop, 0, []), (.nop, 0, [])],
  [(.iload_n 1, 1, []), (.goto 4, 3, [229]), (.nop, 0, []), (.nop, 0, []), (.iconst 3, 1, []), (.putfield 178, 3, [11, 6, 0]), (.nop, 0, []), (.nop, 0, []), (.aload_n 0, 1, []), (.getfield 178, 3, [11, 6, 0]), (.nop, 0, []), (.nop, 0, []), (.iconst 3, 1, []), (.if_icmp .eq 13, 3, [250]), (.nop, 0, []), (.nop, 0, [])],
  [(.aload_n 0, 1, []), (.dup, 1, []), (.getfield 158, 3, [11, 4, 0]), (.nop, 0, []), (.nop, 0, []), (.iload_n 2, 1, []), (.iadd, 1, []), (.putfield 158, 3, [11, 4, 0]), (.nop, 0, []), (.nop, 0, []), (.return_, 1, [])]]
def g_t196 : q_T := [
  [(.aload_n 0, 1, []), (.invokevirtual 548, 3, [176, 1, 3, 11]), (.nop, 0, []), (.nop, 0, []), (.istore_n 1, 1, []), (.iconst 0, 1, []), (.istore_n 2, 1, []), (.iload_n 1, 1, []), (.ifCond .eq 163, 3, [171]), (.nop, 0, []), (.nop, 0, []), (.iconst 0, 1, []), (.istore_n 3, 1, []), (.iload_n 3, 1, []), (.aload_n 0, 1, []), (.getfield 407, 3, [11, 48, 0])],
  [(.nop, 0, []), (.nop, 0, []), (.if_icmp .ge 34, 3, [52]), (.nop, 0, []), (.nop, 0, []), (.iload_n 1, 1, []), (.iload_n 3, 1, []), (.nop, 0, []), (.nop, 0, []), (.nop, 0, []), (.ifCond .eq 20, 3, [46]), (.nop, 0, []), (.nop, 0, []), (.aload_n 0, 1, []), (.getfield 109, 3, [11, 71, 3]), (.nop, 0, [])],
  [(.nop, 0, []), (.iload_n 3, 1, []), (.aload_n 0, 1, []), (.getfield 81, 3, [11, 57, 3]), (.nop, 0, []), (.nop, 0, []), (.aload_n 0, 1, []), (.iload_n 3, 1, []), (.iload_n 1, 1, []), (.nop, 0, []), (.nop, 0, []), (.nop, 0, []), (.iaload, 1, []), (.iastore, 1, []), (.iinc 3 1, 3, []), (.nop, 0, [])],
  [(.nop, 0, []), (.goto (-36), 3, [13]), (.nop, 0, []), (.nop, 0, []), (.iconst 0, 1, []), (.istore_n 3, 1, []), (.iconst 0, 1, []), (.istore 4, 2, []), (.nop, 0, []), (.iload 4, 2, []), (.nop, 0, []), (.aload_n 0, 1, []), (.getfield 407, 3, [11, 48, 0]), (.nop, 0, []), (.nop, 0, []), (.if_icmp .ge 58, 3, [121])],
  [(.nop, 0, []), (.nop, 0, []), (.iload_n 1, 1, []), (.iload_n 3, 1, []), (.iconst (-1), 1, []), (.ixor, 1, []), (.iand, 1, []), (.iload 4, 2, []), (.nop, 0, []), (.nop, 0, []), (.nop, 0, []), (.nop, 0, []), (.ifCond .ne 6, 3, [82]), (.nop, 0, []), (.nop, 0, []), (.goto 36, 3, [115])],
  [(.nop, 0, []), (.nop, 0, []), (.aload_n 0, 1, []), (.iload 4, 2, []), (.nop, 0, []), (.nop, 0, []), (.nop, 0, []), (.nop, 0, []), (.istore 5, 2, []), (.nop, 0, []), (.iload_n 2, 1, []), (.iload 5, 2, []), (.nop, 0, []), (.invokestatic 487, 3, [165, 1, 3]), (.nop, 0, []), (.nop, 0, [])],
  [(.iconst 1, 1, []), (.if_icmp .le 7, 3, [104]), (.nop, 0, []), (.nop, 0, []), (.iconst 1, 1, []), (.goto 4, 3, [105]), (.nop, 0, []), (.nop, 0, []), (.iconst 0, 1, []), (.invokestatic 320, 3, [197, 1, 1]), (.nop, 0, []), (.nop, 0, []), (.iadd, 1, []), (.istore_n 2, 1, []), (.iload_n 3, 1, []), (.iload 5, 2, [])],
  [(.nop, 0, []), (.ior, 1, []), (.istore_n 3, 1, []), (.iinc 4 1, 3, []), (.nop, 0, []), (.nop, 0, []), (.goto (-61), 3, [57]), (.nop, 0, []), (.nop, 0, []), (.iconst 0, 1, []), (.istore 4, 2, []), (.nop, 0, []), (.iload 4, 2, []), (.nop, 0, []), (.aload_n 0, 1, []), (.getfield 407, 3, [11, 48, 0])],
  [(.nop, 0, []), (.nop, 0, []), (.if_icmp .ge 32, 3, [162]), (.nop, 0, []), (.nop, 0, []), (.iload_n 3, 1, []), (.iload 4, 2, []), (.nop, 0, []), (.nop, 0, []), (.nop, 0, []), (.nop, 0, []), (.ifCond .eq 17, 3, [156]), (.nop, 0, []), (.nop, 0, []), (.aload_n 0, 1, []), (.getfield 112, 3, [11, 72, 3])],
  [(.nop, 0, []), (.nop, 0, []), (.aload_n 0, 1, []), (.getfield 109, 3, [11, 71, 3]), (.nop, 0, []), (.nop, 0, []), (.iload 4, 2, []), (.nop, 0, []), (.iaload, 1, []), (.iload 4, 2, []), (.nop, 0, []), (.iastore, 1, []), (.iinc 4 1, 3, []), (.nop, 0, []), (.nop, 0, []), (.goto (-35), 3, [124])],
  [(.nop, 0, []), (.nop, 0, []), (.iload_n 1, 1, []), (.iload_n 3, 1, []), (.iconst (-1), 1, []), (.ixor, 1, []), (.iand, 1, []), (.istore_n 1, 1, []), (.goto (-161), 3, [7]), (.nop, 0, []), (.nop, 0, []), (.aload_n 0, 1, []), (.aload_n 0, 1, []), (.getfield 81, 3, [11, 57, 3]), (.nop, 0, []), (.nop, 0, [])],
  [(.bipush 8, 2, []), (.nop, 0, []), (.iaload, 1, []), (.putfield 428, 3, [11, 70, 0]), (.nop, 0, []), (.nop, 0, []), (.iconst 0, 1, []), (.istore_n 3, 1, []), (.iload_n 3, 1, []), (.aload_n 0, 1, []), (.getfield 428, 3, [11, 70, 0]), (.nop, 0, []), (.nop, 0, []), (.if_icmp .ge 26, 3, [215]), (.nop, 0, []), (.nop, 0, [])],
  [(.aload_n 0, 1, []), (.getfield 103, 3, [11, 68, 3]), (.nop, 0, []), (.nop, 0, []), (.iload_n 3, 1, []), (.aload_n 0, 1, []), (.getfield 112, 3, [11, 72, 3]), (.nop, 0, []), (.nop, 0, []), (.aload_n 0, 1, []), (.getfield 81, 3, [11, 57, 3]), (.nop, 0, []), (.nop, 0, []), (.iload_n 3, 1, []), (.iaload, 1, []), (.iaload, 1, [])],
  [(.iastore, 1, []), (.iinc 3 1, 3, []), (.nop, 0, []), (.nop, 0, []), (.goto (-28), 3, [184]), (.nop, 0, []), (.nop, 0, []), (.iload_n 2, 1, []), (.ireturn, 1, [0])]]
def g_t197 : q_T := [
  [(.iload_n 0, 1, []), (.ifCond .eq 7, 3, [8]), (.nop, 0, []), (.nop, 0, []), (.iconst 1, 1, []), (.goto 4, 3, [9]), (.nop, 0, []), (.nop, 0, []), (.iconst 0, 1, []), (.ireturn, 1, [0])]]
def g_t198 : q_T := [
  [(.aload_n 0, 1, []), (.getfield 419, 3, [11, 66, 0]), (.nop, 0, []), (.nop, 0, []), (.ifCond .ne 5, 3, [9]), (.nop, 0, []), (.nop, 0, []), (.iconst 0, 1, []), (.ireturn, 1, [1]), (.aload_n 0, 1, []), (.dup, 1, []), (.getfield 419, 3, [11, 66, 0]), (.nop, 0, []), (.nop, 0, []), (.iconst 1, 1, []), (.isub, 1, [])],
  [(.putfield 419, 3, [11, 66, 0]), (.nop, 0, []), (.nop, 0, []), (.aload_n 0, 1, []), (.dup, 1, []), (.getfield 422, 3, [11, 67, 0]), (.nop, 0, []), (.nop, 0, []), (.iconst 1, 1, []), (.iadd, 1, []), (.putfield 422, 3, [11, 67, 0]), (.nop, 0, []), (.nop, 0, []), (.aload_n 0, 1, []), (.bipush 28, 2, []), (.nop, 0, [])],
  [(.aload_n 0, 1, []), (.getfield 419, 3, [11, 66, 0]), (.nop, 0, []), (.nop, 0, []), (.imul, 1, []), (.nop, 0, []), (.nop, 0, []), (.nop, 0, []), (.iconst 1, 1, []), (.ireturn, 1, [1])]]
def g_t199 : q_T := [
  [(.iload_n 1, 1, []), (.iconst 0, 1, []), (.aload_n 0, 1, []), (.getfield 425, 3, [11, 78, 0]), (.nop, 0, []), (.nop, 0, []), (.iconst 1, 1, []), (.isub, 1, []), (.invokestatic 431, 3, [146, 3, 3]), (.nop, 0, []), (.nop, 0, []), (.ifCond .eq 12, 3, [23]), (.nop, 0, []), (.nop, 0, []), (.aload_n 0, 1, []), (.getfield 124, 3, [11, 76, 3])],
  [(.nop, 0, []), (.nop, 0, []), (.iload_n 1, 1, []), (.iaload, 1, []), (.ifCond .lt 5, 3, [25]), (.nop, 0, []), (.nop, 0, []), (.iconst 0, 1, []), (.ireturn, 1, [1]), (.aload_n 0, 1, []), (.getfield 124, 3, [11, 76, 3]), (.nop, 0, []), (.nop, 0, []), (.iload_n 1, 1, []), (.aload_n 0, 1, []), (.getfield 587, 3, [11, 79, 0])],
  [(.nop, 0, []), (.nop, 0, []), (.iastore, 1, []), (.iconst 1, 1, []), (.ireturn, 1, [1])]]
def g_t200 : q_T := [
  [(.aload_n 0, 1, []), (.getfield 81, 3, [11, 57, 3]), (.nop, 0, []), (.nop, 0, []), (.bipush 25, 2, []), (.nop, 0, []), (.iaload, 1, []), (.ireturn, 1, [0])]]
def g_t201 : q_T := [
  [(.aload_n 0, 1, []), (.iload_n 1, 1, []), (.invokevirtual 496, 3, [147, 2, 2, 11]), (.nop, 0, []), (.nop, 0, []), (.ifCond .eq 23, 3, [28]), (.nop, 0, []), (.nop, 0, []), (.iload_n 2, 1, []), (.iconst 0, 1, []), (.sipush 400, 3, []), (.nop, 0, []), (.nop, 0, []), (.invokestatic 431, 3, [146, 3, 3]), (.nop, 0, []), (.nop, 0, [])],
  [(.ifCond .eq 12, 3, [28]), (.nop, 0, []), (.nop, 0, []), (.iload_n 3, 1, []), (.iconst 0, 1, []), (.iconst 1, 1, []), (.invokestatic 431, 3, [146, 3, 3]), (.nop, 0, []), (.nop, 0, []), (.ifCond .ne 5, 3, [30]), (.nop, 0, []), (.nop, 0, []), (.iconst (-1), 1, []), (.ireturn, 1, [0]), (.aload_n 0, 1, []), (.invokevirtual 493, 3, [131, 1, 2, 11])],
  [(.nop, 0, []), (.nop, 0, []), (.iconst 0, 1, []), (.istore 4, 2, []), (.nop, 0, []), (.iload 4, 2, []), (.nop, 0, []), (.iload_n 2, 1, []), (.if_icmp .ge 31, 3, [71]), (.nop, 0, []), (.nop, 0, []), (.aload_n 0, 1, []), (.invokevirtual 475, 3, [144, 1, 3, 11]), (.nop, 0, []), (.nop, 0, []), (.ifCond .ne 24, 3, [71])],
  [(.nop, 0, []), (.nop, 0, []), (.aload_n 0, 1, []), (.iload_n 3, 1, []), (.iconst 1, 1, []), (.if_icmp .ne 7, 3, [60]), (.nop, 0, []), (.nop, 0, []), (.iconst 1, 1, []), (.goto 4, 3, [61]), (.nop, 0, []), (.nop, 0, []), (.iconst 0, 1, []), (.nop, 0, []), (.nop, 0, []), (.nop, 0, [])],
  [(.pop, 1, []), (.iinc 4 1, 3, []), (.nop, 0, []), (.nop, 0, []), (.goto (-31), 3, [37]), (.nop, 0, []), (.nop, 0, []), (.aload_n 0, 1, []), (.getfield 84, 3, [11, 58, 3]), (.nop, 0, []), (.nop, 0, []), (.bipush 9, 2, []), (.nop, 0, []), (.iload_n 1, 1, []), (.iadd, 1, []), (.iaload, 1, [])],
  [(.ireturn, 1, [0])]]
def g_t202 : q_T := [
  [(.aload_n 0, 1, []), (.iload_n 1, 1, []), (.invokevirtual 502, 3, [148, 2, 2, 11]), (.nop, 0, []), (.nop, 0, []), (.ifCond .eq 15, 3, [20]), (.nop, 0, []), (.nop, 0, []), (.aload_n 0, 1, []), (.iload_n 1, 1, []), (.aload_n 0, 1, []), (.invokevirtual 548, 3, [176, 1, 3, 11]), (.nop, 0, []), (.nop, 0, []), (.nop, 0, []), (.nop, 0, [])],
  [(.nop, 0, []), (.goto 4, 3, [21]), (.nop, 0, []), (.nop, 0, []), (.iconst (-1), 1, []), (.ireturn, 1, [0])]]
def g_t203 : q_T := [
  [(.iload_n 0, 1, []), (.iload_n 0, 1, []), (.iconst 1, 1, []), (.iushr, 1, []), (.ldc_w 267, 3, [1431655765]), (.nop, 0, []), (.nop, 0, []), (.iand, 1, []), (.isub, 1, []), (.istore_n 0, 1, []), (.iload_n 0, 1, []), (.ldc_w 268, 3, [858993459]), (.nop, 0, []), (.nop, 0, []), (.iand, 1, []), (.iload_n 0, 1, [])],
  [(.iconst 2, 1, []), (.iushr, 1, []), (.ldc_w 268, 3, [858993459]), (.nop, 0, []), (.nop, 0, []), (.iand, 1, []), (.iadd, 1, []), (.istore_n 0, 1, []), (.iload_n 0, 1, []), (.iload_n 0, 1, []), (.iconst 4, 1, []), (.iushr, 1, []), (.iadd, 1, []), (.ldc_w 269, 3, [252645135]), (.nop, 0, []), (.nop, 0, [])],
  [(.iand, 1, []), (.istore_n 0, 1, []), (.iload_n 0, 1, []), (.iload_n 0, 1, []), (.bipush 8, 2, []), (.nop, 0, []), (.iushr, 1, []), (.iadd, 1, []), (.istore_n 0, 1, []), (.iload_n 0, 1, []), (.iload_n 0, 1, []), (.bipush 16, 2, []), (.nop, 0, []), (.iushr, 1, []), (.iadd, 1, []), (.istore_n 0, 1, [])],
  [(.iload_n 0, 1, []), (.bipush 63, 2, []), (.nop, 0, []), (.iand, 1, []), (.ireturn, 1, [0])]]
def g_t204 : q_T := [
  [(.iload_n 0, 1, []), (.ifCond .ge 8, 3, [9]), (.nop, 0, []), (.nop, 0, []), (.iload_n 0, 1, []), (.ineg, 1, []), (.goto 4, 3, [10]), (.nop, 0, []), (.nop, 0, []), (.iload_n 0, 1, []), (.ireturn, 1, [0])]]
def g_tl : q_T := [
  [(.new 7, 3, [10, 3, 3, 3, 3, 3, 3, 3, 0, 3, 3, 3, 3, 3, 3, 0]), (.nop, 0, []), (.nop, 0, []), (.dup, 1, []), (.invokespecial 9, 3, [0, 1, 1]), (.nop, 0, []), (.nop, 0, []), (.astore_n 1, 1, []), (.new 10, 3, [11, 3, 0, 0, 0, 0, 0, 0, 0, 0, 2, 3, 3, 3, 3, 3, 3, 3, 0, 0, 0, 0, 0, 0, 0, 1, 1, 3, 0, 0, 0, 0, 3, 3, 3, 3, 3, 3, 3, 3, 3, 3, 0, 0, 0, 0, 0, 0, 0, 0, 0, 0, 0, 0, 1, 1, 1, 1, 3, 3, 0, 3, 3, 0, 3, 3, 3, 0, 0, 3, 3, 0, 3, 3, 3, 3, 3, 3, 3, 0, 0, 3, 3, 3, 3, 3]), (.nop, 0, []), (.nop, 0, []), (.dup, 1, []), (.invokespecial 12, 3, [111, 1, 1]), (.nop, 0, []), (.nop, 0, []), (.astore_n 2, 1, [])],
  [(.iconst 0, 1, []), (.istore_n 3, 1, []), (.iload_n 3, 1, []), (.aload_n 0, 1, []), (.arraylength, 1, []), (.bipush 6, 2, []), (.nop, 0, []), (.isub, 1, []), (.if_icmp .gt 1595, 3, [1619]), (.nop, 0, []), (.nop, 0, []), (.aload_n 0, 1, []), (.iload_n 3, 1, []), (.iaload, 1, []), (.bipush 63, 2, []), (.nop, 0, [])],
  [(.iand, 1, []), (.tableswitch 1580 0 56 #[243, 306, 329, 342, 365, 398, 431, 454, 487, 510, 523, 556, 579, 602, 625, 648, 671, 684, 697, 740, 763, 786, 799, 812, 825, 838, 851, 864, 887, 910, 933, 956, 979, 992, 1025, 1048, 1081, 1094, 1117, 1150, 1163, 1186, 1199, 1212, 1225, 1238, 1261, 1294, 1317, 1376, 1399, 1422, 1445, 1478, 1511, 1534, 1557], 243, [1613, 276, 339, 362, 375, 398, 431, 464, 487, 520, 543, 556, 589, 612, 635, 658, 681, 704, 717, 730, 773, 796, 819, 832, 845, 858, 871, 884, 897, 920, 943, 966, 989, 1012, 1025, 1058, 1081, 1114, 1127, 1150, 1183, 1196, 1219, 1232, 1245, 1258, 1271, 1294, 1327, 1350, 1409, 1432, 1455, 1478, 1511, 1544, 1567, 1590]), (.nop, 0, []), (.nop, 0, []), (.nop, 0, []), (.nop, 0, []), (.nop, 0, []), (.nop, 0, []), (.nop, 0, []), (.nop, 0, []), (.nop, 0, []), (.nop, 0, []), (.nop, 0, []), (.nop, 0, []), (.nop, 0, []), (.nop, 0, [])],
  [(.nop, 0, []), (.nop, 0, []), (.nop, 0, []), (.nop, 0, []), (.nop, 0, []), (.nop, 0, []), (.nop, 0, []), (.nop, 0, []), (.nop, 0, []), (.nop, 0, []), (.nop, 0, []), (.nop, 0, []), (.nop, 0, []), (.nop, 0, []), (.nop, 0, []), (.nop, 0, [])],
  [(.nop, 0, []), (.nop, 0, []), (.nop, 0, []), (.nop, 0, []), (.nop, 0, []), (.nop, 0, []), (.nop, 0, []), (.nop, 0, []), (.nop, 0, []), (.nop, 0, []), (.nop, 0, []), (.nop, 0, []), (.nop, 0, []), (.nop, 0, []), (.nop, 0, []), (.nop, 0, [])],
  [(.nop, 0, []), (.nop, 0, []), (.nop, 0, []), (.nop, 0, []), (.nop, 0, []), (.nop, 0, []), (.nop, 0, []), (.nop, 0, []), (.nop, 0, []), (.nop, 0, []), (.nop, 0, []), (.nop, 0, []), (.nop, 0, []), (.nop, 0, []), (.nop, 0, []), (.nop, 0, [])],
  [(.nop, 0, []), (.nop, 0, []), (.nop, 0, []), (.nop, 0, []), (.nop, 0, []), (.nop, 0, []), (.nop, 0, []), (.nop, 0, []), (.nop, 0, []), (.nop, 0, []), (.nop, 0, []), (.nop, 0, []), (.nop, 0, []), (.nop, 0, []), (.nop, 0, []), (.nop, 0, [])],
  [(.nop, 0, []), (.nop, 0, []), (.nop, 0, []), (.nop, 0, []), (.nop, 0, []), (.nop, 0, []), (.nop, 0, []), (.nop, 0, []), (.nop, 0, []), (.nop, 0, []), (.nop, 0, []), (.nop, 0, []), (.nop, 0, []), (.nop, 0, []), (.nop, 0, []), (.nop, 0, [])],
  [(.nop, 0, []), (.nop, 0, []), (.nop, 0, []), (.nop, 0, []), (.nop, 0, []), (.nop, 0, []), (.nop, 0, []), (.nop, 0, []), (.nop, 0, []), (.nop, 0, []), (.nop, 0, []), (.nop, 0, []), (.nop, 0, []), (.nop, 0, []), (.nop, 0, []), (.nop, 0, [])],
  [(.nop, 0, []), (.nop, 0, []), (.nop, 0, []), (.nop, 0, []), (.nop, 0, []), (.nop, 0, []), (.nop, 0, []), (.nop, 0, []), (.nop, 0, []), (.nop, 0, []), (.nop, 0, []), (.nop, 0, []), (.nop, 0, []), (.nop, 0, []), (.nop, 0, []), (.nop, 0, [])],
  [(.nop, 0, []), (.nop, 0, []), (.nop, 0, []), (.nop, 0, []), (.nop, 0, []), (.nop, 0, []), (.nop, 0, []), (.nop, 0, []), (.nop, 0, []), (.nop, 0, []), (.nop, 0, []), (.nop, 0, []), (.nop, 0, []), (.nop, 0, []), (.nop, 0, []), (.nop, 0, [])],
  [(.nop, 0, []), (.nop, 0, []), (.nop, 0, []), (.nop, 0, []), (.nop, 0, []), (.nop, 0, []), (.nop, 0, []), (.nop, 0, []), (.nop, 0, []), (.nop, 0, []), (.nop, 0, []), (.nop, 0, []), (.nop, 0, []), (.nop, 0, []), (.nop, 0, []), (.nop, 0, [])],
  [(.nop, 0, []), (.nop, 0, []), (.nop, 0, []), (.nop, 0, []), (.nop, 0, []), (.nop, 0, []), (.nop, 0, []), (.nop, 0, []), (.nop, 0, []), (.nop, 0, []), (.nop, 0, []), (.nop, 0, []), (.nop, 0, []), (.nop, 0, []), (.nop, 0, []), (.nop, 0, [])],
  [(.nop, 0, []), (.nop, 0, []), (.nop, 0, []), (.nop, 0, []), (.nop, 0, []), (.nop, 0, []), (.nop, 0, []), (.nop, 0, []), (.nop, 0, []), (.nop, 0, []), (.nop, 0, []), (.nop, 0, []), (.nop, 0, []), (.nop, 0, []), (.nop, 0, []), (.nop, 0, [])],
  [(.nop, 0, []), (.nop, 0, []), (.nop, 0, []), (.nop, 0, []), (.nop, 0, []), (.nop, 0, []), (.nop, 0, []), (.nop, 0, []), (.nop, 0, []), (.nop, 0, []), (.nop, 0, []), (.nop, 0, []), (.nop, 0, []), (.nop, 0, []), (.nop, 0, []), (.nop, 0, [])],
  [(.nop, 0, []), (.nop, 0, []), (.nop, 0, []), (.nop, 0, []), (.nop, 0, []), (.nop, 0, []), (.nop, 0, []), (.nop, 0, []), (.nop, 0, []), (.nop, 0, []), (.nop, 0, []), (.nop, 0, []), (.nop, 0, []), (.nop, 0, []), (.nop, 0, []), (.nop, 0, [])],
  [(.nop, 0, []), (.nop, 0, []), (.nop, 0, []), (.nop, 0, []), (.nop, 0, []), (.nop, 0, []), (.nop, 0, []), (.nop, 0, []), (.nop, 0, []), (.nop, 0, []), (.nop, 0, []), (.nop, 0, []), (.nop, 0, []), (.nop, 0, []), (.nop, 0, []), (.nop, 0, [])],
  [(.nop, 0, []), (.nop, 0, []), (.nop, 0, []), (.nop, 0, []), (.aload_n 1, 1, []), (.aload_n 0, 1, []), (.iload_n 3, 1, []), (.iconst 1, 1, []), (.iadd, 1, []), (.iaload, 1, []), (.aload_n 0, 1, []), (.iload_n 3, 1, []), (.iconst 2, 1, []), (.iadd, 1, []), (.iaload, 1, []), (.aload_n 0, 1, [])],
  [(.iload_n 3, 1, []), (.iconst 3, 1, []), (.iadd, 1, []), (.iaload, 1, []), (.aload_n 0, 1, []), (.iload_n 3, 1, []), (.iconst 4, 1, []), (.iadd, 1, []), (.iaload, 1, []), (.aload_n 0, 1, []), (.iload_n 3, 1, []), (.iconst 5, 1, []), (.iadd, 1, []), (.iaload, 1, []), (.invokevirtual 13, 3, [19, 6, 6, 10]), (.nop, 0, [])],
  [(.nop, 0, []), (.aload_n 2, 1, []), (.aload_n 0, 1, []), (.iload_n 3, 1, []), (.iconst 1, 1, []), (.iadd, 1, []), (.iaload, 1, []), (.aload_n 0, 1, []), (.iload_n 3, 1, []), (.iconst 2, 1, []), (.iadd, 1, []), (.iaload, 1, []), (.aload_n 0, 1, []), (.iload_n 3, 1, []), (.iconst 3, 1, []), (.iadd, 1, [])],
  [(.iaload, 1, []), (.aload_n 0, 1, []), (.iload_n 3, 1, []), (.iconst 4, 1, []), (.iadd, 1, []), (.iaload, 1, []), (.aload_n 0, 1, []), (.iload_n 3, 1, []), (.iconst 5, 1, []), (.iadd, 1, []), (.iaload, 1, []), (.invokevirtual 17, 3, [130, 6, 6, 11]), (.nop, 0, []), (.nop, 0, []), (.if_icmp .eq 1279, 3, [1613]), (.nop, 0, [])],
  [(.nop, 0, []), (.iconst 0, 1, []), (.ireturn, 1, [1]), (.aload_n 1, 1, []), (.aload_n 0, 1, []), (.iload_n 3, 1, []), (.iconst 1, 1, []), (.iadd, 1, []), (.iaload, 1, []), (.invokevirtual 18, 3, [17, 2, 2, 10]), (.nop, 0, []), (.nop, 0, []), (.aload_n 2, 1, []), (.aload_n 0, 1, []), (.iload_n 3, 1, []), (.iconst 1, 1, [])],
  [(.iadd, 1, []), (.iaload, 1, []), (.invokevirtual 22, 3, [128, 2, 2, 11]), (.nop, 0, []), (.nop, 0, []), (.if_icmp .eq 1256, 3, [1613]), (.nop, 0, []), (.nop, 0, []), (.iconst 0, 1, []), (.ireturn, 1, [1]), (.aload_n 1, 1, []), (.invokevirtual 23, 3, [50, 1, 3, 10]), (.nop, 0, []), (.nop, 0, []), (.aload_n 2, 1, []), (.invokevirtual 27, 3, [173, 1, 2, 11])],
  [(.nop, 0, []), (.nop, 0, []), (.if_icmp .eq 1243, 3, [1613]), (.nop, 0, []), (.nop, 0, []), (.iconst 0, 1, []), (.ireturn, 1, [1]), (.aload_n 1, 1, []), (.aload_n 0, 1, []), (.iload_n 3, 1, []), (.iconst 1, 1, []), (.iadd, 1, []), (.iaload, 1, []), (.invokevirtual 28, 3, [18, 2, 2, 10]), (.nop, 0, []), (.nop, 0, [])],
  [(.aload_n 2, 1, []), (.aload_n 0, 1, []), (.iload_n 3, 1, []), (.iconst 1, 1, []), (.iadd, 1, []), (.iaload, 1, []), (.invokevirtual 31, 3, [129, 2, 2, 11]), (.nop, 0, []), (.nop, 0, []), (.if_icmp .eq 1220, 3, [1613]), (.nop, 0, []), (.nop, 0, []), (.iconst 0, 1, []), (.ireturn, 1, [1]), (.aload_n 1, 1, []), (.aload_n 0, 1, [])],
  [(.iload_n 3, 1, []), (.iconst 1, 1, []), (.iadd, 1, []), (.iaload, 1, []), (.aload_n 0, 1, []), (.iload_n 3, 1, []), (.iconst 2, 1, []), (.iadd, 1, []), (.iaload, 1, []), (.invokevirtual 32, 3, [60, 3, 3, 10]), (.nop, 0, []), (.nop, 0, []), (.aload_n 2, 1, []), (.aload_n 0, 1, []), (.iload_n 3, 1, []), (.iconst 1, 1, [])],
  [(.iadd, 1, []), (.iaload, 1, []), (.aload_n 0, 1, []), (.iload_n 3, 1, []), (.iconst 2, 1, []), (.iadd, 1, []), (.iaload, 1, []), (.invokevirtual 36, 3, [187, 3, 5, 11]), (.nop, 0, []), (.nop, 0, []), (.if_icmp .eq 1187, 3, [1613]), (.nop, 0, []), (.nop, 0, []), (.iconst 0, 1, []), (.ireturn, 1, [1]), (.aload_n 1, 1, [])],
  [(.aload_n 0, 1, []), (.iload_n 3, 1, []), (.iconst 1, 1, []), (.iadd, 1, []), (.iaload, 1, []), (.aload_n 0, 1, []), (.iload_n 3, 1, []), (.iconst 2, 1, []), (.iadd, 1, []), (.iaload, 1, []), (.invokevirtual 37, 3, [48, 3, 3, 10]), (.nop, 0, []), (.nop, 0, []), (.aload_n 2, 1, []), (.aload_n 0, 1, []), (.iload_n 3, 1, [])],
  [(.iconst 1, 1, []), (.iadd, 1, []), (.iaload, 1, []), (.aload_n 0, 1, []), (.iload_n 3, 1, []), (.iconst 2, 1, []), (.iadd, 1, []), (.iaload, 1, []), (.invokevirtual 40, 3, [171, 3, 3, 11]), (.nop, 0, []), (.nop, 0, []), (.if_icmp .eq 1154, 3, [1613]), (.nop, 0, []), (.nop, 0, []), (.iconst 0, 1, []), (.ireturn, 1, [1])],
  [(.aload_n 1, 1, []), (.aload_n 0, 1, []), (.iload_n 3, 1, []), (.iconst 1, 1, []), (.iadd, 1, []), (.iaload, 1, []), (.invokevirtual 41, 3, [51, 2, 2, 10]), (.nop, 0, []), (.nop, 0, []), (.aload_n 2, 1, []), (.aload_n 0, 1, []), (.iload_n 3, 1, []), (.iconst 1, 1, []), (.iadd, 1, []), (.iaload, 1, []), (.invokevirtual 44, 3, [174, 2, 2, 11])],
  [(.nop, 0, []), (.nop, 0, []), (.if_icmp .eq 1131, 3, [1613]), (.nop, 0, []), (.nop, 0, []), (.iconst 0, 1, []), (.ireturn, 1, [1]), (.aload_n 1, 1, []), (.aload_n 0, 1, []), (.iload_n 3, 1, []), (.iconst 1, 1, []), (.iadd, 1, []), (.iaload, 1, []), (.aload_n 0, 1, []), (.iload_n 3, 1, []), (.iconst 2, 1, [])],
  [(.iadd, 1, []), (.iaload, 1, []), (.invokevirtual 45, 3, [52, 3, 3, 10]), (.nop, 0, []), (.nop, 0, []), (.aload_n 2, 1, []), (.aload_n 0, 1, []), (.iload_n 3, 1, []), (.iconst 1, 1, []), (.iadd, 1, []), (.iaload, 1, []), (.aload_n 0, 1, []), (.iload_n 3, 1, []), (.iconst 2, 1, []), (.iadd, 1, []), (.iaload, 1, [])],
  [(.invokevirtual 48, 3, [177, 3, 3, 11]), (.nop, 0, []), (.nop, 0, []), (.if_icmp .eq 1098, 3, [1613]), (.nop, 0, []), (.nop, 0, []), (.iconst 0, 1, []), (.ireturn, 1, [1]), (.aload_n 1, 1, []), (.aload_n 0, 1, []), (.iload_n 3, 1, []), (.iconst 1, 1, []), (.iadd, 1, []), (.iaload, 1, []), (.invokevirtual 49, 3, [37, 2, 2, 10]), (.nop, 0, [])],
  [(.nop, 0, []), (.aload_n 2, 1, []), (.aload_n 0, 1, []), (.iload_n 3, 1, []), (.iconst 1, 1, []), (.iadd, 1, []), (.iaload, 1, []), (.invokevirtual 52, 3, [158, 2, 2, 11]), (.nop, 0, []), (.nop, 0, []), (.if_icmp .eq 1075, 3, [1613]), (.nop, 0, []), (.nop, 0, []), (.iconst 0, 1, []), (.ireturn, 1, [1]), (.aload_n 1, 1, [])],
  [(.invokevirtual 53, 3, [43, 1, 2, 10]), (.nop, 0, []), (.nop, 0, []), (.aload_n 2, 1, []), (.invokevirtual 56, 3, [166, 1, 2, 11]), (.nop, 0, []), (.nop, 0, []), (.if_icmp .eq 1062, 3, [1613]), (.nop, 0, []), (.nop, 0, []), (.iconst 0, 1, []), (.ireturn, 1, [1]), (.aload_n 1, 1, []), (.aload_n 0, 1, []), (.iload_n 3, 1, []), (.iconst 1, 1, [])],
  [(.iadd, 1, []), (.iaload, 1, []), (.aload_n 0, 1, []), (.iload_n 3, 1, []), (.iconst 2, 1, []), (.iadd, 1, []), (.iaload, 1, []), (.invokevirtual 57, 3, [10, 3, 5, 10]), (.nop, 0, []), (.nop, 0, []), (.aload_n 2, 1, []), (.aload_n 0, 1, []), (.iload_n 3, 1, []), (.iconst 1, 1, []), (.iadd, 1, []), (.iaload, 1, [])],
  [(.aload_n 0, 1, []), (.iload_n 3, 1, []), (.iconst 2, 1, []), (.iadd, 1, []), (.iaload, 1, []), (.invokevirtual 60, 3, [120, 3, 3, 11]), (.nop, 0, []), (.nop, 0, []), (.if_icmp .eq 1029, 3, [1613]), (.nop, 0, []), (.nop, 0, []), (.iconst 0, 1, []), (.ireturn, 1, [1]), (.aload_n 1, 1, []), (.aload_n 0, 1, []), (.iload_n 3, 1, [])],
  [(.iconst 1, 1, []), (.iadd, 1, []), (.iaload, 1, []), (.invokevirtual 61, 3, [61, 2, 2, 10]), (.nop, 0, []), (.nop, 0, []), (.aload_n 2, 1, []), (.aload_n 0, 1, []), (.iload_n 3, 1, []), (.iconst 1, 1, []), (.iadd, 1, []), (.iaload, 1, []), (.invokevirtual 64, 3, [188, 2, 2, 11]), (.nop, 0, []), (.nop, 0, []), (.if_icmp .eq 1006, 3, [1613])],
  [(.nop, 0, []), (.nop, 0, []), (.iconst 0, 1, []), (.ireturn, 1, [1]), (.aload_n 1, 1, []), (.aload_n 0, 1, []), (.iload_n 3, 1, []), (.iconst 1, 1, []), (.iadd, 1, []), (.iaload, 1, []), (.invokevirtual 65, 3, [28, 2, 2, 10]), (.nop, 0, []), (.nop, 0, []), (.aload_n 2, 1, []), (.aload_n 0, 1, []), (.iload_n 3, 1, [])],
  [(.iconst 1, 1, []), (.iadd, 1, []), (.iaload, 1, []), (.invokevirtual 68, 3, [142, 2, 2, 11]), (.nop, 0, []), (.nop, 0, []), (.if_icmp .eq 983, 3, [1613]), (.nop, 0, []), (.nop, 0, []), (.iconst 0, 1, []), (.ireturn, 1, [1]), (.aload_n 1, 1, []), (.aload_n 0, 1, []), (.iload_n 3, 1, []), (.iconst 1, 1, []), (.iadd, 1, [])],
  [(.iaload, 1, []), (.invokevirtual 69, 3, [22, 2, 2, 10]), (.nop, 0, []), (.nop, 0, []), (.aload_n 2, 1, []), (.aload_n 0, 1, []), (.iload_n 3, 1, []), (.iconst 1, 1, []), (.iadd, 1, []), (.iaload, 1, []), (.invokevirtual 72, 3, [135, 2, 2, 11]), (.nop, 0, []), (.nop, 0, []), (.if_icmp .eq 960, 3, [1613]), (.nop, 0, []), (.nop, 0, [])],
  [(.iconst 0, 1, []), (.ireturn, 1, [1]), (.aload_n 1, 1, []), (.aload_n 0, 1, []), (.iload_n 3, 1, []), (.iconst 1, 1, []), (.iadd, 1, []), (.iaload, 1, []), (.invokevirtual 73, 3, [32, 2, 2, 10]), (.nop, 0, []), (.nop, 0, []), (.aload_n 2, 1, []), (.aload_n 0, 1, []), (.iload_n 3, 1, []), (.iconst 1, 1, []), (.iadd, 1, [])],
  [(.iaload, 1, []), (.invokevirtual 76, 3, [150, 2, 2, 11]), (.nop, 0, []), (.nop, 0, []), (.if_icmp .eq 937, 3, [1613]), (.nop, 0, []), (.nop, 0, []), (.iconst 0, 1, []), (.ireturn, 1, [1]), (.aload_n 1, 1, []), (.aload_n 0, 1, []), (.iload_n 3, 1, []), (.iconst 1, 1, []), (.iadd, 1, []), (.iaload, 1, []), (.invokevirtual 77, 3, [6, 2, 2, 10])],
  [(.nop, 0, []), (.nop, 0, []), (.aload_n 2, 1, []), (.aload_n 0, 1, []), (.iload_n 3, 1, []), (.iconst 1, 1, []), (.iadd, 1, []), (.iaload, 1, []), (.invokevirtual 80, 3, [116, 2, 2, 11]), (.nop, 0, []), (.nop, 0, []), (.if_icmp .eq 914, 3, [1613]), (.nop, 0, []), (.nop, 0, []), (.iconst 0, 1, []), (.ireturn, 1, [1])],
  [(.aload_n 1, 1, []), (.invokevirtual 81, 3, [70, 1, 1, 10]), (.nop, 0, []), (.nop, 0, []), (.aload_n 2, 1, []), (.invokevirtual 85, 3, [198, 1, 1, 11]), (.nop, 0, []), (.nop, 0, []), (.if_icmp .eq 901, 3, [1613]), (.nop, 0, []), (.nop, 0, []), (.iconst 0, 1, []), (.ireturn, 1, [1]), (.aload_n 1, 1, []), (.invokevirtual 86, 3, [53, 1, 1, 10]), (.nop, 0, [])],
  [(.nop, 0, []), (.aload_n 2, 1, []), (.invokevirtual 89, 3, [180, 1, 1, 11]), (.nop, 0, []), (.nop, 0, []), (.if_icmp .eq 888, 3, [1613]), (.nop, 0, []), (.nop, 0, []), (.iconst 0, 1, []), (.ireturn, 1, [1]), (.aload_n 1, 1, []), (.aload_n 0, 1, []), (.iload_n 3, 1, []), (.iconst 1, 1, []), (.iadd, 1, []), (.iaload, 1, [])],
  [(.aload_n 0, 1, []), (.iload_n 3, 1, []), (.iconst 2, 1, []), (.iadd, 1, []), (.iaload, 1, []), (.aload_n 0, 1, []), (.iload_n 3, 1, []), (.iconst 3, 1, []), (.iadd, 1, []), (.iaload, 1, []), (.invokevirtual 90, 3, [73, 4, 4, 10]), (.nop, 0, []), (.nop, 0, []), (.aload_n 2, 1, []), (.aload_n 0, 1, []), (.iload_n 3, 1, [])],
  [(.iconst 1, 1, []), (.iadd, 1, []), (.iaload, 1, []), (.aload_n 0, 1, []), (.iload_n 3, 1, []), (.iconst 2, 1, []), (.iadd, 1, []), (.iaload, 1, []), (.aload_n 0, 1, []), (.iload_n 3, 1, []), (.iconst 3, 1, []), (.iadd, 1, []), (.iaload, 1, []), (.invokevirtual 94, 3, [201, 4, 5, 11]), (.nop, 0, []), (.nop, 0, [])],
  [(.if_icmp .eq 845, 3, [1613]), (.nop, 0, []), (.nop, 0, []), (.iconst 0, 1, []), (.ireturn, 1, [1]), (.aload_n 1, 1, []), (.aload_n 0, 1, []), (.iload_n 3, 1, []), (.iconst 1, 1, []), (.iadd, 1, []), (.iaload, 1, []), (.invokevirtual 95, 3, [56, 2, 2, 10]), (.nop, 0, []), (.nop, 0, []), (.aload_n 2, 1, []), (.aload_n 0, 1, [])],
  [(.iload_n 3, 1, []), (.iconst 1, 1, []), (.iadd, 1, []), (.iaload, 1, []), (.invokevirtual 98, 3, [184, 2, 2, 11]), (.nop, 0, []), (.nop, 0, []), (.if_icmp .eq 822, 3, [1613]), (.nop, 0, []), (.nop, 0, []), (.iconst 0, 1, []), (.ireturn, 1, [1]), (.aload_n 1, 1, []), (.aload_n 0, 1, []), (.iload_n 3, 1, []), (.iconst 1, 1, [])],
  [(.iadd, 1, []), (.iaload, 1, []), (.invokevirtual 99, 3, [65, 2, 2, 10]), (.nop, 0, []), (.nop, 0, []), (.aload_n 2, 1, []), (.aload_n 0, 1, []), (.iload_n 3, 1, []), (.iconst 1, 1, []), (.iadd, 1, []), (.iaload, 1, []), (.invokevirtual 102, 3, [192, 2, 2, 11]), (.nop, 0, []), (.nop, 0, []), (.if_icmp .eq 799, 3, [1613]), (.nop, 0, [])],
  [(.nop, 0, []), (.iconst 0, 1, []), (.ireturn, 1, [1]), (.aload_n 1, 1, []), (.invokevirtual 103, 3, [44, 1, 1, 10]), (.nop, 0, []), (.nop, 0, []), (.aload_n 2, 1, []), (.invokevirtual 106, 3, [167, 1, 3, 11]), (.nop, 0, []), (.nop, 0, []), (.if_icmp .eq 786, 3, [1613]), (.nop, 0, []), (.nop, 0, []), (.iconst 0, 1, []), (.ireturn, 1, [1])],
  [(.aload_n 1, 1, []), (.invokevirtual 107, 3, [16, 1, 1, 10]), (.nop, 0, []), (.nop, 0, []), (.aload_n 2, 1, []), (.invokevirtual 110, 3, [127, 1, 1, 11]), (.nop, 0, []), (.nop, 0, []), (.if_icmp .eq 773, 3, [1613]), (.nop, 0, []), (.nop, 0, []), (.iconst 0, 1, []), (.ireturn, 1, [1]), (.aload_n 1, 1, []), (.invokevirtual 111, 3, [12, 1, 1, 10]), (.nop, 0, [])],
  [(.nop, 0, []), (.aload_n 2, 1, []), (.invokevirtual 114, 3, [121, 1, 1, 11]), (.nop, 0, []), (.nop, 0, []), (.if_icmp .eq 760, 3, [1613]), (.nop, 0, []), (.nop, 0, []), (.iconst 0, 1, []), (.ireturn, 1, [1]), (.aload_n 1, 1, []), (.invokevirtual 115, 3, [41, 1, 1, 10]), (.nop, 0, []), (.nop, 0, []), (.aload_n 2, 1, []), (.invokevirtual 118, 3, [163, 1, 1, 11])],
  [(.nop, 0, []), (.nop, 0, []), (.if_icmp .eq 747, 3, [1613]), (.nop, 0, []), (.nop, 0, []), (.iconst 0, 1, []), (.ireturn, 1, [1]), (.aload_n 1, 1, []), (.invokevirtual 119, 3, [47, 1, 2, 10]), (.nop, 0, []), (.nop, 0, []), (.aload_n 2, 1, []), (.invokevirtual 122, 3, [170, 1, 1, 11]), (.nop, 0, []), (.nop, 0, []), (.if_icmp .eq 734, 3, [1613])],
  [(.nop, 0, []), (.nop, 0, []), (.iconst 0, 1, []), (.ireturn, 1, [1]), (.aload_n 1, 1, []), (.invokevirtual 123, 3, [14, 1, 2, 10]), (.nop, 0, []), (.nop, 0, []), (.aload_n 2, 1, []), (.invokevirtual 126, 3, [123, 1, 1, 11]), (.nop, 0, []), (.nop, 0, []), (.if_icmp .eq 721, 3, [1613]), (.nop, 0, []), (.nop, 0, []), (.iconst 0, 1, [])],
  [(.ireturn, 1, [1]), (.aload_n 1, 1, []), (.aload_n 0, 1, []), (.iload_n 3, 1, []), (.iconst 1, 1, []), (.iadd, 1, []), (.iaload, 1, []), (.invokevirtual 127, 3, [62, 2, 6, 10]), (.nop, 0, []), (.nop, 0, []), (.aload_n 2, 1, []), (.aload_n 0, 1, []), (.iload_n 3, 1, []), (.iconst 1, 1, []), (.iadd, 1, []), (.iaload, 1, [])],
  [(.invokevirtual 130, 3, [189, 2, 5, 11]), (.nop, 0, []), (.nop, 0, []), (.if_icmp .eq 698, 3, [1613]), (.nop, 0, []), (.nop, 0, []), (.iconst 0, 1, []), (.ireturn, 1, [1]), (.aload_n 1, 1, []), (.aload_n 0, 1, []), (.iload_n 3, 1, []), (.iconst 1, 1, []), (.iadd, 1, []), (.iaload, 1, []), (.invokevirtual 131, 3, [64, 2, 7, 10]), (.nop, 0, [])],
  [(.nop, 0, []), (.aload_n 2, 1, []), (.aload_n 0, 1, []), (.iload_n 3, 1, []), (.iconst 1, 1, []), (.iadd, 1, []), (.iaload, 1, []), (.invokevirtual 134, 3, [191, 2, 5, 11]), (.nop, 0, []), (.nop, 0, []), (.if_icmp .eq 675, 3, [1613]), (.nop, 0, []), (.nop, 0, []), (.iconst 0, 1, []), (.ireturn, 1, [1]), (.aload_n 1, 1, [])],
  [(.aload_n 0, 1, []), (.iload_n 3, 1, []), (.iconst 1, 1, []), (.iadd, 1, []), (.iaload, 1, []), (.invokevirtual 135, 3, [24, 2, 5, 10]), (.nop, 0, []), (.nop, 0, []), (.aload_n 2, 1, []), (.aload_n 0, 1, []), (.iload_n 3, 1, []), (.iconst 1, 1, []), (.iadd, 1, []), (.iaload, 1, []), (.invokevirtual 138, 3, [139, 2, 4, 11]), (.nop, 0, [])],
  [(.nop, 0, []), (.if_icmp .eq 652, 3, [1613]), (.nop, 0, []), (.nop, 0, []), (.iconst 0, 1, []), (.ireturn, 1, [1]), (.aload_n 1, 1, []), (.aload_n 0, 1, []), (.iload_n 3, 1, []), (.iconst 1, 1, []), (.iadd, 1, []), (.iaload, 1, []), (.invokevirtual 139, 3, [67, 2, 8, 10]), (.nop, 0, []), (.nop, 0, []), (.aload_n 2, 1, [])],
  [(.aload_n 0, 1, []), (.iload_n 3, 1, []), (.iconst 1, 1, []), (.iadd, 1, []), (.iaload, 1, []), (.invokevirtual 142, 3, [194, 2, 8, 11]), (.nop, 0, []), (.nop, 0, []), (.if_icmp .eq 629, 3, [1613]), (.nop, 0, []), (.nop, 0, []), (.iconst 0, 1, []), (.ireturn, 1, [1]), (.aload_n 1, 1, []), (.aload_n 0, 1, []), (.iload_n 3, 1, [])],
  [(.iconst 1, 1, []), (.iadd, 1, []), (.iaload, 1, []), (.invokevirtual 143, 3, [74, 2, 3, 10]), (.nop, 0, []), (.nop, 0, []), (.aload_n 2, 1, []), (.aload_n 0, 1, []), (.iload_n 3, 1, []), (.iconst 1, 1, []), (.iadd, 1, []), (.iaload, 1, []), (.invokevirtual 146, 3, [202, 2, 2, 11]), (.nop, 0, []), (.nop, 0, []), (.if_icmp .eq 606, 3, [1613])],
  [(.nop, 0, []), (.nop, 0, []), (.iconst 0, 1, []), (.ireturn, 1, [1]), (.aload_n 1, 1, []), (.invokevirtual 147, 3, [68, 1, 3, 10]), (.nop, 0, []), (.nop, 0, []), (.aload_n 2, 1, []), (.invokevirtual 150, 3, [196, 1, 6, 11]), (.nop, 0, []), (.nop, 0, []), (.if_icmp .eq 593, 3, [1613]), (.nop, 0, []), (.nop, 0, []), (.iconst 0, 1, [])],
  [(.ireturn, 1, [1]), (.aload_n 1, 1, []), (.aload_n 0, 1, []), (.iload_n 3, 1, []), (.iconst 1, 1, []), (.iadd, 1, []), (.iaload, 1, []), (.aload_n 0, 1, []), (.iload_n 3, 1, []), (.iconst 2, 1, []), (.iadd, 1, []), (.iaload, 1, []), (.invokevirtual 151, 3, [15, 3, 5, 10]), (.nop, 0, []), (.nop, 0, []), (.aload_n 2, 1, [])],
  [(.aload_n 0, 1, []), (.iload_n 3, 1, []), (.iconst 1, 1, []), (.iadd, 1, []), (.iaload, 1, []), (.aload_n 0, 1, []), (.iload_n 3, 1, []), (.iconst 2, 1, []), (.iadd, 1, []), (.iaload, 1, []), (.invokevirtual 154, 3, [124, 3, 5, 11]), (.nop, 0, []), (.nop, 0, []), (.if_icmp .eq 560, 3, [1613]), (.nop, 0, []), (.nop, 0, [])],
  [(.iconst 0, 1, []), (.ireturn, 1, [1]), (.aload_n 1, 1, []), (.aload_n 0, 1, []), (.iload_n 3, 1, []), (.iconst 1, 1, []), (.iadd, 1, []), (.iaload, 1, []), (.invokevirtual 155, 3, [23, 2, 5, 10]), (.nop, 0, []), (.nop, 0, []), (.aload_n 2, 1, []), (.aload_n 0, 1, []), (.iload_n 3, 1, []), (.iconst 1, 1, []), (.iadd, 1, [])],
  [(.iaload, 1, []), (.invokevirtual 158, 3, [137, 2, 4, 11]), (.nop, 0, []), (.nop, 0, []), (.if_icmp .eq 537, 3, [1613]), (.nop, 0, []), (.nop, 0, []), (.iconst 0, 1, []), (.ireturn, 1, [1]), (.aload_n 1, 1, []), (.aload_n 0, 1, []), (.iload_n 3, 1, []), (.iconst 1, 1, []), (.iadd, 1, []), (.iaload, 1, []), (.aload_n 0, 1, [])],
  [(.iload_n 3, 1, []), (.iconst 2, 1, []), (.iadd, 1, []), (.iaload, 1, []), (.invokevirtual 159, 3, [9, 3, 9, 10]), (.nop, 0, []), (.nop, 0, []), (.aload_n 2, 1, []), (.aload_n 0, 1, []), (.iload_n 3, 1, []), (.iconst 1, 1, []), (.iadd, 1, []), (.iaload, 1, []), (.aload_n 0, 1, []), (.iload_n 3, 1, []), (.iconst 2, 1, [])],
  [(.iadd, 1, []), (.iaload, 1, []), (.invokevirtual 162, 3, [119, 3, 7, 11]), (.nop, 0, []), (.nop, 0, []), (.if_icmp .eq 504, 3, [1613]), (.nop, 0, []), (.nop, 0, []), (.iconst 0, 1, []), (.ireturn, 1, [1]), (.aload_n 1, 1, []), (.invokevirtual 163, 3, [54, 1, 3, 10]), (.nop, 0, []), (.nop, 0, []), (.aload_n 2, 1, []), (.invokevirtual 166, 3, [181, 1, 4, 11])],
  [(.nop, 0, []), (.nop, 0, []), (.if_icmp .eq 491, 3, [1613]), (.nop, 0, []), (.nop, 0, []), (.iconst 0, 1, []), (.ireturn, 1, [1]), (.aload_n 1, 1, []), (.aload_n 0, 1, []), (.iload_n 3, 1, []), (.iconst 1, 1, []), (.iadd, 1, []), (.iaload, 1, []), (.invokevirtual 167, 3, [38, 2, 2, 10]), (.nop, 0, []), (.nop, 0, [])],
  [(.aload_n 2, 1, []), (.aload_n 0, 1, []), (.iload_n 3, 1, []), (.iconst 1, 1, []), (.iadd, 1, []), (.iaload, 1, []), (.invokevirtual 170, 3, [160, 2, 2, 11]), (.nop, 0, []), (.nop, 0, []), (.if_icmp .eq 468, 3, [1613]), (.nop, 0, []), (.nop, 0, []), (.iconst 0, 1, []), (.ireturn, 1, [1]), (.aload_n 1, 1, []), (.aload_n 0, 1, [])],
  [(.iload_n 3, 1, []), (.iconst 1, 1, []), (.iadd, 1, []), (.iaload, 1, []), (.aload_n 0, 1, []), (.iload_n 3, 1, []), (.iconst 2, 1, []), (.iadd, 1, []), (.iaload, 1, []), (.invokevirtual 171, 3, [33, 3, 4, 10]), (.nop, 0, []), (.nop, 0, []), (.aload_n 2, 1, []), (.aload_n 0, 1, []), (.iload_n 3, 1, []), (.iconst 1, 1, [])],
  [(.iadd, 1, []), (.iaload, 1, []), (.aload_n 0, 1, []), (.iload_n 3, 1, []), (.iconst 2, 1, []), (.iadd, 1, []), (.iaload, 1, []), (.invokevirtual 174, 3, [152, 3, 5, 11]), (.nop, 0, []), (.nop, 0, []), (.if_icmp .eq 435, 3, [1613]), (.nop, 0, []), (.nop, 0, []), (.iconst 0, 1, []), (.ireturn, 1, [1]), (.aload_n 1, 1, [])],
  [(.invokevirtual 175, 3, [57, 1, 1, 10]), (.nop, 0, []), (.nop, 0, []), (.aload_n 2, 1, []), (.invokevirtual 178, 3, [185, 1, 1, 11]), (.nop, 0, []), (.nop, 0, []), (.if_icmp .eq 422, 3, [1613]), (.nop, 0, []), (.nop, 0, []), (.iconst 0, 1, []), (.ireturn, 1, [1]), (.aload_n 1, 1, []), (.aload_n 0, 1, []), (.iload_n 3, 1, []), (.iconst 1, 1, [])],
  [(.iadd, 1, []), (.iaload, 1, []), (.invokevirtual 179, 3, [4, 2, 6, 10]), (.nop, 0, []), (.nop, 0, []), (.aload_n 2, 1, []), (.aload_n 0, 1, []), (.iload_n 3, 1, []), (.iconst 1, 1, []), (.iadd, 1, []), (.iaload, 1, []), (.invokevirtual 182, 3, [114, 2, 6, 11]), (.nop, 0, []), (.nop, 0, []), (.if_icmp .eq 399, 3, [1613]), (.nop, 0, [])],
  [(.nop, 0, []), (.iconst 0, 1, []), (.ireturn, 1, [1]), (.aload_n 1, 1, []), (.invokevirtual 183, 3, [63, 1, 4, 10]), (.nop, 0, []), (.nop, 0, []), (.aload_n 2, 1, []), (.invokevirtual 186, 3, [190, 1, 3, 11]), (.nop, 0, []), (.nop, 0, []), (.if_icmp .eq 386, 3, [1613]), (.nop, 0, []), (.nop, 0, []), (.iconst 0, 1, []), (.ireturn, 1, [1])],
  [(.aload_n 1, 1, []), (.invokevirtual 187, 3, [21, 1, 4, 10]), (.nop, 0, []), (.nop, 0, []), (.aload_n 2, 1, []), (.invokevirtual 190, 3, [133, 1, 3, 11]), (.nop, 0, []), (.nop, 0, []), (.if_icmp .eq 373, 3, [1613]), (.nop, 0, []), (.nop, 0, []), (.iconst 0, 1, []), (.ireturn, 1, [1]), (.aload_n 1, 1, []), (.invokevirtual 191, 3, [72, 1, 1, 10]), (.nop, 0, [])],
  [(.nop, 0, []), (.aload_n 2, 1, []), (.invokevirtual 194, 3, [200, 1, 1, 11]), (.nop, 0, []), (.nop, 0, []), (.if_icmp .eq 360, 3, [1613]), (.nop, 0, []), (.nop, 0, []), (.iconst 0, 1, []), (.ireturn, 1, [1]), (.aload_n 1, 1, []), (.invokevirtual 195, 3, [40, 1, 1, 10]), (.nop, 0, []), (.nop, 0, []), (.aload_n 2, 1, []), (.invokevirtual 198, 3, [162, 1, 1, 11])],
  [(.nop, 0, []), (.nop, 0, []), (.if_icmp .eq 347, 3, [1613]), (.nop, 0, []), (.nop, 0, []), (.iconst 0, 1, []), (.ireturn, 1, [1]), (.aload_n 1, 1, []), (.aload_n 0, 1, []), (.iload_n 3, 1, []), (.iconst 1, 1, []), (.iadd, 1, []), (.iaload, 1, []), (.invokevirtual 199, 3, [35, 2, 2, 10]), (.nop, 0, []), (.nop, 0, [])],
  [(.aload_n 2, 1, []), (.aload_n 0, 1, []), (.iload_n 3, 1, []), (.iconst 1, 1, []), (.iadd, 1, []), (.iaload, 1, []), (.invokevirtual 202, 3, [154, 2, 2, 11]), (.nop, 0, []), (.nop, 0, []), (.if_icmp .eq 324, 3, [1613]), (.nop, 0, []), (.nop, 0, []), (.iconst 0, 1, []), (.ireturn, 1, [1]), (.aload_n 1, 1, []), (.aload_n 0, 1, [])],
  [(.iload_n 3, 1, []), (.iconst 1, 1, []), (.iadd, 1, []), (.iaload, 1, []), (.aload_n 0, 1, []), (.iload_n 3, 1, []), (.iconst 2, 1, []), (.iadd, 1, []), (.iaload, 1, []), (.invokevirtual 203, 3, [45, 3, 6, 10]), (.nop, 0, []), (.nop, 0, []), (.aload_n 2, 1, []), (.aload_n 0, 1, []), (.iload_n 3, 1, []), (.iconst 1, 1, [])],
  [(.iadd, 1, []), (.iaload, 1, []), (.aload_n 0, 1, []), (.iload_n 3, 1, []), (.iconst 2, 1, []), (.iadd, 1, []), (.iaload, 1, []), (.invokevirtual 206, 3, [169, 3, 6, 11]), (.nop, 0, []), (.nop, 0, []), (.if_icmp .eq 291, 3, [1613]), (.nop, 0, []), (.nop, 0, []), (.iconst 0, 1, []), (.ireturn, 1, [1]), (.aload_n 1, 1, [])],
  [(.aload_n 0, 1, []), (.iload_n 3, 1, []), (.iconst 1, 1, []), (.iadd, 1, []), (.iaload, 1, []), (.invokevirtual 207, 3, [39, 2, 2, 10]), (.nop, 0, []), (.nop, 0, []), (.aload_n 2, 1, []), (.aload_n 0, 1, []), (.iload_n 3, 1, []), (.iconst 1, 1, []), (.iadd, 1, []), (.iaload, 1, []), (.invokevirtual 210, 3, [161, 2, 2, 11]), (.nop, 0, [])],
  [(.nop, 0, []), (.if_icmp .eq 268, 3, [1613]), (.nop, 0, []), (.nop, 0, []), (.iconst 0, 1, []), (.ireturn, 1, [1]), (.aload_n 1, 1, []), (.aload_n 0, 1, []), (.iload_n 3, 1, []), (.iconst 1, 1, []), (.iadd, 1, []), (.iaload, 1, []), (.aload_n 0, 1, []), (.iload_n 3, 1, []), (.iconst 2, 1, []), (.iadd, 1, [])],
  [(.iaload, 1, []), (.aload_n 0, 1, []), (.iload_n 3, 1, []), (.iconst 3, 1, []), (.iadd, 1, []), (.iaload, 1, []), (.ifCond .eq 7, 3, [1373]), (.nop, 0, []), (.nop, 0, []), (.iconst 1, 1, []), (.goto 4, 3, [1374]), (.nop, 0, []), (.nop, 0, []), (.iconst 0, 1, []), (.invokevirtual 211, 3, [58, 4, 4, 10]), (.nop, 0, [])],
  [(.nop, 0, []), (.aload_n 2, 1, []), (.aload_n 0, 1, []), (.iload_n 3, 1, []), (.iconst 1, 1, []), (.iadd, 1, []), (.iaload, 1, []), (.aload_n 0, 1, []), (.iload_n 3, 1, []), (.iconst 2, 1, []), (.iadd, 1, []), (.iaload, 1, []), (.aload_n 0, 1, []), (.iload_n 3, 1, []), (.iconst 3, 1, []), (.iadd, 1, [])],
  [(.iaload, 1, []), (.ifCond .eq 7, 3, [1400]), (.nop, 0, []), (.nop, 0, []), (.iconst 1, 1, []), (.goto 4, 3, [1401]), (.nop, 0, []), (.nop, 0, []), (.iconst 0, 1, []), (.invokevirtual 215, 3, [186, 4, 4, 11]), (.nop, 0, []), (.nop, 0, []), (.if_icmp .eq 209, 3, [1613]), (.nop, 0, []), (.nop, 0, []), (.iconst 0, 1, [])],
  [(.ireturn, 1, [1]), (.aload_n 1, 1, []), (.aload_n 0, 1, []), (.iload_n 3, 1, []), (.iconst 1, 1, []), (.iadd, 1, []), (.iaload, 1, []), (.invokevirtual 216, 3, [71, 2, 2, 10]), (.nop, 0, []), (.nop, 0, []), (.aload_n 2, 1, []), (.aload_n 0, 1, []), (.iload_n 3, 1, []), (.iconst 1, 1, []), (.iadd, 1, []), (.iaload, 1, [])],
  [(.invokevirtual 220, 3, [199, 2, 2, 11]), (.nop, 0, []), (.nop, 0, []), (.if_icmp .eq 186, 3, [1613]), (.nop, 0, []), (.nop, 0, []), (.iconst 0, 1, []), (.ireturn, 1, [1]), (.aload_n 1, 1, []), (.aload_n 0, 1, []), (.iload_n 3, 1, []), (.iconst 1, 1, []), (.iadd, 1, []), (.iaload, 1, []), (.invokevirtual 221, 3, [34, 2, 2, 10]), (.nop, 0, [])],
  [(.nop, 0, []), (.aload_n 2, 1, []), (.aload_n 0, 1, []), (.iload_n 3, 1, []), (.iconst 1, 1, []), (.iadd, 1, []), (.iaload, 1, []), (.invokevirtual 224, 3, [153, 2, 2, 11]), (.nop, 0, []), (.nop, 0, []), (.if_icmp .eq 163, 3, [1613]), (.nop, 0, []), (.nop, 0, []), (.iconst 0, 1, []), (.ireturn, 1, [1]), (.aload_n 1, 1, [])],
  [(.aload_n 0, 1, []), (.iload_n 3, 1, []), (.iconst 1, 1, []), (.iadd, 1, []), (.iaload, 1, []), (.invokevirtual 225, 3, [20, 2, 2, 10]), (.nop, 0, []), (.nop, 0, []), (.aload_n 2, 1, []), (.aload_n 0, 1, []), (.iload_n 3, 1, []), (.iconst 1, 1, []), (.iadd, 1, []), (.iaload, 1, []), (.invokevirtual 228, 3, [132, 2, 2, 11]), (.nop, 0, [])],
  [(.nop, 0, []), (.if_icmp .eq 140, 3, [1613]), (.nop, 0, []), (.nop, 0, []), (.iconst 0, 1, []), (.ireturn, 1, [1]), (.aload_n 1, 1, []), (.aload_n 0, 1, []), (.iload_n 3, 1, []), (.iconst 1, 1, []), (.iadd, 1, []), (.iaload, 1, []), (.aload_n 0, 1, []), (.iload_n 3, 1, []), (.iconst 2, 1, []), (.iadd, 1, [])],
  [(.iaload, 1, []), (.invokevirtual 229, 3, [66, 3, 7, 10]), (.nop, 0, []), (.nop, 0, []), (.aload_n 2, 1, []), (.aload_n 0, 1, []), (.iload_n 3, 1, []), (.iconst 1, 1, []), (.iadd, 1, []), (.iaload, 1, []), (.aload_n 0, 1, []), (.iload_n 3, 1, []), (.iconst 2, 1, []), (.iadd, 1, []), (.iaload, 1, []), (.invokevirtual 232, 3, [193, 3, 5, 11])],
  [(.nop, 0, []), (.nop, 0, []), (.if_icmp .eq 107, 3, [1613]), (.nop, 0, []), (.nop, 0, []), (.iconst 0, 1, []), (.ireturn, 1, [1]), (.aload_n 1, 1, []), (.aload_n 0, 1, []), (.iload_n 3, 1, []), (.iconst 1, 1, []), (.iadd, 1, []), (.iaload, 1, []), (.aload_n 0, 1, []), (.iload_n 3, 1, []), (.iconst 2, 1, [])],
  [(.iadd, 1, []), (.iaload, 1, []), (.invokevirtual 233, 3, [5, 3, 8, 10]), (.nop, 0, []), (.nop, 0, []), (.aload_n 2, 1, []), (.aload_n 0, 1, []), (.iload_n 3, 1, []), (.iconst 1, 1, []), (.iadd, 1, []), (.iaload, 1, []), (.aload_n 0, 1, []), (.iload_n 3, 1, []), (.iconst 2, 1, []), (.iadd, 1, []), (.iaload, 1, [])],
  [(.invokevirtual 236, 3, [115, 3, 5, 11]), (.nop, 0, []), (.nop, 0, []), (.if_icmp .eq 74, 3, [1613]), (.nop, 0, []), (.nop, 0, []), (.iconst 0, 1, []), (.ireturn, 1, [1]), (.aload_n 1, 1, []), (.aload_n 0, 1, []), (.iload_n 3, 1, []), (.iconst 1, 1, []), (.iadd, 1, []), (.iaload, 1, []), (.invokevirtual 237, 3, [26, 2, 2, 10]), (.nop, 0, [])],
  [(.nop, 0, []), (.aload_n 2, 1, []), (.aload_n 0, 1, []), (.iload_n 3, 1, []), (.iconst 1, 1, []), (.iadd, 1, []), (.iaload, 1, []), (.invokevirtual 240, 3, [141, 2, 3, 11]), (.nop, 0, []), (.nop, 0, []), (.if_icmp .eq 51, 3, [1613]), (.nop, 0, []), (.nop, 0, []), (.iconst 0, 1, []), (.ireturn, 1, [1]), (.aload_n 1, 1, [])],
  [(.aload_n 0, 1, []), (.iload_n 3, 1, []), (.iconst 1, 1, []), (.iadd, 1, []), (.iaload, 1, []), (.invokevirtual 241, 3, [7, 2, 2, 10]), (.nop, 0, []), (.nop, 0, []), (.aload_n 2, 1, []), (.aload_n 0, 1, []), (.iload_n 3, 1, []), (.iconst 1, 1, []), (.iadd, 1, []), (.iaload, 1, []), (.invokevirtual 244, 3, [117, 2, 3, 11]), (.nop, 0, [])],
  [(.nop, 0, []), (.if_icmp .eq 28, 3, [1613]), (.nop, 0, []), (.nop, 0, []), (.iconst 0, 1, []), (.ireturn, 1, [1]), (.aload_n 1, 1, []), (.aload_n 0, 1, []), (.iload_n 3, 1, []), (.iconst 1, 1, []), (.iadd, 1, []), (.iaload, 1, []), (.invokevirtual 245, 3, [1, 2, 2, 10]), (.nop, 0, []), (.nop, 0, []), (.aload_n 2, 1, [])],
  [(.aload_n 0, 1, []), (.iload_n 3, 1, []), (.iconst 1, 1, []), (.iadd, 1, []), (.iaload, 1, []), (.invokevirtual 248, 3, [112, 2, 2, 11]), (.nop, 0, []), (.nop, 0, []), (.if_icmp .eq 5, 3, [1613]), (.nop, 0, []), (.nop, 0, []), (.iconst 0, 1, []), (.ireturn, 1, [1]), (.iinc 3 6, 3, []), (.nop, 0, []), (.nop, 0, [])],
  [(.goto (-1598), 3, [18]), (.nop, 0, []), (.nop, 0, []), (.iconst 1, 1, []), (.ireturn, 1, [1])]]
def g_ts : List q_T := [g_t0, g_t1, g_t2, g_t3, g_t4, g_t5, g_t6, g_t7, g_t8, g_t9, g_t10, g_t11, g_t12, g_t13, g_t14, g_t15, g_t16, g_t17, g_t18, g_t19, g_t20, g_t21, g_t22, g_t23, g_t24, g_t25, g_t26, g_t27, g_t28, g_t29, g_t30, g_t31, g_t32, g_t33, g_t34, g_t35, g_t36, g_t37, g_t38, g_t39, g_t40, g_t41, g_t42, g_t43, g_t44, g_t45, g_t46, g_t47, g_t48, g_t49, g_t50, g_t51, g_t52, g_t53, g_t54, g_t55, g_t56, g_t57, g_t58, g_t59, g_t60, g_t61, g_t62, g_t63, g_t64, g_t65, g_t66, g_t67, g_t68, g_t69, g_t70, g_t71, g_t72, g_t73, g_t74, g_t75, g_t76, g_t77, g_t78, g_t79, g_t80, g_t81, g_t82, g_t83, g_t84, g_t85, g_t86, g_t87, g_t88, g_t89, g_t90, g_t91, g_t92, g_t93, g_t94, g_t95, g_t96, g_t97, g_t98, g_t99, g_t100, g_t101, g_t102, g_t103, g_t104, g_t105, g_t106, g_t107, g_t108, g_t109, g_t110, g_t111, g_t112, g_t113, g_t114, g_t115, g_t116, g_t117, g_t118, g_t119, g_t120, g_t121, g_t122, g_t123, g_t124, g_t125, g_t126, g_t127, g_t128, g_t129, g_t130, g_t131, g_t132, g_t133, g_t134, g_t135, g_t136, g_t137, g_t138, g_t139, g_t140, g_t141, g_t142, g_t143, g_t144, g_t145, g_t146, g_t147, g_t148, g_t149, g_t150, g_t151, g_t152, g_t153, g_t154, g_t155, g_t156, g_t157, g_t158, g_t159, g_t160, g_t161, g_t162, g_t163, g_t164, g_t165, g_t166, g_t167, g_t168, g_t169, g_t170, g_t171, g_t172, g_t173, g_t174, g_t175, g_t176, g_t177, g_t178, g_t179, g_t180, g_t181, g_t182, g_t183, g_t184, g_t185, g_t186, g_t187, g_t188, g_t189, g_t190, g_t191, g_t192, g_t193, g_t194, g_t195, g_t196, g_t197, g_t198, g_t199, g_t200, g_t201, g_t202, g_t203, g_t204]
end
section
set_option maxRecDepth 100000 in
noncomputable def g_f0 : q_YT q_A (q_Rf q_A) := [
  [q_f_ld 1 0 1, q_f_obj 3, q_f_no, q_f_no, q_f_ld 1 0 1, q_f_new [7, 3, 0] 3, q_f_no, q_f_no, q_f_dup 1, q_f_inv 2 [100, 1, 1] 3, q_f_no, q_f_no, q_f_putf [10, 0, 3] 3, q_f_no, q_f_no, q_f_ld 1 0 1],
  [q_f_new [8, 0, 3, 3, 3, 0, 3, 3, 3, 3, 0, 0, 0, 0, 3] 3, q_f_no, q_f_no, q_f_dup 1, q_f_inv 2 [103, 1, 1] 3, q_f_no, q_f_no, q_f_putf [10, 2, 3] 3, q_f_no, q_f_no, q_f_ld 1 0 1, q_f_new [8, 0, 3, 3, 3, 0, 3, 3, 3, 3, 0, 0, 0, 0, 3] 3, q_f_no, q_f_no, q_f_dup 1, q_f_inv 2 [103, 1, 1] 3],
  [q_f_no, q_f_no, q_f_putf [10, 3, 3] 3, q_f_no, q_f_no, q_f_ld 1 0 1, q_f_new [4, 3, 3, 0, 0, 0, 0, 2, 0, 0, 0] 3, q_f_no, q_f_no, q_f_dup 1, q_f_ld 1 0 1, q_f_getf [10, 0, 3] 3, q_f_no, q_f_no, q_f_ld 1 0 1, q_f_getf [10, 3, 3] 3],
  [q_f_no, q_f_no, q_f_inv 2 [87, 3, 3] 3, q_f_no, q_f_no, q_f_putf [10, 1, 3] 3, q_f_no, q_f_no, q_f_ld 1 0 1, q_f_new [6, 3, 0, 3, 0, 3, 3, 0, 0, 0, 0] 3, q_f_no, q_f_no, q_f_dup 1, q_f_inv 2 [95, 1, 1] 3, q_f_no, q_f_no],
  [q_f_putf [10, 4, 3] 3, q_f_no, q_f_no, q_f_ld 1 0 1, q_f_getf [10, 4, 3] 3, q_f_no, q_f_no, q_f_ld 1 0 1, q_f_getf [10, 2, 3] 3, q_f_no, q_f_no, q_f_inv 1 [96, 2, 3, 6] 3, q_f_no, q_f_no, q_f_ld 1 0 1, q_f_new [2, 3, 0, 0, 0] 3],
  [q_f_no, q_f_no, q_f_dup 1, q_f_inv 2 [80, 1, 1] 3, q_f_no, q_f_no, q_f_putf [10, 5, 3] 3, q_f_no, q_f_no, q_f_ld 1 0 1, q_f_getf [10, 5, 3] 3, q_f_no, q_f_no, q_f_ld 1 0 1, q_f_getf [10, 4, 3] 3, q_f_no],
  [q_f_no, q_f_inv 1 [81, 2, 2, 2] 3, q_f_no, q_f_no, q_f_ld 1 0 1, q_f_k (Int8.ofInt 72).toInt32 2, q_f_no, q_f_newa [100] 2, q_f_no, q_f_putf [10, 6, 3] 3, q_f_no, q_f_no, q_f_ld 1 0 1, q_f_new [9, 3, 3, 0, 3, 0, 3, 0, 0, 0, 0, 0, 3, 3, 3, 0, 0, 0, 0, 3, 3] 3, q_f_no, q_f_no],
  [q_f_dup 1, q_f_ld 1 0 1, q_f_getf [10, 2, 3] 3, q_f_no, q_f_no, q_f_inv 2 [105, 2, 2] 3, q_f_no, q_f_no, q_f_putf [10, 8, 3] 3, q_f_no, q_f_no, q_f_ld 1 0 1, q_f_new [1, 3, 3, 3, 3, 3, 3, 0, 0] 3, q_f_no, q_f_no, q_f_dup 1],
  [q_f_ld 1 0 1, q_f_getf [10, 8, 3] 3, q_f_no, q_f_no, q_f_inv 2 [76, 2, 2] 3, q_f_no, q_f_no, q_f_putf [10, 9, 3] 3, q_f_no, q_f_no, q_f_ld 1 0 1, q_f_new [3, 3, 3, 3, 0] 3, q_f_no, q_f_no, q_f_dup 1, q_f_inv 2 [85, 1, 1] 3],
  [q_f_no, q_f_no, q_f_putf [10, 10, 3] 3, q_f_no, q_f_no, q_f_ld 1 0 1, q_f_new [5, 0, 0, 0, 3, 3, 3, 3, 3, 3, 3] 3, q_f_no, q_f_no, q_f_dup 1, q_f_inv 2 [91, 1, 1] 3, q_f_no, q_f_no, q_f_putf [10, 11, 3] 3, q_f_no, q_f_no],
  [q_f_ld 1 0 1, q_f_k (Int16.ofInt 128).toInt32 3, q_f_no, q_f_no, q_f_newa [100] 2, q_f_no, q_f_putf [10, 12, 3] 3, q_f_no, q_f_no, q_f_ld 1 0 1, q_f_k (Int8.ofInt 7).toInt32 2, q_f_no, q_f_newa [100] 2, q_f_no, q_f_putf [10, 13, 3] 3, q_f_no],
  [q_f_no, q_f_ret]]
set_option maxRecDepth 100000 in
theorem g_e0 : g_f0 = q_yt g_t0 := rfl
set_option maxRecDepth 100000 in
noncomputable def g_f1 : q_YT q_A (q_Rf q_A) := [
  [q_f_ld 0 1 1, q_f_k (Int8.ofInt 8).toInt32 2, q_f_no, q_f_ic 2 [12] 3, q_f_no, q_f_no, q_f_ld 1 0 1, q_f_ld 0 1 1, q_f_inv 1 [2, 2, 2, 10] 3, q_f_no, q_f_no, q_f_iret [0], q_f_ld 0 1 1, q_f_tsw 0 7 [120, 60, 68, 76, 84, 92, 98, 104, 112], q_f_no, q_f_no],
  [q_f_no, q_f_no, q_f_no, q_f_no, q_f_no, q_f_no, q_f_no, q_f_no, q_f_no, q_f_no, q_f_no, q_f_no, q_f_no, q_f_no, q_f_no, q_f_no],
  [q_f_no, q_f_no, q_f_no, q_f_no, q_f_no, q_f_no, q_f_no, q_f_no, q_f_no, q_f_no, q_f_no, q_f_no, q_f_no, q_f_no, q_f_no, q_f_no],
  [q_f_no, q_f_no, q_f_no, q_f_no, q_f_no, q_f_no, q_f_no, q_f_no, q_f_no, q_f_no, q_f_no, q_f_no, q_f_ld 1 0 1, q_f_getf [10, 2, 3] 3, q_f_no, q_f_no],
  [q_f_getf [8, 4, 0] 3, q_f_no, q_f_no, q_f_iret [0], q_f_ld 1 0 1, q_f_getf [10, 2, 3] 3, q_f_no, q_f_no, q_f_getf [8, 0, 0] 3, q_f_no, q_f_no, q_f_iret [0], q_f_ld 1 0 1, q_f_getf [10, 4, 3] 3, q_f_no, q_f_no],
  [q_f_getf [6, 1, 0] 3, q_f_no, q_f_no, q_f_iret [0], q_f_ld 1 0 1, q_f_getf [10, 2, 3] 3, q_f_no, q_f_no, q_f_getf [8, 10, 0] 3, q_f_no, q_f_no, q_f_iret [0], q_f_ld 1 0 1, q_f_k (Int32.ofInt 2) 1, q_f_inv 1 [8, 2, 2, 10] 3, q_f_no],
  [q_f_no, q_f_iret [0], q_f_ld 1 0 1, q_f_k (Int32.ofInt 3) 1, q_f_inv 1 [8, 2, 2, 10] 3, q_f_no, q_f_no, q_f_iret [0], q_f_ld 1 0 1, q_f_getf [10, 4, 3] 3, q_f_no, q_f_no, q_f_getf [6, 8, 0] 3, q_f_no, q_f_no, q_f_iret [0]],
  [q_f_ld 1 0 1, q_f_getf [10, 4, 3] 3, q_f_no, q_f_no, q_f_getf [6, 9, 0] 3, q_f_no, q_f_no, q_f_iret [0], q_f_k (Int32.ofInt (-1)) 1, q_f_iret [0]]]
set_option maxRecDepth 100000 in
theorem g_e1 : g_f1 = q_yt g_t1 := rfl
set_option maxRecDepth 100000 in
noncomputable def g_f2 : q_YT q_A (q_Rf q_A) := [
  [q_f_ld 0 1 1, q_f_tsw 8 16 [124, 52, 60, 68, 76, 84, 92, 103, 108, 116], q_f_no, q_f_no, q_f_no, q_f_no, q_f_no, q_f_no, q_f_no, q_f_no, q_f_no, q_f_no, q_f_no, q_f_no, q_f_no, q_f_no],
  [q_f_no, q_f_no, q_f_no, q_f_no, q_f_no, q_f_no, q_f_no, q_f_no, q_f_no, q_f_no, q_f_no, q_f_no, q_f_no, q_f_no, q_f_no, q_f_no],
  [q_f_no, q_f_no, q_f_no, q_f_no, q_f_no, q_f_no, q_f_no, q_f_no, q_f_no, q_f_no, q_f_no, q_f_no, q_f_no, q_f_no, q_f_no, q_f_no],
  [q_f_no, q_f_no, q_f_no, q_f_no, q_f_ld 1 0 1, q_f_getf [10, 5, 3] 3, q_f_no, q_f_no, q_f_getf [2, 2, 0] 3, q_f_no, q_f_no, q_f_iret [0], q_f_ld 1 0 1, q_f_getf [10, 5, 3] 3, q_f_no, q_f_no],
  [q_f_getf [2, 3, 0] 3, q_f_no, q_f_no, q_f_iret [0], q_f_ld 1 0 1, q_f_getf [10, 11, 3] 3, q_f_no, q_f_no, q_f_getf [5, 1, 0] 3, q_f_no, q_f_no, q_f_iret [0], q_f_ld 1 0 1, q_f_getf [10, 11, 3] 3, q_f_no, q_f_no],
  [q_f_getf [5, 0, 0] 3, q_f_no, q_f_no, q_f_iret [0], q_f_ld 1 0 1, q_f_getf [10, 0, 3] 3, q_f_no, q_f_no, q_f_getf [7, 1, 0] 3, q_f_no, q_f_no, q_f_iret [0], q_f_ld 1 0 1, q_f_getf [10, 2, 3] 3, q_f_no, q_f_no],
  [q_f_getf [8, 13, 3] 3, q_f_no, q_f_no, q_f_getf [0, 4, 0] 3, q_f_no, q_f_no, q_f_iret [0], q_f_ld 1 0 1, q_f_getf [10, 14, 0] 3, q_f_no, q_f_no, q_f_iret [0], q_f_ld 1 0 1, q_f_getf [10, 2, 3] 3, q_f_no, q_f_no],
  [q_f_getf [8, 9, 0] 3, q_f_no, q_f_no, q_f_iret [0], q_f_ld 1 0 1, q_f_getf [10, 2, 3] 3, q_f_no, q_f_no, q_f_getf [8, 11, 0] 3, q_f_no, q_f_no, q_f_iret [0], q_f_k (Int32.ofInt (-1)) 1, q_f_iret [0]]]
set_option maxRecDepth 100000 in
theorem g_e2 : g_f2 = q_yt g_t2 := rfl
set_option maxRecDepth 100000 in
noncomputable def g_f3 : q_YT q_A (q_Rf q_A) := [
  [q_f_ld 1 0 1, q_f_ld 0 1 1, q_f_inv 1 [27, 2, 2, 10] 3, q_f_no, q_f_no, q_f_if 0 [20] 3, q_f_no, q_f_no, q_f_ld 1 0 1, q_f_getf [10, 4, 3] 3, q_f_no, q_f_no, q_f_ld 0 1 1, q_f_no, q_f_no, q_f_no],
  [q_f_ld 0 2 1, q_f_ic 1 [22] 3, q_f_no, q_f_no, q_f_k (Int32.ofInt (-1)) 1, q_f_iret [0], q_f_ld 1 0 1, q_f_getf [10, 4, 3] 3, q_f_no, q_f_no, q_f_dup 1, q_f_getf [6, 3, 0] 3, q_f_no, q_f_no, q_f_k (Int32.ofInt 1) 1, q_f_ld 0 1 1],
  [q_f_b2 6 1, q_f_b2 5 1, q_f_putf [6, 3, 0] 3, q_f_no, q_f_no, q_f_ld 1 0 1, q_f_getf [10, 5, 3] 3, q_f_no, q_f_no, q_f_ld 1 0 1, q_f_getf [10, 4, 3] 3, q_f_no, q_f_no, q_f_no, q_f_no, q_f_no],
  [q_f_ld 1 0 1, q_f_ld 0 1 1, q_f_no, q_f_no, q_f_no, q_f_iret [0]]]
set_option maxRecDepth 100000 in
theorem g_e3 : g_f3 = q_yt g_t3 := rfl
set_option maxRecDepth 100000 in
noncomputable def g_f4 : q_YT q_A (q_Rf q_A) := [
  [q_f_ld 0 1 1, q_f_if 2 [9] 3, q_f_no, q_f_no, q_f_ld 0 1 1, q_f_k (Int32.ofInt 1) 1, q_f_ic 5 [11] 3, q_f_no, q_f_no, q_f_k (Int32.ofInt (-1)) 1, q_f_iret [0], q_f_k (Int32.ofInt (-1)) 1, q_f_st 0 2 1, q_f_k (Int32.ofInt (-1)) 1, q_f_st 0 3 1, q_f_k (Int32.ofInt 0) 1],
  [q_f_st 0 4 2, q_f_no, q_f_ld 0 4 2, q_f_no, q_f_ld 1 0 1, q_f_getf [10, 2, 3] 3, q_f_no, q_f_no, q_f_getf [8, 4, 0] 3, q_f_no, q_f_no, q_f_ic 3 [86] 3, q_f_no, q_f_no, q_f_ld 1 0 1, q_f_ld 0 4 2],
  [q_f_no, q_f_inv 1 [27, 2, 2, 10] 3, q_f_no, q_f_no, q_f_if 1 [42] 3, q_f_no, q_f_no, q_f_goto 80, q_f_no, q_f_no, q_f_ld 1 0 1, q_f_inv 1 [46, 1, 1, 10] 3, q_f_no, q_f_no, q_f_ld 1 0 1, q_f_getf [10, 8, 3] 3],
  [q_f_no, q_f_no, q_f_ld 1 0 1, q_f_getf [10, 4, 3] 3, q_f_no, q_f_no, q_f_ld 0 4 2, q_f_no, q_f_no, q_f_no, q_f_no, q_f_no, q_f_no, q_f_no, q_f_ld 1 0 1, q_f_inv 1 [69, 1, 1, 10] 3],
  [q_f_no, q_f_no, q_f_st 0 5 2, q_f_no, q_f_ld 0 5 2, q_f_no, q_f_ld 0 2 1, q_f_ic 5 [80] 3, q_f_no, q_f_no, q_f_ld 0 5 2, q_f_no, q_f_st 0 2 1, q_f_ld 0 4 2, q_f_no, q_f_st 0 3 1],
  [q_f_iinc 4 1 3, q_f_no, q_f_no, q_f_goto 18, q_f_no, q_f_no, q_f_ld 0 1 1, q_f_if 1 [94] 3, q_f_no, q_f_no, q_f_ld 0 3 1, q_f_goto 95, q_f_no, q_f_no, q_f_ld 0 2 1, q_f_iret [0]]]
set_option maxRecDepth 100000 in
theorem g_e4 : g_f4 = q_yt g_t4 := rfl
set_option maxRecDepth 100000 in
noncomputable def g_f5 : q_YT q_A (q_Rf q_A) := [
  [q_f_ld 1 0 1, q_f_getf [10, 11, 3] 3, q_f_no, q_f_no, q_f_ld 0 2 1, q_f_inv 1 [92, 2, 4, 5] 3, q_f_no, q_f_no, q_f_st 0 3 1, q_f_ld 0 3 1, q_f_if 0 [22] 3, q_f_no, q_f_no, q_f_ld 0 1 1, q_f_if 2 [22] 3, q_f_no],
  [q_f_no, q_f_ld 0 1 1, q_f_k (Int32.ofInt 1) 1, q_f_ic 5 [24] 3, q_f_no, q_f_no, q_f_k (Int32.ofInt (-1)) 1, q_f_iret [0], q_f_k (Int32.ofInt 0) 1, q_f_st 0 4 2, q_f_no, q_f_ld 1 0 1, q_f_getf [10, 11, 3] 3, q_f_no, q_f_no, q_f_ld 0 3 1],
  [q_f_k (Int32.ofInt 0) 1, q_f_no, q_f_no, q_f_no, q_f_st 0 5 2, q_f_no, q_f_k (Int32.ofInt 1) 1, q_f_st 0 6 2, q_f_no, q_f_ld 0 6 2, q_f_no, q_f_k (Int8.ofInt 60).toInt32 2, q_f_no, q_f_ic 4 [81] 3, q_f_no, q_f_no],
  [q_f_ld 1 0 1, q_f_getf [10, 11, 3] 3, q_f_no, q_f_no, q_f_ld 0 3 1, q_f_ld 0 6 2, q_f_no, q_f_no, q_f_no, q_f_no, q_f_st 0 7 2, q_f_no, q_f_ld 0 7 2, q_f_no, q_f_ld 0 5 2, q_f_no],
  [q_f_ic 3 [75] 3, q_f_no, q_f_no, q_f_ld 0 7 2, q_f_no, q_f_st 0 5 2, q_f_no, q_f_ld 0 6 2, q_f_no, q_f_st 0 4 2, q_f_no, q_f_iinc 6 1 3, q_f_no, q_f_no, q_f_goto 41, q_f_no],
  [q_f_no, q_f_ld 0 1 1, q_f_if 1 [90] 3, q_f_no, q_f_no, q_f_ld 0 4 2, q_f_no, q_f_goto 92, q_f_no, q_f_no, q_f_ld 0 5 2, q_f_no, q_f_iret [0]]]
set_option maxRecDepth 100000 in
theorem g_e5 : g_f5 = q_yt g_t5 := rfl
set_option maxRecDepth 100000 in
noncomputable def g_f6 : q_YT q_A (q_Rf q_A) := [
  [q_f_ld 1 0 1, q_f_ld 0 1 1, q_f_inv 1 [31, 2, 2, 10] 3, q_f_no, q_f_no, q_f_if 0 [27] 3, q_f_no, q_f_no, q_f_ld 1 0 1, q_f_getf [10, 4, 3] 3, q_f_no, q_f_no, q_f_ld 0 1 1, q_f_no, q_f_no, q_f_no],
  [q_f_if 1 [27] 3, q_f_no, q_f_no, q_f_ld 1 0 1, q_f_ld 0 1 1, q_f_no, q_f_no, q_f_no, q_f_if 0 [29] 3, q_f_no, q_f_no, q_f_k (Int32.ofInt (-1)) 1, q_f_iret [0], q_f_ld 1 0 1, q_f_getf [10, 4, 3] 3, q_f_no],
  [q_f_no, q_f_dup 1, q_f_getf [6, 6, 0] 3, q_f_no, q_f_no, q_f_k (Int32.ofInt 1) 1, q_f_ld 0 1 1, q_f_b2 6 1, q_f_b2 4 1, q_f_putf [6, 6, 0] 3, q_f_no, q_f_no, q_f_ld 1 0 1, q_f_getf [10, 5, 3] 3, q_f_no, q_f_no],
  [q_f_ld 1 0 1, q_f_getf [10, 4, 3] 3, q_f_no, q_f_no, q_f_no, q_f_no, q_f_no, q_f_ld 1 0 1, q_f_getf [10, 4, 3] 3, q_f_no, q_f_no, q_f_ld 1 0 1, q_f_getf [10, 2, 3] 3, q_f_no, q_f_no, q_f_ld 0 1 1],
  [q_f_no, q_f_no, q_f_no, q_f_iret [0]]]
set_option maxRecDepth 100000 in
theorem g_e6 : g_f6 = q_yt g_t6 := rfl
set_option maxRecDepth 100000 in
noncomputable def g_f7 : q_YT q_A (q_Rf q_A) := [
  [q_f_ld 0 1 1, q_f_if 2 [20] 3, q_f_no, q_f_no, q_f_ld 0 1 1, q_f_k (Int32.ofInt 3) 1, q_f_ic 3 [20] 3, q_f_no, q_f_no, q_f_ld 1 0 1, q_f_getf [10, 7, 0] 3, q_f_no, q_f_no, q_f_ld 0 1 1, q_f_inv 0 [25, 2, 2] 3, q_f_no],
  [q_f_no, q_f_if 1 [22] 3, q_f_no, q_f_no, q_f_k (Int32.ofInt (-1)) 1, q_f_iret [0], q_f_ld 1 0 1, q_f_getf [10, 4, 3] 3, q_f_no, q_f_no, q_f_ld 1 0 1, q_f_getf [10, 6, 3] 3, q_f_no, q_f_no, q_f_ld 0 1 1, q_f_k (Int8.ofInt 24).toInt32 2],
  [q_f_no, q_f_b2 2 1, q_f_no, q_f_no, q_f_no, q_f_ld 1 0 1, q_f_getf [10, 5, 3] 3, q_f_no, q_f_no, q_f_ld 1 0 1, q_f_getf [10, 4, 3] 3, q_f_no, q_f_no, q_f_inv 1 [81, 2, 2, 2] 3, q_f_no, q_f_no],
  [q_f_ld 1 0 1, q_f_getf [10, 4, 3] 3, q_f_no, q_f_no, q_f_getf [6, 8, 0] 3, q_f_no, q_f_no, q_f_iret [0]]]
set_option maxRecDepth 100000 in
theorem g_e7 : g_f7 = q_yt g_t7 := rfl
set_option maxRecDepth 100000 in
noncomputable def g_f8 : q_YT q_A (q_Rf q_A) := [
  [q_f_ld 1 0 1, q_f_getf [10, 4, 3] 3, q_f_no, q_f_no, q_f_ld 0 1 1, q_f_ld 1 0 1, q_f_getf [10, 2, 3] 3, q_f_no, q_f_no, q_f_getf [8, 4, 0] 3, q_f_no, q_f_no, q_f_inv 1 [97, 3, 5, 6] 3, q_f_no, q_f_no, q_f_iret [0]]]
set_option maxRecDepth 100000 in
theorem g_e8 : g_f8 = q_yt g_t8 := rfl
set_option maxRecDepth 100000 in
noncomputable def g_f9 : q_YT q_A (q_Rf q_A) := [
  [q_f_ld 1 0 1, q_f_ld 0 1 1, q_f_inv 1 [27, 2, 2, 10] 3, q_f_no, q_f_no, q_f_if 0 [17] 3, q_f_no, q_f_no, q_f_ld 0 2 1, q_f_if 2 [17] 3, q_f_no, q_f_no, q_f_ld 0 2 1, q_f_k (Int32.ofInt 1) 1, q_f_ic 5 [21] 3, q_f_no],
  [q_f_no, q_f_k (Int16.ofInt (-1000)).toInt32 3, q_f_no, q_f_no, q_f_iret [0], q_f_ld 1 0 1, q_f_k (Int32.ofInt 0) 1, q_f_inv 1 [8, 2, 2, 10] 3, q_f_no, q_f_no, q_f_st 0 3 1, q_f_k (Int32.ofInt 0) 1, q_f_st 0 4 2, q_f_no, q_f_ld 0 4 2, q_f_no],
  [q_f_ld 0 3 1, q_f_ic 4 [78] 3, q_f_no, q_f_no, q_f_ld 0 4 2, q_f_no, q_f_ld 0 3 1, q_f_k (Int32.ofInt (-1)) 1, q_f_b2 5 1, q_f_b2 3 1, q_f_if 1 [72] 3, q_f_no, q_f_no, q_f_ld 1 0 1, q_f_ld 0 3 1, q_f_ld 0 4 2],
  [q_f_no, q_f_k (Int32.ofInt (-1)) 1, q_f_b2 5 1, q_f_b2 3 1, q_f_inv 1 [55, 2, 2, 10] 3, q_f_no, q_f_no, q_f_ld 1 0 1, q_f_getf [10, 12, 3] 3, q_f_no, q_f_no, q_f_ld 0 4 2, q_f_no, q_f_ld 1 0 1, q_f_getf [10, 8, 3] 3, q_f_no],
  [q_f_no, q_f_getf [9, 16, 0] 3, q_f_no, q_f_no, q_f_inv 0 [203, 1, 1] 3, q_f_no, q_f_no, q_f_ast 100 1, q_f_iinc 4 1 3, q_f_no, q_f_no, q_f_goto 30, q_f_no, q_f_no, q_f_k (Int32.ofInt 0) 1, q_f_st 0 4 2],
  [q_f_no, q_f_ld 0 3 1, q_f_k (Int32.ofInt 1) 1, q_f_ld 0 1 1, q_f_b2 6 1, q_f_k (Int32.ofInt (-1)) 1, q_f_b2 5 1, q_f_b2 3 1, q_f_st 0 5 2, q_f_no, q_f_k (Int32.ofInt 0) 1, q_f_st 0 6 2, q_f_no, q_f_ld 0 6 2, q_f_no, q_f_ld 0 5 2],
  [q_f_no, q_f_ic 4 [175] 3, q_f_no, q_f_no, q_f_ld 0 6 2, q_f_no, q_f_ld 0 5 2, q_f_no, q_f_k (Int32.ofInt (-1)) 1, q_f_b2 5 1, q_f_b2 3 1, q_f_if 1 [169] 3, q_f_no, q_f_no, q_f_ld 0 6 2, q_f_no],
  [q_f_inv 0 [203, 1, 1] 3, q_f_no, q_f_no, q_f_st 0 7 2, q_f_no, q_f_no, q_f_no, q_f_no, q_f_ld 0 7 2, q_f_no, q_f_ald 100 0 1, q_f_no, q_f_no, q_f_no, q_f_ld 1 0 1, q_f_getf [10, 4, 3] 3],
  [q_f_no, q_f_no, q_f_getf [6, 1, 0] 3, q_f_no, q_f_no, q_f_k (Int32.ofInt 1) 1, q_f_b2 1 1, q_f_ld 0 7 2, q_f_no, q_f_b2 1 1, q_f_ald 100 0 1, q_f_b2 2 1, q_f_st 0 8 2, q_f_no, q_f_ld 0 4 2, q_f_no],
  [q_f_ld 0 8 2, q_f_no, q_f_ld 1 0 1, q_f_getf [10, 12, 3] 3, q_f_no, q_f_no, q_f_ld 0 6 2, q_f_no, q_f_k (Int32.ofInt 1) 1, q_f_ld 0 1 1, q_f_b2 6 1, q_f_b2 4 1, q_f_ald 100 0 1, q_f_ld 1 0 1, q_f_getf [10, 12, 3] 3, q_f_no],
  [q_f_no, q_f_ld 0 6 2, q_f_no, q_f_ald 100 0 1, q_f_b2 1 1, q_f_b2 2 1, q_f_b2 0 1, q_f_st 0 4 2, q_f_no, q_f_iinc 6 1 3, q_f_no, q_f_no, q_f_goto 93, q_f_no, q_f_no, q_f_ld 0 4 2],
  [q_f_no, q_f_no, q_f_no, q_f_no, q_f_ld 1 0 1, q_f_getf [10, 4, 3] 3, q_f_no, q_f_no, q_f_getf [6, 1, 0] 3, q_f_no, q_f_no, q_f_ald 100 0 1, q_f_ld 0 2 1, q_f_inv 0 [49, 3, 4] 3, q_f_no, q_f_no],
  [q_f_iret [0]]]
set_option maxRecDepth 100000 in
theorem g_e9 : g_f9 = q_yt g_t9 := rfl
set_option maxRecDepth 100000 in
noncomputable def g_f10 : q_YT q_A (q_Rf q_A) := [
  [q_f_ld 0 1 1, q_f_ld 0 2 1, q_f_ic 0 [21] 3, q_f_no, q_f_no, q_f_ld 1 0 1, q_f_ld 0 1 1, q_f_inv 1 [27, 2, 2, 10] 3, q_f_no, q_f_no, q_f_if 0 [21] 3, q_f_no, q_f_no, q_f_ld 1 0 1, q_f_ld 0 2 1, q_f_inv 1 [27, 2, 2, 10] 3],
  [q_f_no, q_f_no, q_f_if 1 [23] 3, q_f_no, q_f_no, q_f_k (Int32.ofInt (-1)) 1, q_f_iret [0], q_f_ld 1 0 1, q_f_getf [10, 4, 3] 3, q_f_no, q_f_no, q_f_ld 0 1 1, q_f_no, q_f_no, q_f_no, q_f_st 0 3 1],
  [q_f_ld 1 0 1, q_f_getf [10, 4, 3] 3, q_f_no, q_f_no, q_f_ld 0 2 1, q_f_no, q_f_no, q_f_no, q_f_st 0 4 2, q_f_no, q_f_ld 1 0 1, q_f_getf [10, 4, 3] 3, q_f_no, q_f_no, q_f_getf [6, 0, 3] 3, q_f_no],
  [q_f_no, q_f_ld 0 3 1, q_f_ld 0 2 1, q_f_ast 100 1, q_f_ld 1 0 1, q_f_getf [10, 4, 3] 3, q_f_no, q_f_no, q_f_getf [6, 0, 3] 3, q_f_no, q_f_no, q_f_ld 0 4 2, q_f_no, q_f_ld 0 1 1, q_f_ast 100 1, q_f_ld 1 0 1],
  [q_f_getf [10, 5, 3] 3, q_f_no, q_f_no, q_f_ld 1 0 1, q_f_getf [10, 4, 3] 3, q_f_no, q_f_no, q_f_no, q_f_no, q_f_no, q_f_ld 1 0 1, q_f_inv 1 [13, 1, 1, 10] 3, q_f_no, q_f_no, q_f_iret [0]]]
set_option maxRecDepth 100000 in
theorem g_e10 : g_f10 = q_yt g_t10 := rfl
set_option maxRecDepth 100000 in
noncomputable def g_f11 : q_YT q_A (q_Rf q_A) := [
  [q_f_ld 0 0 1, q_f_st 0 2 1, q_f_ld 0 1 1, q_f_st 0 3 1, q_f_k (Int32.ofInt 0) 1, q_f_st 0 4 2, q_f_no, q_f_ld 0 4 2, q_f_no, q_f_k (Int8.ofInt 64).toInt32 2, q_f_no, q_f_ic 3 [34] 3, q_f_no, q_f_no, q_f_ld 0 3 1, q_f_if 0 [34] 3],
  [q_f_no, q_f_no, q_f_ld 0 2 1, q_f_ld 0 3 1, q_f_b2 10 1, q_f_st 0 5 2, q_f_no, q_f_ld 0 3 1, q_f_st 0 2 1, q_f_ld 0 5 2, q_f_no, q_f_st 0 3 1, q_f_iinc 4 1 3, q_f_no, q_f_no, q_f_goto 7],
  [q_f_no, q_f_no, q_f_ld 0 2 1, q_f_iret [0]]]
set_option maxRecDepth 100000 in
theorem g_e11 : g_f11 = q_yt g_t11 := rfl
set_option maxRecDepth 100000 in
noncomputable def g_f12 : q_YT q_A (q_Rf q_A) := [
  [q_f_ld 1 0 1, q_f_inv 1 [13, 1, 1, 10] 3, q_f_no, q_f_no, q_f_iret [0]]]
set_option maxRecDepth 100000 in
theorem g_e12 : g_f12 = q_yt g_t12 := rfl
set_option maxRecDepth 100000 in
noncomputable def g_f13 : q_YT q_A (q_Rf q_A) := [
  [q_f_ld 1 0 1, q_f_inv 1 [46, 1, 1, 10] 3, q_f_no, q_f_no, q_f_ld 1 0 1, q_f_inv 1 [69, 1, 1, 10] 3, q_f_no, q_f_no, q_f_iret [0]]]
set_option maxRecDepth 100000 in
theorem g_e13 : g_f13 = q_yt g_t13 := rfl
set_option maxRecDepth 100000 in
noncomputable def g_f14 : q_YT q_A (q_Rf q_A) := [
  [q_f_ld 1 0 1, q_f_inv 1 [46, 1, 1, 10] 3, q_f_no, q_f_no, q_f_ld 1 0 1, q_f_getf [10, 8, 3] 3, q_f_no, q_f_no, q_f_k (Int32.ofInt 0) 1, q_f_inv 1 [110, 2, 3, 9] 3, q_f_no, q_f_no, q_f_k (Int32.ofInt 0) 1, q_f_st 0 1 1, q_f_ld 0 1 1, q_f_k (Int8.ofInt 7).toInt32 2],
  [q_f_no, q_f_ic 3 [59] 3, q_f_no, q_f_no, q_f_ld 1 0 1, q_f_getf [10, 9, 3] 3, q_f_no, q_f_no, q_f_getf [1, 0, 3] 3, q_f_no, q_f_no, q_f_ld 0 1 1, q_f_ld 0 1 1, q_f_ld 1 0 1, q_f_getf [10, 2, 3] 3, q_f_no],
  [q_f_no, q_f_getf [8, 4, 0] 3, q_f_no, q_f_no, q_f_ic 3 [51] 3, q_f_no, q_f_no, q_f_ld 1 0 1, q_f_getf [10, 2, 3] 3, q_f_no, q_f_no, q_f_getf [8, 8, 3] 3, q_f_no, q_f_no, q_f_ld 0 1 1, q_f_ald 100 0 1],
  [q_f_goto 52, q_f_no, q_f_no, q_f_k (Int32.ofInt 0) 1, q_f_ast 100 1, q_f_iinc 1 1 3, q_f_no, q_f_no, q_f_goto 14, q_f_no, q_f_no, q_f_ld 1 0 1, q_f_ld 1 0 1, q_f_getf [10, 8, 3] 3, q_f_no, q_f_no],
  [q_f_getf [9, 16, 0] 3, q_f_no, q_f_no, q_f_ld 1 0 1, q_f_k (Int32.ofInt 0) 1, q_f_inv 1 [8, 2, 2, 10] 3, q_f_no, q_f_no, q_f_k (Int32.ofInt (-1)) 1, q_f_b2 5 1, q_f_b2 3 1, q_f_inv 1 [42, 2, 4, 10] 3, q_f_no, q_f_no, q_f_st 0 1 1, q_f_ld 1 0 1],
  [q_f_inv 1 [36, 1, 2, 10] 3, q_f_no, q_f_no, q_f_ld 0 1 1, q_f_b2 0 1, q_f_iret [0]]]
set_option maxRecDepth 100000 in
theorem g_e14 : g_f14 = q_yt g_t14 := rfl
set_option maxRecDepth 100000 in
noncomputable def g_f15 : q_YT q_A (q_Rf q_A) := [
  [q_f_ld 0 1 1, q_f_ld 0 2 1, q_f_ic 0 [21] 3, q_f_no, q_f_no, q_f_ld 1 0 1, q_f_ld 0 1 1, q_f_inv 1 [30, 2, 2, 10] 3, q_f_no, q_f_no, q_f_if 0 [21] 3, q_f_no, q_f_no, q_f_ld 1 0 1, q_f_ld 0 2 1, q_f_inv 1 [27, 2, 2, 10] 3],
  [q_f_no, q_f_no, q_f_if 1 [23] 3, q_f_no, q_f_no, q_f_k (Int32.ofInt (-1)) 1, q_f_iret [0], q_f_ld 1 0 1, q_f_k (Int32.ofInt 0) 1, q_f_inv 1 [55, 2, 2, 10] 3, q_f_no, q_f_no, q_f_ld 1 0 1, q_f_getf [10, 8, 3] 3, q_f_no, q_f_no],
  [q_f_ld 0 1 1, q_f_no, q_f_no, q_f_no, q_f_st 0 3 1, q_f_ld 1 0 1, q_f_k (Int32.ofInt 1) 1, q_f_ld 0 2 1, q_f_b2 6 1, q_f_inv 1 [55, 2, 2, 10] 3, q_f_no, q_f_no, q_f_ld 1 0 1, q_f_getf [10, 8, 3] 3, q_f_no, q_f_no],
  [q_f_ld 0 1 1, q_f_no, q_f_no, q_f_no, q_f_st 0 4 2, q_f_no, q_f_ld 0 4 2, q_f_no, q_f_k (Int32.ofInt (-1)) 1, q_f_ic 1 [62] 3, q_f_no, q_f_no, q_f_k (Int32.ofInt 0) 1, q_f_iret [0], q_f_ld 0 3 1, q_f_k (Int32.ofInt (-1)) 1],
  [q_f_ic 1 [72] 3, q_f_no, q_f_no, q_f_k (Int8.ofInt 60).toInt32 2, q_f_no, q_f_goto 76, q_f_no, q_f_no, q_f_ld 0 3 1, q_f_ld 0 4 2, q_f_no, q_f_b2 1 1, q_f_iret [0]]]
set_option maxRecDepth 100000 in
theorem g_e15 : g_f15 = q_yt g_t15 := rfl
set_option maxRecDepth 100000 in
noncomputable def g_f16 : q_YT q_A (q_Rf q_A) := [
  [q_f_ld 1 0 1, q_f_inv 1 [46, 1, 1, 10] 3, q_f_no, q_f_no, q_f_ld 1 0 1, q_f_getf [10, 8, 3] 3, q_f_no, q_f_no, q_f_k (Int32.ofInt 0) 1, q_f_inv 1 [110, 2, 3, 9] 3, q_f_no, q_f_no, q_f_ld 1 0 1, q_f_getf [10, 8, 3] 3, q_f_no, q_f_no],
  [q_f_inv 1 [106, 1, 3, 9] 3, q_f_no, q_f_no, q_f_iret [0]]]
set_option maxRecDepth 100000 in
theorem g_e16 : g_f16 = q_yt g_t16 := rfl
set_option maxRecDepth 100000 in
noncomputable def g_f17 : q_YT q_A (q_Rf q_A) := [
  [q_f_ld 0 1 1, q_f_if 2 [15] 3, q_f_no, q_f_no, q_f_ld 0 1 1, q_f_ld 1 0 1, q_f_getf [10, 0, 3] 3, q_f_no, q_f_no, q_f_getf [7, 1, 0] 3, q_f_no, q_f_no, q_f_ic 5 [17] 3, q_f_no, q_f_no, q_f_k (Int32.ofInt (-1)) 1],
  [q_f_iret [0], q_f_ld 1 0 1, q_f_getf [10, 0, 3] 3, q_f_no, q_f_no, q_f_ld 0 1 1, q_f_putf [7, 1, 0] 3, q_f_no, q_f_no, q_f_ld 0 1 1, q_f_iret [0]]]
set_option maxRecDepth 100000 in
theorem g_e17 : g_f17 = q_yt g_t17 := rfl
set_option maxRecDepth 100000 in
noncomputable def g_f18 : q_YT q_A (q_Rf q_A) := [
  [q_f_ld 0 1 1, q_f_if 1 [12] 3, q_f_no, q_f_no, q_f_ld 1 0 1, q_f_getf [10, 1, 3] 3, q_f_no, q_f_no, q_f_getf [4, 8, 0] 3, q_f_no, q_f_no, q_f_iret [0], q_f_ld 0 1 1, q_f_k (Int32.ofInt 1) 1, q_f_ic 1 [27] 3, q_f_no],
  [q_f_no, q_f_ld 1 0 1, q_f_getf [10, 1, 3] 3, q_f_no, q_f_no, q_f_getf [4, 9, 0] 3, q_f_no, q_f_no, q_f_goto 28, q_f_no, q_f_no, q_f_k (Int32.ofInt (-1)) 1, q_f_iret [0]]]
set_option maxRecDepth 100000 in
theorem g_e18 : g_f18 = q_yt g_t18 := rfl
set_option maxRecDepth 100000 in
noncomputable def g_f19 : q_YT q_A (q_Rf q_A) := [
  [q_f_ld 1 0 1, q_f_getf [10, 0, 3] 3, q_f_no, q_f_no, q_f_getf [7, 1, 0] 3, q_f_no, q_f_no, q_f_k (Int8.ofInt 20).toInt32 2, q_f_no, q_f_b2 0 1, q_f_k (Int16.ofInt 1600).toInt32 3, q_f_no, q_f_no, q_f_ic 5 [18] 3, q_f_no, q_f_no],
  [q_f_k (Int32.ofInt (-1)) 1, q_f_iret [0], q_f_ld 1 0 1, q_f_getf [10, 0, 3] 3, q_f_no, q_f_no, q_f_ld 0 1 1, q_f_inv 1 [102, 2, 3, 7] 3, q_f_no, q_f_no, q_f_ld 1 0 1, q_f_getf [10, 0, 3] 3, q_f_no, q_f_no, q_f_ld 0 2 1, q_f_inv 1 [102, 2, 3, 7] 3],
  [q_f_no, q_f_no, q_f_ld 1 0 1, q_f_getf [10, 0, 3] 3, q_f_no, q_f_no, q_f_ld 0 3 1, q_f_inv 1 [102, 2, 3, 7] 3, q_f_no, q_f_no, q_f_ld 1 0 1, q_f_getf [10, 0, 3] 3, q_f_no, q_f_no, q_f_ld 0 4 2, q_f_no],
  [q_f_inv 1 [102, 2, 3, 7] 3, q_f_no, q_f_no, q_f_ld 1 0 1, q_f_getf [10, 0, 3] 3, q_f_no, q_f_no, q_f_ld 0 5 2, q_f_no, q_f_inv 1 [102, 2, 3, 7] 3, q_f_no, q_f_no, q_f_ld 1 0 1, q_f_getf [10, 0, 3] 3, q_f_no, q_f_no],
  [q_f_getf [7, 1, 0] 3, q_f_no, q_f_no, q_f_iret [0]]]
set_option maxRecDepth 100000 in
theorem g_e19 : g_f19 = q_yt g_t19 := rfl
set_option maxRecDepth 100000 in
noncomputable def g_f20 : q_YT q_A (q_Rf q_A) := [
  [q_f_ld 1 0 1, q_f_getf [10, 11, 3] 3, q_f_no, q_f_no, q_f_ld 0 1 1, q_f_inv 1 [92, 2, 4, 5] 3, q_f_no, q_f_no, q_f_inv 0 [203, 1, 1] 3, q_f_no, q_f_no, q_f_iret [0]]]
set_option maxRecDepth 100000 in
theorem g_e20 : g_f20 = q_yt g_t20 := rfl
set_option maxRecDepth 100000 in
noncomputable def g_f21 : q_YT q_A (q_Rf q_A) := [
  [q_f_k (Int32.ofInt (-1)) 1, q_f_st 0 1 1, q_f_k (Int32.ofInt 0) 1, q_f_st 0 2 1, q_f_ld 0 2 1, q_f_ld 1 0 1, q_f_getf [10, 4, 3] 3, q_f_no, q_f_no, q_f_getf [6, 1, 0] 3, q_f_no, q_f_no, q_f_ic 3 [59] 3, q_f_no, q_f_no, q_f_ld 1 0 1],
  [q_f_getf [10, 4, 3] 3, q_f_no, q_f_no, q_f_getf [6, 0, 3] 3, q_f_no, q_f_no, q_f_ld 0 2 1, q_f_ald 100 0 1, q_f_st 0 3 1, q_f_ld 0 1 1, q_f_k (Int32.ofInt (-1)) 1, q_f_ic 0 [51] 3, q_f_no, q_f_no, q_f_ld 1 0 1, q_f_getf [10, 2, 3] 3],
  [q_f_no, q_f_no, q_f_getf [8, 8, 3] 3, q_f_no, q_f_no, q_f_ld 0 3 1, q_f_ald 100 0 1, q_f_ld 1 0 1, q_f_getf [10, 2, 3] 3, q_f_no, q_f_no, q_f_getf [8, 8, 3] 3, q_f_no, q_f_no, q_f_ld 0 1 1, q_f_ald 100 0 1],
  [q_f_ic 5 [53] 3, q_f_no, q_f_no, q_f_ld 0 3 1, q_f_st 0 1 1, q_f_iinc 2 1 3, q_f_no, q_f_no, q_f_goto 4, q_f_no, q_f_no, q_f_ld 0 1 1, q_f_iret [0]]]
set_option maxRecDepth 100000 in
theorem g_e21 : g_f21 = q_yt g_t21 := rfl
set_option maxRecDepth 100000 in
noncomputable def g_f22 : q_YT q_A (q_Rf q_A) := [
  [q_f_ld 1 0 1, q_f_ld 0 1 1, q_f_inv 1 [27, 2, 2, 10] 3, q_f_no, q_f_no, q_f_if 1 [10] 3, q_f_no, q_f_no, q_f_k (Int32.ofInt (-1)) 1, q_f_iret [0], q_f_ld 1 0 1, q_f_getf [10, 4, 3] 3, q_f_no, q_f_no, q_f_ld 1 0 1, q_f_getf [10, 4, 3] 3],
  [q_f_no, q_f_no, q_f_ld 0 1 1, q_f_no, q_f_no, q_f_no, q_f_no, q_f_no, q_f_no, q_f_ld 1 0 1, q_f_getf [10, 4, 3] 3, q_f_no, q_f_no, q_f_getf [6, 2, 3] 3, q_f_no, q_f_no],
  [q_f_ld 0 1 1, q_f_k (Int32.ofInt 4) 1, q_f_ast 100 1, q_f_ld 1 0 1, q_f_getf [10, 5, 3] 3, q_f_no, q_f_no, q_f_ld 1 0 1, q_f_getf [10, 4, 3] 3, q_f_no, q_f_no, q_f_no, q_f_no, q_f_no, q_f_ld 1 0 1, q_f_getf [10, 4, 3] 3],
  [q_f_no, q_f_no, q_f_getf [6, 1, 0] 3, q_f_no, q_f_no, q_f_iret [0]]]
set_option maxRecDepth 100000 in
theorem g_e22 : g_f22 = q_yt g_t22 := rfl
set_option maxRecDepth 100000 in
noncomputable def g_f23 : q_YT q_A (q_Rf q_A) := [
  [q_f_ld 1 0 1, q_f_ld 0 1 1, q_f_inv 1 [27, 2, 2, 10] 3, q_f_no, q_f_no, q_f_if 1 [10] 3, q_f_no, q_f_no, q_f_k (Int32.ofInt (-1)) 1, q_f_iret [0], q_f_ld 1 0 1, q_f_k (Int32.ofInt 0) 1, q_f_inv 1 [55, 2, 2, 10] 3, q_f_no, q_f_no, q_f_ld 1 0 1],
  [q_f_getf [10, 8, 3] 3, q_f_no, q_f_no, q_f_ld 0 1 1, q_f_no, q_f_no, q_f_no, q_f_k (Int32.ofInt (-1)) 1, q_f_ic 0 [29] 3, q_f_no, q_f_no, q_f_k (Int32.ofInt (-1)) 1, q_f_iret [0], q_f_k (Int32.ofInt 0) 1, q_f_st 0 2 1, q_f_k (Int32.ofInt 0) 1],
  [q_f_st 0 3 1, q_f_ld 0 3 1, q_f_ld 1 0 1, q_f_getf [10, 4, 3] 3, q_f_no, q_f_no, q_f_getf [6, 1, 0] 3, q_f_no, q_f_no, q_f_ic 3 [97] 3, q_f_no, q_f_no, q_f_ld 1 0 1, q_f_getf [10, 4, 3] 3, q_f_no, q_f_no],
  [q_f_getf [6, 0, 3] 3, q_f_no, q_f_no, q_f_ld 0 3 1, q_f_ald 100 0 1, q_f_st 0 4 2, q_f_no, q_f_ld 0 4 2, q_f_no, q_f_ld 0 1 1, q_f_ic 1 [64] 3, q_f_no, q_f_no, q_f_goto 91, q_f_no, q_f_no],
  [q_f_ld 1 0 1, q_f_k (Int32.ofInt 1) 1, q_f_ld 0 4 2, q_f_no, q_f_b2 6 1, q_f_inv 1 [55, 2, 2, 10] 3, q_f_no, q_f_no, q_f_ld 1 0 1, q_f_getf [10, 8, 3] 3, q_f_no, q_f_no, q_f_ld 0 1 1, q_f_no, q_f_no, q_f_no],
  [q_f_k (Int32.ofInt (-1)) 1, q_f_ic 0 [91] 3, q_f_no, q_f_no, q_f_ld 0 2 1, q_f_k (Int32.ofInt 1) 1, q_f_ld 0 4 2, q_f_no, q_f_b2 6 1, q_f_b2 4 1, q_f_st 0 2 1, q_f_iinc 3 1 3, q_f_no, q_f_no, q_f_goto 33, q_f_no],
  [q_f_no, q_f_ld 0 2 1, q_f_iret [0]]]
set_option maxRecDepth 100000 in
theorem g_e23 : g_f23 = q_yt g_t23 := rfl
set_option maxRecDepth 100000 in
noncomputable def g_f24 : q_YT q_A (q_Rf q_A) := [
  [q_f_ld 1 0 1, q_f_ld 0 1 1, q_f_inv 1 [31, 2, 2, 10] 3, q_f_no, q_f_no, q_f_if 0 [16] 3, q_f_no, q_f_no, q_f_ld 1 0 1, q_f_ld 0 1 1, q_f_no, q_f_no, q_f_no, q_f_if 0 [18] 3, q_f_no, q_f_no],
  [q_f_k (Int32.ofInt (-1)) 1, q_f_iret [0], q_f_ld 1 0 1, q_f_getf [10, 2, 3] 3, q_f_no, q_f_no, q_f_ld 0 1 1, q_f_no, q_f_no, q_f_no, q_f_ld 1 0 1, q_f_k (Int32.ofInt 0) 1, q_f_inv 1 [8, 2, 2, 10] 3, q_f_no, q_f_no, q_f_ld 1 0 1],
  [q_f_k (Int32.ofInt 1) 1, q_f_inv 1 [8, 2, 2, 10] 3, q_f_no, q_f_no, q_f_b2 4 1, q_f_b2 3 1, q_f_st 0 2 1, q_f_ld 1 0 1, q_f_inv 1 [46, 1, 1, 10] 3, q_f_no, q_f_no, q_f_ld 1 0 1, q_f_getf [10, 8, 3] 3, q_f_no, q_f_no, q_f_getf [9, 5, 3] 3],
  [q_f_no, q_f_no, q_f_ld 0 1 1, q_f_ald 100 0 1, q_f_st 0 3 1, q_f_k (Int32.ofInt 0) 1, q_f_st 0 4 2, q_f_no, q_f_ld 0 4 2, q_f_no, q_f_k (Int16.ofInt 240).toInt32 3, q_f_no, q_f_no, q_f_ic 4 [107] 3, q_f_no, q_f_no],
  [q_f_ld 1 0 1, q_f_getf [10, 8, 3] 3, q_f_no, q_f_no, q_f_getf [9, 5, 3] 3, q_f_no, q_f_no, q_f_ld 0 1 1, q_f_ld 0 3 1, q_f_ld 0 4 2, q_f_no, q_f_b2 0 1, q_f_ast 100 1, q_f_ld 1 0 1, q_f_getf [10, 8, 3] 3, q_f_no],
  [q_f_no, q_f_k (Int32.ofInt 0) 1, q_f_inv 1 [110, 2, 3, 9] 3, q_f_no, q_f_no, q_f_ld 1 0 1, q_f_getf [10, 8, 3] 3, q_f_no, q_f_no, q_f_getf [9, 16, 0] 3, q_f_no, q_f_no, q_f_ld 0 2 1, q_f_b2 3 1, q_f_ld 0 2 1, q_f_ic 1 [101] 3],
  [q_f_no, q_f_no, q_f_ld 0 4 2, q_f_no, q_f_iret [0], q_f_iinc 4 1 3, q_f_no, q_f_no, q_f_goto 56, q_f_no, q_f_no, q_f_k (Int32.ofInt (-1)) 1, q_f_iret [0]]]
set_option maxRecDepth 100000 in
theorem g_e24 : g_f24 = q_yt g_t24 := rfl
set_option maxRecDepth 100000 in
noncomputable def g_f25 : q_YT q_A (q_Rf q_A) := [
  [q_f_ld 0 0 1, q_f_ld 0 1 1, q_f_b2 7 1, q_f_k (Int32.ofInt 1) 1, q_f_b2 3 1, q_f_if 0 [12] 3, q_f_no, q_f_no, q_f_k (Int32.ofInt 1) 1, q_f_goto 13, q_f_no, q_f_no, q_f_k (Int32.ofInt 0) 1, q_f_iret [1]]]
set_option maxRecDepth 100000 in
theorem g_e25 : g_f25 = q_yt g_t25 := rfl
set_option maxRecDepth 100000 in
noncomputable def g_f26 : q_YT q_A (q_Rf q_A) := [
  [q_f_ld 0 1 1, q_f_if 2 [9] 3, q_f_no, q_f_no, q_f_ld 0 1 1, q_f_k (Int32.ofInt 3) 1, q_f_ic 2 [11] 3, q_f_no, q_f_no, q_f_k (Int32.ofInt (-1)) 1, q_f_iret [0], q_f_ld 1 0 1, q_f_getf [10, 4, 3] 3, q_f_no, q_f_no, q_f_ld 1 0 1],
  [q_f_getf [10, 6, 3] 3, q_f_no, q_f_no, q_f_ld 0 1 1, q_f_k (Int8.ofInt 24).toInt32 2, q_f_no, q_f_b2 2 1, q_f_inv 1 [99, 3, 4, 6] 3, q_f_no, q_f_no, q_f_ld 1 0 1, q_f_dup 1, q_f_getf [10, 7, 0] 3, q_f_no, q_f_no, q_f_k (Int32.ofInt 1) 1],
  [q_f_ld 0 1 1, q_f_b2 6 1, q_f_b2 4 1, q_f_putf [10, 7, 0] 3, q_f_no, q_f_no, q_f_ld 1 0 1, q_f_getf [10, 4, 3] 3, q_f_no, q_f_no, q_f_getf [6, 8, 0] 3, q_f_no, q_f_no, q_f_iret [0]]]
set_option maxRecDepth 100000 in
theorem g_e26 : g_f26 = q_yt g_t26 := rfl
set_option maxRecDepth 100000 in
noncomputable def g_f27 : q_YT q_A (q_Rf q_A) := [
  [q_f_ld 1 0 1, q_f_ld 0 1 1, q_f_inv 1 [30, 2, 2, 10] 3, q_f_no, q_f_no, q_f_if 0 [24] 3, q_f_no, q_f_no, q_f_ld 1 0 1, q_f_getf [10, 4, 3] 3, q_f_no, q_f_no, q_f_getf [6, 2, 3] 3, q_f_no, q_f_no, q_f_ld 0 1 1],
  [q_f_ald 100 0 1, q_f_if 1 [24] 3, q_f_no, q_f_no, q_f_k (Int32.ofInt 1) 1, q_f_goto 25, q_f_no, q_f_no, q_f_k (Int32.ofInt 0) 1, q_f_iret [1]]]
set_option maxRecDepth 100000 in
theorem g_e27 : g_f27 = q_yt g_t27 := rfl
set_option maxRecDepth 100000 in
noncomputable def g_f28 : q_YT q_A (q_Rf q_A) := [
  [q_f_ld 1 0 1, q_f_ld 0 1 1, q_f_k (Int32.ofInt 0) 1, q_f_inv 1 [3, 3, 3, 10] 3, q_f_no, q_f_no, q_f_iret [0]]]
set_option maxRecDepth 100000 in
theorem g_e28 : g_f28 = q_yt g_t28 := rfl
set_option maxRecDepth 100000 in
noncomputable def g_f29 : q_YT q_A (q_Rf q_A) := [
  [q_f_ld 0 1 1, q_f_k (Int32.ofInt (-1)) 1, q_f_ic 0 [16] 3, q_f_no, q_f_no, q_f_ld 0 0 1, q_f_inv 0 [203, 1, 1] 3, q_f_no, q_f_no, q_f_ld 0 1 1, q_f_inv 0 [203, 1, 1] 3, q_f_no, q_f_no, q_f_ic 3 [20] 3, q_f_no, q_f_no],
  [q_f_k (Int32.ofInt 1) 1, q_f_goto 21, q_f_no, q_f_no, q_f_k (Int32.ofInt 0) 1, q_f_iret [1]]]
set_option maxRecDepth 100000 in
theorem g_e29 : g_f29 = q_yt g_t29 := rfl
set_option maxRecDepth 100000 in
noncomputable def g_f30 : q_YT q_A (q_Rf q_A) := [
  [q_f_ld 0 1 1, q_f_if 2 [19] 3, q_f_no, q_f_no, q_f_ld 0 1 1, q_f_ld 1 0 1, q_f_getf [10, 2, 3] 3, q_f_no, q_f_no, q_f_getf [8, 4, 0] 3, q_f_no, q_f_no, q_f_ic 3 [19] 3, q_f_no, q_f_no, q_f_k (Int32.ofInt 1) 1],
  [q_f_goto 20, q_f_no, q_f_no, q_f_k (Int32.ofInt 0) 1, q_f_iret [1]]]
set_option maxRecDepth 100000 in
theorem g_e30 : g_f30 = q_yt g_t30 := rfl
set_option maxRecDepth 100000 in
noncomputable def g_f31 : q_YT q_A (q_Rf q_A) := [
  [q_f_ld 0 1 1, q_f_if 2 [19] 3, q_f_no, q_f_no, q_f_ld 0 1 1, q_f_ld 1 0 1, q_f_getf [10, 2, 3] 3, q_f_no, q_f_no, q_f_getf [8, 0, 0] 3, q_f_no, q_f_no, q_f_ic 3 [19] 3, q_f_no, q_f_no, q_f_k (Int32.ofInt 1) 1],
  [q_f_goto 20, q_f_no, q_f_no, q_f_k (Int32.ofInt 0) 1, q_f_iret [1]]]
set_option maxRecDepth 100000 in
theorem g_e31 : g_f31 = q_yt g_t31 := rfl
set_option maxRecDepth 100000 in
noncomputable def g_f32 : q_YT q_A (q_Rf q_A) := [
  [q_f_ld 1 0 1, q_f_ld 0 1 1, q_f_inv 1 [30, 2, 2, 10] 3, q_f_no, q_f_no, q_f_if 0 [36] 3, q_f_no, q_f_no, q_f_ld 1 0 1, q_f_ld 1 0 1, q_f_getf [10, 2, 3] 3, q_f_no, q_f_no, q_f_getf [8, 6, 3] 3, q_f_no, q_f_no],
  [q_f_ld 0 1 1, q_f_ald 100 0 1, q_f_no, q_f_no, q_f_no, q_f_if 1 [36] 3, q_f_no, q_f_no, q_f_ld 1 0 1, q_f_getf [10, 4, 3] 3, q_f_no, q_f_no, q_f_getf [6, 1, 0] 3, q_f_no, q_f_no, q_f_k (Int8.ofInt 7).toInt32 2],
  [q_f_no, q_f_ic 2 [38] 3, q_f_no, q_f_no, q_f_k (Int32.ofInt (-1)) 1, q_f_iret [0], q_f_ld 1 0 1, q_f_getf [10, 4, 3] 3, q_f_no, q_f_no, q_f_getf [6, 2, 3] 3, q_f_no, q_f_no, q_f_ld 0 1 1, q_f_ald 100 0 1, q_f_k (Int32.ofInt 4) 1],
  [q_f_ic 0 [66] 3, q_f_no, q_f_no, q_f_ld 1 0 1, q_f_getf [10, 4, 3] 3, q_f_no, q_f_no, q_f_getf [6, 2, 3] 3, q_f_no, q_f_no, q_f_ld 0 1 1, q_f_ald 100 0 1, q_f_k (Int32.ofInt 3) 1, q_f_ic 0 [66] 3, q_f_no, q_f_no],
  [q_f_k (Int32.ofInt (-1)) 1, q_f_iret [0], q_f_ld 1 0 1, q_f_getf [10, 4, 3] 3, q_f_no, q_f_no, q_f_getf [6, 2, 3] 3, q_f_no, q_f_no, q_f_ld 0 1 1, q_f_k (Int32.ofInt 0) 1, q_f_ast 100 1, q_f_ld 1 0 1, q_f_getf [10, 4, 3] 3, q_f_no, q_f_no],
  [q_f_getf [6, 0, 3] 3, q_f_no, q_f_no, q_f_ld 1 0 1, q_f_getf [10, 4, 3] 3, q_f_no, q_f_no, q_f_getf [6, 1, 0] 3, q_f_no, q_f_no, q_f_ld 0 1 1, q_f_ast 100 1, q_f_ld 1 0 1, q_f_getf [10, 4, 3] 3, q_f_no, q_f_no],
  [q_f_dup 1, q_f_getf [6, 1, 0] 3, q_f_no, q_f_no, q_f_k (Int32.ofInt 1) 1, q_f_b2 0 1, q_f_putf [6, 1, 0] 3, q_f_no, q_f_no, q_f_ld 1 0 1, q_f_getf [10, 5, 3] 3, q_f_no, q_f_no, q_f_ld 1 0 1, q_f_getf [10, 4, 3] 3, q_f_no],
  [q_f_no, q_f_no, q_f_no, q_f_no, q_f_ld 1 0 1, q_f_getf [10, 4, 3] 3, q_f_no, q_f_no, q_f_getf [6, 1, 0] 3, q_f_no, q_f_no, q_f_k (Int32.ofInt 1) 1, q_f_b2 1 1, q_f_iret [0]]]
set_option maxRecDepth 100000 in
theorem g_e32 : g_f32 = q_yt g_t32 := rfl
set_option maxRecDepth 100000 in
noncomputable def g_f33 : q_YT q_A (q_Rf q_A) := [
  [q_f_ld 1 0 1, q_f_ld 0 1 1, q_f_inv 1 [31, 2, 2, 10] 3, q_f_no, q_f_no, q_f_if 0 [19] 3, q_f_no, q_f_no, q_f_ld 0 2 1, q_f_k (Int32.ofInt 1) 1, q_f_ic 2 [19] 3, q_f_no, q_f_no, q_f_ld 0 2 1, q_f_k (Int8.ofInt 30).toInt32 2, q_f_no],
  [q_f_ic 5 [21] 3, q_f_no, q_f_no, q_f_k (Int32.ofInt (-1)) 1, q_f_iret [0], q_f_ld 1 0 1, q_f_inv 1 [46, 1, 1, 10] 3, q_f_no, q_f_no, q_f_ld 1 0 1, q_f_getf [10, 8, 3] 3, q_f_no, q_f_no, q_f_ld 0 1 1, q_f_putf [9, 4, 0] 3, q_f_no],
  [q_f_no, q_f_ld 1 0 1, q_f_getf [10, 8, 3] 3, q_f_no, q_f_no, q_f_getf [9, 3, 3] 3, q_f_no, q_f_no, q_f_k (Int8.ofInt 7).toInt32 2, q_f_no, q_f_ld 0 2 1, q_f_ast 100 1, q_f_k (Int16.ofInt 240).toInt32 3, q_f_no, q_f_no, q_f_st 0 3 1],
  [q_f_ld 0 3 1, q_f_if 2 [71] 3, q_f_no, q_f_no, q_f_ld 1 0 1, q_f_getf [10, 8, 3] 3, q_f_no, q_f_no, q_f_ld 0 3 1, q_f_no, q_f_no, q_f_no, q_f_if 0 [65] 3, q_f_no, q_f_no, q_f_ld 0 3 1],
  [q_f_iret [0], q_f_iinc 3 (-1) 3, q_f_no, q_f_no, q_f_goto 48, q_f_no, q_f_no, q_f_k (Int32.ofInt (-1)) 1, q_f_iret [0]]]
set_option maxRecDepth 100000 in
theorem g_e33 : g_f33 = q_yt g_t33 := rfl
set_option maxRecDepth 100000 in
noncomputable def g_f34 : q_YT q_A (q_Rf q_A) := [
  [q_f_ld 0 1 1, q_f_if 2 [26] 3, q_f_no, q_f_no, q_f_ld 0 1 1, q_f_k (Int16.ofInt 1000).toInt32 3, q_f_no, q_f_no, q_f_ic 4 [26] 3, q_f_no, q_f_no, q_f_ld 1 0 1, q_f_getf [10, 11, 3] 3, q_f_no, q_f_no, q_f_getf [5, 0, 0] 3],
  [q_f_no, q_f_no, q_f_ld 0 1 1, q_f_b2 0 1, q_f_k (Int32.ofNat 100000) 3, q_f_no, q_f_no, q_f_ic 5 [28] 3, q_f_no, q_f_no, q_f_k (Int32.ofInt (-1)) 1, q_f_iret [0], q_f_ld 1 0 1, q_f_getf [10, 11, 3] 3, q_f_no, q_f_no],
  [q_f_dup 1, q_f_getf [5, 0, 0] 3, q_f_no, q_f_no, q_f_ld 0 1 1, q_f_b2 0 1, q_f_putf [5, 0, 0] 3, q_f_no, q_f_no, q_f_ld 1 0 1, q_f_getf [10, 11, 3] 3, q_f_no, q_f_no, q_f_getf [5, 0, 0] 3, q_f_no, q_f_no],
  [q_f_iret [0]]]
set_option maxRecDepth 100000 in
theorem g_e34 : g_f34 = q_yt g_t34 := rfl
set_option maxRecDepth 100000 in
noncomputable def g_f35 : q_YT q_A (q_Rf q_A) := [
  [q_f_ld 0 1 1, q_f_k (Int32.ofInt 1) 1, q_f_ic 2 [11] 3, q_f_no, q_f_no, q_f_ld 0 1 1, q_f_k (Int8.ofInt 60).toInt32 2, q_f_no, q_f_ic 5 [13] 3, q_f_no, q_f_no, q_f_k (Int32.ofInt (-1)) 1, q_f_iret [0], q_f_ld 1 0 1, q_f_inv 1 [46, 1, 1, 10] 3, q_f_no],
  [q_f_no, q_f_ld 1 0 1, q_f_getf [10, 8, 3] 3, q_f_no, q_f_no, q_f_ld 0 1 1, q_f_putf [9, 7, 0] 3, q_f_no, q_f_no, q_f_ld 1 0 1, q_f_inv 1 [69, 1, 1, 10] 3, q_f_no, q_f_no, q_f_iret [0]]]
set_option maxRecDepth 100000 in
theorem g_e35 : g_f35 = q_yt g_t35 := rfl
set_option maxRecDepth 100000 in
noncomputable def g_f36 : q_YT q_A (q_Rf q_A) := [
  [q_f_ld 1 0 1, q_f_getf [10, 9, 3] 3, q_f_no, q_f_no, q_f_ld 1 0 1, q_f_k (Int32.ofInt 0) 1, q_f_inv 1 [8, 2, 2, 10] 3, q_f_no, q_f_no, q_f_inv 1 [77, 2, 3, 1] 3, q_f_no, q_f_no, q_f_st 0 1 1, q_f_ld 1 0 1, q_f_getf [10, 9, 3] 3, q_f_no],
  [q_f_no, q_f_getf [1, 1, 3] 3, q_f_no, q_f_no, q_f_k (Int32.ofInt 0) 1, q_f_ld 1 0 1, q_f_getf [10, 13, 3] 3, q_f_no, q_f_no, q_f_k (Int32.ofInt 0) 1, q_f_ld 1 0 1, q_f_getf [10, 4, 3] 3, q_f_no, q_f_no, q_f_getf [6, 1, 0] 3, q_f_no],
  [q_f_no, q_f_acpy 3, q_f_no, q_f_no, q_f_ld 1 0 1, q_f_ld 1 0 1, q_f_getf [10, 4, 3] 3, q_f_no, q_f_no, q_f_getf [6, 1, 0] 3, q_f_no, q_f_no, q_f_putf [10, 14, 0] 3, q_f_no, q_f_no, q_f_ld 0 1 1],
  [q_f_iret [0]]]
set_option maxRecDepth 100000 in
theorem g_e36 : g_f36 = q_yt g_t36 := rfl
set_option maxRecDepth 100000 in
noncomputable def g_f37 : q_YT q_A (q_Rf q_A) := [
  [q_f_ld 1 0 1, q_f_ld 0 1 1, q_f_inv 1 [27, 2, 2, 10] 3, q_f_no, q_f_no, q_f_if 0 [16] 3, q_f_no, q_f_no, q_f_ld 1 0 1, q_f_ld 0 1 1, q_f_no, q_f_no, q_f_no, q_f_goto 17, q_f_no, q_f_no],
  [q_f_k (Int32.ofInt (-1)) 1, q_f_iret [0]]]
set_option maxRecDepth 100000 in
theorem g_e37 : g_f37 = q_yt g_t37 := rfl
set_option maxRecDepth 100000 in
noncomputable def g_f38 : q_YT q_A (q_Rf q_A) := [
  [q_f_ld 0 1 1, q_f_if 2 [10] 3, q_f_no, q_f_no, q_f_ld 0 1 1, q_f_k (Int8.ofInt 60).toInt32 2, q_f_no, q_f_ic 5 [12] 3, q_f_no, q_f_no, q_f_k (Int32.ofInt (-1)) 1, q_f_iret [0], q_f_ld 1 0 1, q_f_inv 1 [46, 1, 1, 10] 3, q_f_no, q_f_no],
  [q_f_ld 1 0 1, q_f_getf [10, 8, 3] 3, q_f_no, q_f_no, q_f_ld 0 1 1, q_f_inv 1 [110, 2, 3, 9] 3, q_f_no, q_f_no, q_f_ld 1 0 1, q_f_getf [10, 8, 3] 3, q_f_no, q_f_no, q_f_getf [9, 16, 0] 3, q_f_no, q_f_no, q_f_iret [0]]]
set_option maxRecDepth 100000 in
theorem g_e38 : g_f38 = q_yt g_t38 := rfl
set_option maxRecDepth 100000 in
noncomputable def g_f39 : q_YT q_A (q_Rf q_A) := [
  [q_f_ld 0 1 1, q_f_if 2 [21] 3, q_f_no, q_f_no, q_f_ld 0 1 1, q_f_ld 1 0 1, q_f_getf [10, 14, 0] 3, q_f_no, q_f_no, q_f_ic 3 [21] 3, q_f_no, q_f_no, q_f_ld 1 0 1, q_f_getf [10, 13, 3] 3, q_f_no, q_f_no],
  [q_f_ld 0 1 1, q_f_ald 100 0 1, q_f_goto 23, q_f_no, q_f_no, q_f_k (Int8.ofInt (-2)).toInt32 2, q_f_no, q_f_iret [0]]]
set_option maxRecDepth 100000 in
theorem g_e39 : g_f39 = q_yt g_t39 := rfl
set_option maxRecDepth 100000 in
noncomputable def g_f40 : q_YT q_A (q_Rf q_A) := [
  [q_f_ld 1 0 1, q_f_inv 1 [46, 1, 1, 10] 3, q_f_no, q_f_no, q_f_ld 1 0 1, q_f_getf [10, 8, 3] 3, q_f_no, q_f_no, q_f_k (Int32.ofInt 0) 1, q_f_inv 1 [110, 2, 3, 9] 3, q_f_no, q_f_no, q_f_ld 1 0 1, q_f_getf [10, 4, 3] 3, q_f_no, q_f_no],
  [q_f_getf [6, 7, 0] 3, q_f_no, q_f_no, q_f_ld 1 0 1, q_f_getf [10, 8, 3] 3, q_f_no, q_f_no, q_f_getf [9, 17, 0] 3, q_f_no, q_f_no, q_f_inv 0 [203, 1, 1] 3, q_f_no, q_f_no, q_f_b2 0 1, q_f_iret [0]]]
set_option maxRecDepth 100000 in
theorem g_e40 : g_f40 = q_yt g_t40 := rfl
set_option maxRecDepth 100000 in
noncomputable def g_f41 : q_YT q_A (q_Rf q_A) := [
  [q_f_ld 1 0 1, q_f_inv 1 [46, 1, 1, 10] 3, q_f_no, q_f_no, q_f_ld 1 0 1, q_f_getf [10, 8, 3] 3, q_f_no, q_f_no, q_f_k (Int32.ofInt 0) 1, q_f_inv 1 [110, 2, 3, 9] 3, q_f_no, q_f_no, q_f_ld 1 0 1, q_f_ld 1 0 1, q_f_getf [10, 8, 3] 3, q_f_no],
  [q_f_no, q_f_getf [9, 16, 0] 3, q_f_no, q_f_no, q_f_inv 1 [42, 2, 4, 10] 3, q_f_no, q_f_no, q_f_iret [0]]]
set_option maxRecDepth 100000 in
theorem g_e41 : g_f41 = q_yt g_t41 := rfl
set_option maxRecDepth 100000 in
noncomputable def g_f42 : q_YT q_A (q_Rf q_A) := [
  [q_f_k (Int32.ofInt 0) 1, q_f_st 0 2 1, q_f_k (Int32.ofInt 0) 1, q_f_st 0 3 1, q_f_ld 0 3 1, q_f_ld 1 0 1, q_f_getf [10, 2, 3] 3, q_f_no, q_f_no, q_f_getf [8, 4, 0] 3, q_f_no, q_f_no, q_f_ic 3 [45] 3, q_f_no, q_f_no, q_f_ld 0 2 1],
  [q_f_ld 0 1 1, q_f_ld 0 3 1, q_f_inv 0 [25, 2, 2] 3, q_f_no, q_f_no, q_f_if 0 [36] 3, q_f_no, q_f_no, q_f_ld 1 0 1, q_f_getf [10, 2, 3] 3, q_f_no, q_f_no, q_f_getf [8, 8, 3] 3, q_f_no, q_f_no, q_f_ld 0 3 1],
  [q_f_ald 100 0 1, q_f_goto 37, q_f_no, q_f_no, q_f_k (Int32.ofInt 0) 1, q_f_b2 0 1, q_f_st 0 2 1, q_f_iinc 3 1 3, q_f_no, q_f_no, q_f_goto 4, q_f_no, q_f_no, q_f_ld 0 2 1, q_f_iret [0]]]
set_option maxRecDepth 100000 in
theorem g_e42 : g_f42 = q_yt g_t42 := rfl
set_option maxRecDepth 100000 in
noncomputable def g_f43 : q_YT q_A (q_Rf q_A) := [
  [q_f_ld 1 0 1, q_f_getf [10, 4, 3] 3, q_f_no, q_f_no, q_f_inv 1 [98, 1, 3, 6] 3, q_f_no, q_f_no, q_f_if 1 [23] 3, q_f_no, q_f_no, q_f_ld 1 0 1, q_f_getf [10, 4, 3] 3, q_f_no, q_f_no, q_f_getf [6, 8, 0] 3, q_f_no],
  [q_f_no, q_f_k (Int16.ofInt 999).toInt32 3, q_f_no, q_f_no, q_f_ic 2 [25] 3, q_f_no, q_f_no, q_f_k (Int32.ofInt (-1)) 1, q_f_iret [0], q_f_k (Int32.ofInt 0) 1, q_f_st 0 1 1, q_f_ld 0 1 1, q_f_ld 1 0 1, q_f_getf [10, 2, 3] 3, q_f_no, q_f_no],
  [q_f_getf [8, 10, 0] 3, q_f_no, q_f_no, q_f_ic 3 [62] 3, q_f_no, q_f_no, q_f_ld 1 0 1, q_f_getf [10, 4, 3] 3, q_f_no, q_f_no, q_f_getf [6, 4, 3] 3, q_f_no, q_f_no, q_f_ld 0 1 1, q_f_ald 100 0 1, q_f_k (Int32.ofInt (-1)) 1],
  [q_f_ic 1 [56] 3, q_f_no, q_f_no, q_f_ld 1 0 1, q_f_ld 0 1 1, q_f_no, q_f_no, q_f_no, q_f_iinc 1 1 3, q_f_no, q_f_no, q_f_goto 27, q_f_no, q_f_no, q_f_ld 1 0 1, q_f_no],
  [q_f_no, q_f_no, q_f_st 0 1 1, q_f_ld 1 0 1, q_f_getf [10, 4, 3] 3, q_f_no, q_f_no, q_f_dup 1, q_f_getf [6, 8, 0] 3, q_f_no, q_f_no, q_f_k (Int32.ofInt 1) 1, q_f_b2 0 1, q_f_putf [6, 8, 0] 3, q_f_no, q_f_no],
  [q_f_ld 1 0 1, q_f_no, q_f_no, q_f_no, q_f_ld 1 0 1, q_f_getf [10, 5, 3] 3, q_f_no, q_f_no, q_f_ld 1 0 1, q_f_getf [10, 4, 3] 3, q_f_no, q_f_no, q_f_no, q_f_no, q_f_no, q_f_ld 0 1 1],
  [q_f_iret [0]]]
set_option maxRecDepth 100000 in
theorem g_e43 : g_f43 = q_yt g_t43 := rfl
set_option maxRecDepth 100000 in
noncomputable def g_f44 : q_YT q_A (q_Rf q_A) := [
  [q_f_ld 1 0 1, q_f_inv 1 [46, 1, 1, 10] 3, q_f_no, q_f_no, q_f_ld 1 0 1, q_f_getf [10, 8, 3] 3, q_f_no, q_f_no, q_f_k (Int32.ofInt 0) 1, q_f_inv 1 [110, 2, 3, 9] 3, q_f_no, q_f_no, q_f_ld 1 0 1, q_f_k (Int32.ofInt 3) 1, q_f_inv 1 [8, 2, 2, 10] 3, q_f_no],
  [q_f_no, q_f_ld 1 0 1, q_f_getf [10, 8, 3] 3, q_f_no, q_f_no, q_f_getf [9, 17, 0] 3, q_f_no, q_f_no, q_f_b2 4 1, q_f_iret [0]]]
set_option maxRecDepth 100000 in
theorem g_e44 : g_f44 = q_yt g_t44 := rfl
set_option maxRecDepth 100000 in
noncomputable def g_f45 : q_YT q_A (q_Rf q_A) := [
  [q_f_ld 0 1 1, q_f_if 2 [18] 3, q_f_no, q_f_no, q_f_ld 0 1 1, q_f_k (Int32.ofInt 4) 1, q_f_ic 4 [18] 3, q_f_no, q_f_no, q_f_ld 0 2 1, q_f_if 2 [18] 3, q_f_no, q_f_no, q_f_ld 0 2 1, q_f_k (Int32.ofInt 1) 1, q_f_ic 5 [20] 3],
  [q_f_no, q_f_no, q_f_k (Int32.ofInt (-1)) 1, q_f_iret [0], q_f_k (Int32.ofInt 1) 1, q_f_st 0 3 1, q_f_k (Int32.ofInt 1) 1, q_f_st 0 4 2, q_f_no, q_f_k (Int32.ofInt 0) 1, q_f_st 0 5 2, q_f_no, q_f_ld 0 5 2, q_f_no, q_f_ld 0 1 1, q_f_ic 3 [60] 3],
  [q_f_no, q_f_no, q_f_ld 0 3 1, q_f_k (Int8.ofInt 100).toInt32 2, q_f_no, q_f_ld 1 0 1, q_f_getf [10, 2, 3] 3, q_f_no, q_f_no, q_f_getf [8, 11, 0] 3, q_f_no, q_f_no, q_f_b2 1 1, q_f_b2 2 1, q_f_st 0 3 1, q_f_ld 0 4 2],
  [q_f_no, q_f_k (Int8.ofInt 100).toInt32 2, q_f_no, q_f_b2 2 1, q_f_st 0 4 2, q_f_no, q_f_iinc 5 1 3, q_f_no, q_f_no, q_f_goto 28, q_f_no, q_f_no, q_f_ld 0 3 1, q_f_ld 0 4 2, q_f_no, q_f_ld 0 2 1],
  [q_f_inv 0 [49, 3, 4] 3, q_f_no, q_f_no, q_f_iret [0]]]
set_option maxRecDepth 100000 in
theorem g_e45 : g_f45 = q_yt g_t45 := rfl
set_option maxRecDepth 100000 in
noncomputable def g_f46 : q_YT q_A (q_Rf q_A) := [
  [q_f_ld 1 0 1, q_f_getf [10, 8, 3] 3, q_f_no, q_f_no, q_f_ld 1 0 1, q_f_getf [10, 2, 3] 3, q_f_no, q_f_no, q_f_ld 1 0 1, q_f_getf [10, 4, 3] 3, q_f_no, q_f_no, q_f_inv 1 [108, 3, 5, 9] 3, q_f_no, q_f_no, q_f_ret]]
set_option maxRecDepth 100000 in
theorem g_e46 : g_f46 = q_yt g_t46 := rfl
set_option maxRecDepth 100000 in
noncomputable def g_f47 : q_YT q_A (q_Rf q_A) := [
  [q_f_ld 1 0 1, q_f_inv 1 [46, 1, 1, 10] 3, q_f_no, q_f_no, q_f_ld 1 0 1, q_f_getf [10, 8, 3] 3, q_f_no, q_f_no, q_f_k (Int32.ofInt 0) 1, q_f_inv 1 [110, 2, 3, 9] 3, q_f_no, q_f_no, q_f_k (Int32.ofInt 0) 1, q_f_st 0 1 1, q_f_ld 0 1 1, q_f_k (Int8.ofInt 7).toInt32 2],
  [q_f_no, q_f_ic 3 [36] 3, q_f_no, q_f_no, q_f_ld 1 0 1, q_f_getf [10, 9, 3] 3, q_f_no, q_f_no, q_f_getf [1, 0, 3] 3, q_f_no, q_f_no, q_f_ld 0 1 1, q_f_k (Int32.ofInt 1) 1, q_f_ast 100 1, q_f_iinc 1 1 3, q_f_no],
  [q_f_no, q_f_goto 14, q_f_no, q_f_no, q_f_ld 1 0 1, q_f_getf [10, 8, 3] 3, q_f_no, q_f_no, q_f_getf [9, 16, 0] 3, q_f_no, q_f_no, q_f_ld 1 0 1, q_f_k (Int32.ofInt 0) 1, q_f_inv 1 [8, 2, 2, 10] 3, q_f_no, q_f_no],
  [q_f_k (Int32.ofInt (-1)) 1, q_f_b2 5 1, q_f_b2 3 1, q_f_inv 0 [203, 1, 1] 3, q_f_no, q_f_no, q_f_st 0 1 1, q_f_ld 1 0 1, q_f_inv 1 [36, 1, 2, 10] 3, q_f_no, q_f_no, q_f_ld 0 1 1, q_f_b2 0 1, q_f_iret [0]]]
set_option maxRecDepth 100000 in
theorem g_e47 : g_f47 = q_yt g_t47 := rfl
set_option maxRecDepth 100000 in
noncomputable def g_f48 : q_YT q_A (q_Rf q_A) := [
  [q_f_ld 1 0 1, q_f_ld 0 1 1, q_f_inv 1 [30, 2, 2, 10] 3, q_f_no, q_f_no, q_f_if 1 [10] 3, q_f_no, q_f_no, q_f_k (Int32.ofInt (-1)) 1, q_f_iret [0], q_f_ld 0 2 1, q_f_tsw 0 5 [114, 48, 58, 68, 78, 88, 97], q_f_no, q_f_no, q_f_no, q_f_no],
  [q_f_no, q_f_no, q_f_no, q_f_no, q_f_no, q_f_no, q_f_no, q_f_no, q_f_no, q_f_no, q_f_no, q_f_no, q_f_no, q_f_no, q_f_no, q_f_no],
  [q_f_no, q_f_no, q_f_no, q_f_no, q_f_no, q_f_no, q_f_no, q_f_no, q_f_no, q_f_no, q_f_no, q_f_no, q_f_no, q_f_no, q_f_no, q_f_no],
  [q_f_ld 1 0 1, q_f_getf [10, 2, 3] 3, q_f_no, q_f_no, q_f_getf [8, 6, 3] 3, q_f_no, q_f_no, q_f_ld 0 1 1, q_f_ald 100 0 1, q_f_iret [0], q_f_ld 1 0 1, q_f_getf [10, 2, 3] 3, q_f_no, q_f_no, q_f_getf [8, 7, 3] 3, q_f_no],
  [q_f_no, q_f_ld 0 1 1, q_f_ald 100 0 1, q_f_iret [0], q_f_ld 1 0 1, q_f_getf [10, 2, 3] 3, q_f_no, q_f_no, q_f_getf [8, 8, 3] 3, q_f_no, q_f_no, q_f_ld 0 1 1, q_f_ald 100 0 1, q_f_iret [0], q_f_ld 1 0 1, q_f_getf [10, 4, 3] 3],
  [q_f_no, q_f_no, q_f_getf [6, 2, 3] 3, q_f_no, q_f_no, q_f_ld 0 1 1, q_f_ald 100 0 1, q_f_iret [0], q_f_ld 1 0 1, q_f_getf [10, 4, 3] 3, q_f_no, q_f_no, q_f_ld 0 1 1, q_f_no, q_f_no, q_f_no],
  [q_f_iret [0], q_f_ld 1 0 1, q_f_getf [10, 4, 3] 3, q_f_no, q_f_no, q_f_ld 0 1 1, q_f_no, q_f_no, q_f_no, q_f_if 0 [112] 3, q_f_no, q_f_no, q_f_k (Int32.ofInt 1) 1, q_f_goto 113, q_f_no, q_f_no],
  [q_f_k (Int32.ofInt 0) 1, q_f_iret [0], q_f_k (Int32.ofInt (-1)) 1, q_f_iret [0]]]
set_option maxRecDepth 100000 in
theorem g_e48 : g_f48 = q_yt g_t48 := rfl
set_option maxRecDepth 100000 in
noncomputable def g_f49 : q_YT q_A (q_Rf q_A) := [
  [q_f_ld 0 0 1, q_f_inv 0 [204, 1, 1] 3, q_f_no, q_f_no, q_f_ld 0 1 1, q_f_inv 0 [11, 2, 6] 3, q_f_no, q_f_no, q_f_st 0 3 1, q_f_ld 0 3 1, q_f_if 1 [15] 3, q_f_no, q_f_no, q_f_k (Int32.ofInt 0) 1, q_f_iret [0], q_f_ld 0 2 1],
  [q_f_if 1 [23] 3, q_f_no, q_f_no, q_f_ld 0 0 1, q_f_goto 24, q_f_no, q_f_no, q_f_ld 0 1 1, q_f_ld 0 3 1, q_f_b2 9 1, q_f_iret [0]]]
set_option maxRecDepth 100000 in
theorem g_e49 : g_f49 = q_yt g_t49 := rfl
set_option maxRecDepth 100000 in
noncomputable def g_f50 : q_YT q_A (q_Rf q_A) := [
  [q_f_ld 1 0 1, q_f_getf [10, 1, 3] 3, q_f_no, q_f_no, q_f_ld 1 0 1, q_f_getf [10, 3, 3] 3, q_f_no, q_f_no, q_f_inv 1 [90, 2, 3, 4] 3, q_f_no, q_f_no, q_f_st 0 1 1, q_f_ld 1 0 1, q_f_getf [10, 0, 3] 3, q_f_no, q_f_no],
  [q_f_k (Int32.ofInt 0) 1, q_f_putf [7, 1, 0] 3, q_f_no, q_f_no, q_f_ld 0 1 1, q_f_if 1 [26] 3, q_f_no, q_f_no, q_f_k (Int32.ofInt (-1)) 1, q_f_iret [0], q_f_ld 1 0 1, q_f_getf [10, 3, 3] 3, q_f_no, q_f_no, q_f_st 1 2 1, q_f_ld 1 0 1],
  [q_f_ld 1 0 1, q_f_getf [10, 2, 3] 3, q_f_no, q_f_no, q_f_putf [10, 3, 3] 3, q_f_no, q_f_no, q_f_ld 1 0 1, q_f_ld 1 2 1, q_f_putf [10, 2, 3] 3, q_f_no, q_f_no, q_f_ld 1 0 1, q_f_getf [10, 4, 3] 3, q_f_no, q_f_no],
  [q_f_ld 1 0 1, q_f_getf [10, 2, 3] 3, q_f_no, q_f_no, q_f_inv 1 [96, 2, 3, 6] 3, q_f_no, q_f_no, q_f_ld 1 0 1, q_f_getf [10, 5, 3] 3, q_f_no, q_f_no, q_f_ld 1 0 1, q_f_getf [10, 4, 3] 3, q_f_no, q_f_no, q_f_inv 1 [81, 2, 2, 2] 3],
  [q_f_no, q_f_no, q_f_ld 1 0 1, q_f_k (Int32.ofInt 0) 1, q_f_putf [10, 7, 0] 3, q_f_no, q_f_no, q_f_ld 1 0 1, q_f_k (Int32.ofInt 0) 1, q_f_putf [10, 14, 0] 3, q_f_no, q_f_no, q_f_ld 1 0 1, q_f_getf [10, 11, 3] 3, q_f_no, q_f_no],
  [q_f_ld 1 0 1, q_f_getf [10, 8, 3] 3, q_f_no, q_f_no, q_f_ld 1 0 1, q_f_getf [10, 2, 3] 3, q_f_no, q_f_no, q_f_ld 1 0 1, q_f_getf [10, 4, 3] 3, q_f_no, q_f_no, q_f_inv 1 [93, 4, 5, 5] 3, q_f_no, q_f_no, q_f_ld 1 0 1],
  [q_f_getf [10, 2, 3] 3, q_f_no, q_f_no, q_f_getf [8, 4, 0] 3, q_f_no, q_f_no, q_f_iret [0]]]
set_option maxRecDepth 100000 in
theorem g_e50 : g_f50 = q_yt g_t50 := rfl
set_option maxRecDepth 100000 in
noncomputable def g_f51 : q_YT q_A (q_Rf q_A) := [
  [q_f_ld 0 1 1, q_f_if 2 [27] 3, q_f_no, q_f_no, q_f_ld 0 1 1, q_f_ld 1 0 1, q_f_getf [10, 4, 3] 3, q_f_no, q_f_no, q_f_getf [6, 1, 0] 3, q_f_no, q_f_no, q_f_ic 3 [27] 3, q_f_no, q_f_no, q_f_ld 1 0 1],
  [q_f_getf [10, 4, 3] 3, q_f_no, q_f_no, q_f_getf [6, 0, 3] 3, q_f_no, q_f_no, q_f_ld 0 1 1, q_f_ald 100 0 1, q_f_goto 28, q_f_no, q_f_no, q_f_k (Int32.ofInt (-1)) 1, q_f_iret [0]]]
set_option maxRecDepth 100000 in
theorem g_e51 : g_f51 = q_yt g_t51 := rfl
set_option maxRecDepth 100000 in
noncomputable def g_f52 : q_YT q_A (q_Rf q_A) := [
  [q_f_ld 0 1 1, q_f_if 2 [15] 3, q_f_no, q_f_no, q_f_ld 0 1 1, q_f_ld 1 0 1, q_f_getf [10, 2, 3] 3, q_f_no, q_f_no, q_f_getf [8, 10, 0] 3, q_f_no, q_f_no, q_f_ic 2 [17] 3, q_f_no, q_f_no, q_f_k (Int32.ofInt (-1)) 1],
  [q_f_iret [0], q_f_ld 0 2 1, q_f_if 1 [31] 3, q_f_no, q_f_no, q_f_ld 1 0 1, q_f_getf [10, 4, 3] 3, q_f_no, q_f_no, q_f_getf [6, 4, 3] 3, q_f_no, q_f_no, q_f_ld 0 1 1, q_f_ald 100 0 1, q_f_iret [0], q_f_ld 0 2 1],
  [q_f_k (Int32.ofInt 1) 1, q_f_ic 1 [48] 3, q_f_no, q_f_no, q_f_ld 1 0 1, q_f_getf [10, 4, 3] 3, q_f_no, q_f_no, q_f_getf [6, 5, 3] 3, q_f_no, q_f_no, q_f_ld 0 1 1, q_f_ald 100 0 1, q_f_goto 49, q_f_no, q_f_no],
  [q_f_k (Int32.ofInt (-1)) 1, q_f_iret [0]]]
set_option maxRecDepth 100000 in
theorem g_e52 : g_f52 = q_yt g_t52 := rfl
set_option maxRecDepth 100000 in
noncomputable def g_f53 : q_YT q_A (q_Rf q_A) := [
  [q_f_ld 1 0 1, q_f_getf [10, 5, 3] 3, q_f_no, q_f_no, q_f_ld 1 0 1, q_f_getf [10, 4, 3] 3, q_f_no, q_f_no, q_f_inv 1 [83, 2, 2, 2] 3, q_f_no, q_f_no, q_f_iret [1]]]
set_option maxRecDepth 100000 in
theorem g_e53 : g_f53 = q_yt g_t53 := rfl
set_option maxRecDepth 100000 in
noncomputable def g_f54 : q_YT q_A (q_Rf q_A) := [
  [q_f_ld 1 0 1, q_f_inv 1 [46, 1, 1, 10] 3, q_f_no, q_f_no, q_f_ld 1 0 1, q_f_getf [10, 8, 3] 3, q_f_no, q_f_no, q_f_k (Int32.ofInt 0) 1, q_f_inv 1 [110, 2, 3, 9] 3, q_f_no, q_f_no, q_f_ld 1 0 1, q_f_getf [10, 8, 3] 3, q_f_no, q_f_no],
  [q_f_getf [9, 16, 0] 3, q_f_no, q_f_no, q_f_st 0 1 1, q_f_k (Int8.ofInt 60).toInt32 2, q_f_no, q_f_st 0 2 1, q_f_ld 0 2 1, q_f_if 5 [56] 3, q_f_no, q_f_no, q_f_ld 1 0 1, q_f_getf [10, 8, 3] 3, q_f_no, q_f_no, q_f_ld 0 2 1],
  [q_f_inv 1 [110, 2, 3, 9] 3, q_f_no, q_f_no, q_f_ld 1 0 1, q_f_getf [10, 8, 3] 3, q_f_no, q_f_no, q_f_getf [9, 16, 0] 3, q_f_no, q_f_no, q_f_ld 0 1 1, q_f_b2 3 1, q_f_ld 0 1 1, q_f_ic 1 [50] 3, q_f_no, q_f_no],
  [q_f_ld 0 2 1, q_f_iret [0], q_f_iinc 2 (-1) 3, q_f_no, q_f_no, q_f_goto 23, q_f_no, q_f_no, q_f_k (Int32.ofInt 0) 1, q_f_iret [0]]]
set_option maxRecDepth 100000 in
theorem g_e54 : g_f54 = q_yt g_t54 := rfl
set_option maxRecDepth 100000 in
noncomputable def g_f55 : q_YT q_A (q_Rf q_A) := [
  [q_f_ld 1 0 1, q_f_inv 1 [46, 1, 1, 10] 3, q_f_no, q_f_no, q_f_ld 1 0 1, q_f_getf [10, 8, 3] 3, q_f_no, q_f_no, q_f_ld 0 1 1, q_f_inv 1 [107, 2, 4, 9] 3, q_f_no, q_f_no, q_f_ld 1 0 1, q_f_getf [10, 8, 3] 3, q_f_no, q_f_no],
  [q_f_k (Int32.ofInt 0) 1, q_f_inv 1 [110, 2, 3, 9] 3, q_f_no, q_f_no, q_f_ret]]
set_option maxRecDepth 100000 in
theorem g_e55 : g_f55 = q_yt g_t55 := rfl
set_option maxRecDepth 100000 in
noncomputable def g_f56 : q_YT q_A (q_Rf q_A) := [
  [q_f_ld 1 0 1, q_f_ld 0 1 1, q_f_inv 1 [30, 2, 2, 10] 3, q_f_no, q_f_no, q_f_if 1 [10] 3, q_f_no, q_f_no, q_f_k (Int32.ofInt (-1)) 1, q_f_iret [0], q_f_ld 1 0 1, q_f_inv 1 [46, 1, 1, 10] 3, q_f_no, q_f_no, q_f_ld 1 0 1, q_f_getf [10, 8, 3] 3],
  [q_f_no, q_f_no, q_f_k (Int32.ofInt 0) 1, q_f_inv 1 [110, 2, 3, 9] 3, q_f_no, q_f_no, q_f_ld 1 0 1, q_f_getf [10, 8, 3] 3, q_f_no, q_f_no, q_f_ld 0 1 1, q_f_no, q_f_no, q_f_no, q_f_iret [0]]]
set_option maxRecDepth 100000 in
theorem g_e56 : g_f56 = q_yt g_t56 := rfl
set_option maxRecDepth 100000 in
noncomputable def g_f57 : q_YT q_A (q_Rf q_A) := [
  [q_f_ld 1 0 1, q_f_inv 1 [46, 1, 1, 10] 3, q_f_no, q_f_no, q_f_ld 1 0 1, q_f_getf [10, 8, 3] 3, q_f_no, q_f_no, q_f_ld 1 0 1, q_f_getf [10, 2, 3] 3, q_f_no, q_f_no, q_f_getf [8, 10, 0] 3, q_f_no, q_f_no, q_f_k (Int32.ofInt 1) 1],
  [q_f_b2 0 1, q_f_putf [9, 10, 0] 3, q_f_no, q_f_no, q_f_ld 1 0 1, q_f_inv 1 [69, 1, 1, 10] 3, q_f_no, q_f_no, q_f_iret [0]]]
set_option maxRecDepth 100000 in
theorem g_e57 : g_f57 = q_yt g_t57 := rfl
set_option maxRecDepth 100000 in
noncomputable def g_f58 : q_YT q_A (q_Rf q_A) := [
  [q_f_ld 1 0 1, q_f_getf [10, 2, 3] 3, q_f_no, q_f_no, q_f_getf [8, 4, 0] 3, q_f_no, q_f_no, q_f_if 1 [12] 3, q_f_no, q_f_no, q_f_k (Int32.ofInt (-1)) 1, q_f_iret [0], q_f_ld 1 0 1, q_f_getf [10, 11, 3] 3, q_f_no, q_f_no],
  [q_f_ld 0 1 1, q_f_ld 0 2 1, q_f_ld 0 3 1, q_f_no, q_f_no, q_f_no, q_f_iret [0]]]
set_option maxRecDepth 100000 in
theorem g_e58 : g_f58 = q_yt g_t58 := rfl
set_option maxRecDepth 100000 in
noncomputable def g_f59 : q_YT q_A (q_Rf q_A) := [
  [q_f_ld 0 0 1, q_f_k (Int32.ofInt (-1)) 1, q_f_ic 0 [10] 3, q_f_no, q_f_no, q_f_ld 0 1 1, q_f_k (Int32.ofInt 1) 1, q_f_ic 1 [14] 3, q_f_no, q_f_no, q_f_ld 0 0 1, q_f_goto 18, q_f_no, q_f_no, q_f_ld 0 0 1, q_f_inv 0 [203, 1, 1] 3],
  [q_f_no, q_f_no, q_f_iret [0]]]
set_option maxRecDepth 100000 in
theorem g_e59 : g_f59 = q_yt g_t59 := rfl
set_option maxRecDepth 100000 in
noncomputable def g_f60 : q_YT q_A (q_Rf q_A) := [
  [q_f_ld 1 0 1, q_f_ld 0 1 1, q_f_inv 1 [31, 2, 2, 10] 3, q_f_no, q_f_no, q_f_if 1 [10] 3, q_f_no, q_f_no, q_f_k (Int32.ofInt (-1)) 1, q_f_iret [0], q_f_ld 0 2 1, q_f_tsw 0 4 [107, 44, 57, 67, 84, 98], q_f_no, q_f_no, q_f_no, q_f_no],
  [q_f_no, q_f_no, q_f_no, q_f_no, q_f_no, q_f_no, q_f_no, q_f_no, q_f_no, q_f_no, q_f_no, q_f_no, q_f_no, q_f_no, q_f_no, q_f_no],
  [q_f_no, q_f_no, q_f_no, q_f_no, q_f_no, q_f_no, q_f_no, q_f_no, q_f_no, q_f_no, q_f_no, q_f_no, q_f_ld 1 0 1, q_f_getf [10, 4, 3] 3, q_f_no, q_f_no],
  [q_f_ld 1 0 1, q_f_getf [10, 2, 3] 3, q_f_no, q_f_no, q_f_ld 0 1 1, q_f_no, q_f_no, q_f_no, q_f_iret [0], q_f_ld 1 0 1, q_f_getf [10, 2, 3] 3, q_f_no, q_f_no, q_f_getf [8, 3, 3] 3, q_f_no, q_f_no],
  [q_f_ld 0 1 1, q_f_ald 100 0 1, q_f_iret [0], q_f_ld 1 0 1, q_f_getf [10, 4, 3] 3, q_f_no, q_f_no, q_f_ld 0 1 1, q_f_no, q_f_no, q_f_no, q_f_if 0 [82] 3, q_f_no, q_f_no, q_f_k (Int32.ofInt 1) 1, q_f_goto 83],
  [q_f_no, q_f_no, q_f_k (Int32.ofInt 0) 1, q_f_iret [0], q_f_ld 1 0 1, q_f_ld 0 1 1, q_f_no, q_f_no, q_f_no, q_f_if 0 [96] 3, q_f_no, q_f_no, q_f_k (Int32.ofInt 1) 1, q_f_goto 97, q_f_no, q_f_no],
  [q_f_k (Int32.ofInt 0) 1, q_f_iret [0], q_f_ld 1 0 1, q_f_getf [10, 2, 3] 3, q_f_no, q_f_no, q_f_ld 0 1 1, q_f_no, q_f_no, q_f_no, q_f_iret [0], q_f_k (Int32.ofInt (-1)) 1, q_f_iret [0]]]
set_option maxRecDepth 100000 in
theorem g_e60 : g_f60 = q_yt g_t60 := rfl
set_option maxRecDepth 100000 in
noncomputable def g_f61 : q_YT q_A (q_Rf q_A) := [
  [q_f_ld 1 0 1, q_f_ld 0 1 1, q_f_k (Int32.ofInt 1) 1, q_f_inv 1 [3, 3, 3, 10] 3, q_f_no, q_f_no, q_f_iret [0]]]
set_option maxRecDepth 100000 in
theorem g_e61 : g_f61 = q_yt g_t61 := rfl
set_option maxRecDepth 100000 in
noncomputable def g_f62 : q_YT q_A (q_Rf q_A) := [
  [q_f_ld 0 1 1, q_f_if 2 [9] 3, q_f_no, q_f_no, q_f_ld 0 1 1, q_f_k (Int32.ofInt 1) 1, q_f_ic 5 [11] 3, q_f_no, q_f_no, q_f_k (Int32.ofInt (-1)) 1, q_f_iret [0], q_f_ld 1 0 1, q_f_k (Int32.ofInt 0) 1, q_f_inv 1 [8, 2, 2, 10] 3, q_f_no, q_f_no],
  [q_f_ld 1 0 1, q_f_getf [10, 4, 3] 3, q_f_no, q_f_no, q_f_getf [6, 3, 0] 3, q_f_no, q_f_no, q_f_k (Int32.ofInt (-1)) 1, q_f_b2 5 1, q_f_b2 3 1, q_f_st 0 2 1, q_f_ld 1 0 1, q_f_k (Int32.ofInt 0) 1, q_f_inv 1 [8, 2, 2, 10] 3, q_f_no, q_f_no],
  [q_f_ld 1 0 1, q_f_k (Int32.ofInt 1) 1, q_f_inv 1 [8, 2, 2, 10] 3, q_f_no, q_f_no, q_f_b2 4 1, q_f_st 0 3 1, q_f_ld 1 0 1, q_f_inv 1 [46, 1, 1, 10] 3, q_f_no, q_f_no, q_f_k (Int32.ofInt (-1)) 1, q_f_st 0 4 2, q_f_no, q_f_k (Int32.ofInt 0) 1, q_f_st 0 5 2],
  [q_f_no, q_f_ld 0 5 2, q_f_no, q_f_ld 0 2 1, q_f_ic 4 [127] 3, q_f_no, q_f_no, q_f_ld 0 5 2, q_f_no, q_f_ld 0 2 1, q_f_k (Int32.ofInt (-1)) 1, q_f_b2 5 1, q_f_b2 3 1, q_f_if 1 [121] 3, q_f_no, q_f_no],
  [q_f_ld 0 5 2, q_f_no, q_f_ld 0 4 2, q_f_no, q_f_inv 0 [29, 2, 2] 3, q_f_no, q_f_no, q_f_if 0 [121] 3, q_f_no, q_f_no, q_f_ld 1 0 1, q_f_getf [10, 8, 3] 3, q_f_no, q_f_no, q_f_ld 1 0 1, q_f_getf [10, 4, 3] 3],
  [q_f_no, q_f_no, q_f_getf [6, 3, 0] 3, q_f_no, q_f_no, q_f_ld 0 5 2, q_f_no, q_f_b2 4 1, q_f_putf [9, 6, 0] 3, q_f_no, q_f_no, q_f_ld 1 0 1, q_f_getf [10, 8, 3] 3, q_f_no, q_f_no, q_f_k (Int32.ofInt 0) 1],
  [q_f_inv 1 [110, 2, 3, 9] 3, q_f_no, q_f_no, q_f_ld 1 0 1, q_f_getf [10, 8, 3] 3, q_f_no, q_f_no, q_f_getf [9, 16, 0] 3, q_f_no, q_f_no, q_f_ld 0 3 1, q_f_b2 3 1, q_f_ld 0 3 1, q_f_ic 1 [117] 3, q_f_no, q_f_no],
  [q_f_ld 0 5 2, q_f_no, q_f_goto 119, q_f_no, q_f_no, q_f_ld 0 4 2, q_f_no, q_f_st 0 4 2, q_f_no, q_f_iinc 5 1 3, q_f_no, q_f_no, q_f_goto 49, q_f_no, q_f_no, q_f_ld 0 4 2],
  [q_f_no, q_f_ld 0 1 1, q_f_inv 0 [59, 2, 2] 3, q_f_no, q_f_no, q_f_iret [0]]]
set_option maxRecDepth 100000 in
theorem g_e62 : g_f62 = q_yt g_t62 := rfl
set_option maxRecDepth 100000 in
noncomputable def g_f63 : q_YT q_A (q_Rf q_A) := [
  [q_f_k (Int32.ofInt (-1)) 1, q_f_st 0 1 1, q_f_k (Int32.ofInt 0) 1, q_f_st 0 2 1, q_f_ld 0 2 1, q_f_ld 1 0 1, q_f_getf [10, 2, 3] 3, q_f_no, q_f_no, q_f_getf [8, 0, 0] 3, q_f_no, q_f_no, q_f_ic 3 [73] 3, q_f_no, q_f_no, q_f_ld 0 1 1],
  [q_f_k (Int32.ofInt (-1)) 1, q_f_ic 0 [47] 3, q_f_no, q_f_no, q_f_ld 1 0 1, q_f_getf [10, 4, 3] 3, q_f_no, q_f_no, q_f_ld 1 0 1, q_f_getf [10, 2, 3] 3, q_f_no, q_f_no, q_f_ld 0 2 1, q_f_no, q_f_no, q_f_no],
  [q_f_ld 1 0 1, q_f_getf [10, 4, 3] 3, q_f_no, q_f_no, q_f_ld 1 0 1, q_f_getf [10, 2, 3] 3, q_f_no, q_f_no, q_f_ld 0 1 1, q_f_no, q_f_no, q_f_no, q_f_ic 3 [51] 3, q_f_no, q_f_no, q_f_k (Int32.ofInt 1) 1],
  [q_f_goto 52, q_f_no, q_f_no, q_f_k (Int32.ofInt 0) 1, q_f_st 0 3 1, q_f_ld 0 3 1, q_f_if 0 [67] 3, q_f_no, q_f_no, q_f_ld 1 0 1, q_f_ld 0 2 1, q_f_no, q_f_no, q_f_no, q_f_if 1 [67] 3, q_f_no],
  [q_f_no, q_f_ld 0 2 1, q_f_st 0 1 1, q_f_iinc 2 1 3, q_f_no, q_f_no, q_f_goto 4, q_f_no, q_f_no, q_f_ld 0 1 1, q_f_iret [0]]]
set_option maxRecDepth 100000 in
theorem g_e63 : g_f63 = q_yt g_t63 := rfl
set_option maxRecDepth 100000 in
noncomputable def g_f64 : q_YT q_A (q_Rf q_A) := [
  [q_f_ld 0 1 1, q_f_if 2 [9] 3, q_f_no, q_f_no, q_f_ld 0 1 1, q_f_k (Int32.ofInt 1) 1, q_f_ic 5 [11] 3, q_f_no, q_f_no, q_f_k (Int32.ofInt (-1)) 1, q_f_iret [0], q_f_ld 1 0 1, q_f_k (Int32.ofInt 0) 1, q_f_inv 1 [8, 2, 2, 10] 3, q_f_no, q_f_no],
  [q_f_st 0 2 1, q_f_ld 1 0 1, q_f_k (Int32.ofInt 1) 1, q_f_inv 1 [8, 2, 2, 10] 3, q_f_no, q_f_no, q_f_st 0 3 1, q_f_k (Int32.ofInt (-1)) 1, q_f_st 0 4 2, q_f_no, q_f_k (Int32.ofInt 0) 1, q_f_st 0 5 2, q_f_no, q_f_ld 0 5 2, q_f_no, q_f_ld 0 2 1],
  [q_f_ic 4 [100] 3, q_f_no, q_f_no, q_f_ld 0 5 2, q_f_no, q_f_ld 0 2 1, q_f_k (Int32.ofInt (-1)) 1, q_f_b2 5 1, q_f_b2 3 1, q_f_if 1 [94] 3, q_f_no, q_f_no, q_f_ld 0 5 2, q_f_no, q_f_ld 0 4 2, q_f_no],
  [q_f_inv 0 [29, 2, 2] 3, q_f_no, q_f_no, q_f_if 0 [94] 3, q_f_no, q_f_no, q_f_ld 0 2 1, q_f_ld 0 5 2, q_f_no, q_f_k (Int32.ofInt (-1)) 1, q_f_b2 5 1, q_f_b2 3 1, q_f_ld 0 3 1, q_f_b2 4 1, q_f_st 0 6 2, q_f_no],
  [q_f_ld 1 0 1, q_f_ld 0 5 2, q_f_no, q_f_inv 1 [55, 2, 2, 10] 3, q_f_no, q_f_no, q_f_ld 1 0 1, q_f_getf [10, 8, 3] 3, q_f_no, q_f_no, q_f_getf [9, 16, 0] 3, q_f_no, q_f_no, q_f_ld 0 6 2, q_f_no, q_f_b2 3 1],
  [q_f_ld 0 6 2, q_f_no, q_f_ic 1 [90] 3, q_f_no, q_f_no, q_f_ld 0 5 2, q_f_no, q_f_goto 92, q_f_no, q_f_no, q_f_ld 0 4 2, q_f_no, q_f_st 0 4 2, q_f_no, q_f_iinc 5 1 3, q_f_no],
  [q_f_no, q_f_goto 29, q_f_no, q_f_no, q_f_ld 0 4 2, q_f_no, q_f_ld 0 1 1, q_f_inv 0 [59, 2, 2] 3, q_f_no, q_f_no, q_f_iret [0]]]
set_option maxRecDepth 100000 in
theorem g_e64 : g_f64 = q_yt g_t64 := rfl
set_option maxRecDepth 100000 in
noncomputable def g_f65 : q_YT q_A (q_Rf q_A) := [
  [q_f_ld 1 0 1, q_f_ld 0 1 1, q_f_inv 1 [27, 2, 2, 10] 3, q_f_no, q_f_no, q_f_if 1 [10] 3, q_f_no, q_f_no, q_f_k (Int32.ofInt (-1)) 1, q_f_iret [0], q_f_ld 1 0 1, q_f_inv 1 [46, 1, 1, 10] 3, q_f_no, q_f_no, q_f_ld 1 0 1, q_f_getf [10, 8, 3] 3],
  [q_f_no, q_f_no, q_f_k (Int32.ofInt 0) 1, q_f_inv 1 [110, 2, 3, 9] 3, q_f_no, q_f_no, q_f_ld 1 0 1, q_f_getf [10, 8, 3] 3, q_f_no, q_f_no, q_f_ld 0 1 1, q_f_no, q_f_no, q_f_no, q_f_iret [0]]]
set_option maxRecDepth 100000 in
theorem g_e65 : g_f65 = q_yt g_t65 := rfl
set_option maxRecDepth 100000 in
noncomputable def g_f66 : q_YT q_A (q_Rf q_A) := [
  [q_f_ld 1 0 1, q_f_getf [10, 11, 3] 3, q_f_no, q_f_no, q_f_ld 0 2 1, q_f_inv 1 [92, 2, 4, 5] 3, q_f_no, q_f_no, q_f_st 0 3 1, q_f_ld 0 3 1, q_f_if 0 [22] 3, q_f_no, q_f_no, q_f_ld 0 1 1, q_f_if 2 [22] 3, q_f_no],
  [q_f_no, q_f_ld 0 1 1, q_f_k (Int32.ofInt 1) 1, q_f_ic 5 [24] 3, q_f_no, q_f_no, q_f_k (Int32.ofInt (-1)) 1, q_f_iret [0], q_f_k (Int32.ofInt (-1)) 1, q_f_st 0 4 2, q_f_no, q_f_k (Int32.ofInt 1) 1, q_f_st 0 5 2, q_f_no, q_f_ld 0 5 2, q_f_no],
  [q_f_k (Int8.ofInt 30).toInt32 2, q_f_no, q_f_ic 4 [81] 3, q_f_no, q_f_no, q_f_ld 0 1 1, q_f_k (Int32.ofInt 1) 1, q_f_ic 0 [48] 3, q_f_no, q_f_no, q_f_ld 0 4 2, q_f_no, q_f_k (Int32.ofInt (-1)) 1, q_f_ic 1 [52] 3, q_f_no, q_f_no],
  [q_f_k (Int32.ofInt 1) 1, q_f_goto 53, q_f_no, q_f_no, q_f_k (Int32.ofInt 0) 1, q_f_st 0 6 2, q_f_no, q_f_ld 0 6 2, q_f_no, q_f_if 0 [75] 3, q_f_no, q_f_no, q_f_ld 0 3 1, q_f_ld 0 5 2, q_f_no, q_f_k (Int32.ofInt 1) 1],
  [q_f_b2 1 1, q_f_inv 0 [25, 2, 2] 3, q_f_no, q_f_no, q_f_if 0 [75] 3, q_f_no, q_f_no, q_f_ld 0 5 2, q_f_no, q_f_st 0 4 2, q_f_no, q_f_iinc 5 1 3, q_f_no, q_f_no, q_f_goto 30, q_f_no],
  [q_f_no, q_f_ld 0 4 2, q_f_no, q_f_iret [0]]]
set_option maxRecDepth 100000 in
theorem g_e66 : g_f66 = q_yt g_t66 := rfl
set_option maxRecDepth 100000 in
noncomputable def g_f67 : q_YT q_A (q_Rf q_A) := [
  [q_f_ld 0 1 1, q_f_if 2 [9] 3, q_f_no, q_f_no, q_f_ld 0 1 1, q_f_k (Int32.ofInt 2) 1, q_f_ic 5 [11] 3, q_f_no, q_f_no, q_f_k (Int32.ofInt (-1)) 1, q_f_iret [0], q_f_ld 1 0 1, q_f_inv 1 [13, 1, 1, 10] 3, q_f_no, q_f_no, q_f_st 0 2 1],
  [q_f_k (Int32.ofInt (-1)) 1, q_f_st 0 3 1, q_f_k (Int32.ofInt (-1)) 1, q_f_st 0 4 2, q_f_no, q_f_k (Int32.ofInt 0) 1, q_f_st 0 5 2, q_f_no, q_f_ld 0 5 2, q_f_no, q_f_ld 1 0 1, q_f_getf [10, 2, 3] 3, q_f_no, q_f_no, q_f_getf [8, 4, 0] 3, q_f_no],
  [q_f_no, q_f_ic 3 [114] 3, q_f_no, q_f_no, q_f_ld 0 5 2, q_f_no, q_f_k (Int32.ofInt 1) 1, q_f_b2 0 1, q_f_st 0 6 2, q_f_no, q_f_ld 0 6 2, q_f_no, q_f_ld 1 0 1, q_f_getf [10, 2, 3] 3, q_f_no, q_f_no],
  [q_f_getf [8, 4, 0] 3, q_f_no, q_f_no, q_f_ic 3 [108] 3, q_f_no, q_f_no, q_f_ld 1 0 1, q_f_ld 0 5 2, q_f_no, q_f_inv 1 [27, 2, 2, 10] 3, q_f_no, q_f_no, q_f_if 0 [83] 3, q_f_no, q_f_no, q_f_ld 1 0 1],
  [q_f_ld 0 6 2, q_f_no, q_f_inv 1 [27, 2, 2, 10] 3, q_f_no, q_f_no, q_f_if 0 [83] 3, q_f_no, q_f_no, q_f_ld 1 0 1, q_f_ld 0 5 2, q_f_no, q_f_ld 0 6 2, q_f_no, q_f_no, q_f_no, q_f_no],
  [q_f_goto 84, q_f_no, q_f_no, q_f_k (Int32.ofInt (-1)) 1, q_f_st 0 7 2, q_f_no, q_f_ld 0 7 2, q_f_no, q_f_ld 0 2 1, q_f_ic 5 [102] 3, q_f_no, q_f_no, q_f_ld 0 7 2, q_f_no, q_f_st 0 2 1, q_f_ld 0 5 2],
  [q_f_no, q_f_st 0 3 1, q_f_ld 0 6 2, q_f_no, q_f_st 0 4 2, q_f_no, q_f_iinc 6 1 3, q_f_no, q_f_no, q_f_goto 42, q_f_no, q_f_no, q_f_iinc 5 1 3, q_f_no, q_f_no, q_f_goto 24],
  [q_f_no, q_f_no, q_f_ld 0 3 1, q_f_k (Int32.ofInt (-1)) 1, q_f_ic 0 [123] 3, q_f_no, q_f_no, q_f_ld 0 1 1, q_f_if 1 [125] 3, q_f_no, q_f_no, q_f_ld 0 3 1, q_f_iret [0], q_f_ld 0 1 1, q_f_k (Int32.ofInt 1) 1, q_f_ic 1 [135] 3],
  [q_f_no, q_f_no, q_f_ld 0 4 2, q_f_no, q_f_goto 136, q_f_no, q_f_no, q_f_ld 0 2 1, q_f_iret [0]]]
set_option maxRecDepth 100000 in
theorem g_e67 : g_f67 = q_yt g_t67 := rfl
set_option maxRecDepth 100000 in
noncomputable def g_f68 : q_YT q_A (q_Rf q_A) := [
  [q_f_k (Int32.ofInt 0) 1, q_f_st 0 1 1, q_f_ld 0 1 1, q_f_ld 1 0 1, q_f_getf [10, 4, 3] 3, q_f_no, q_f_no, q_f_getf [6, 1, 0] 3, q_f_no, q_f_no, q_f_ic 3 [39] 3, q_f_no, q_f_no, q_f_ld 1 0 1, q_f_getf [10, 10, 3] 3, q_f_no],
  [q_f_no, q_f_ld 1 0 1, q_f_getf [10, 8, 3] 3, q_f_no, q_f_no, q_f_ld 1 0 1, q_f_getf [10, 2, 3] 3, q_f_no, q_f_no, q_f_ld 1 0 1, q_f_getf [10, 4, 3] 3, q_f_no, q_f_no, q_f_ld 0 1 1, q_f_no, q_f_no],
  [q_f_no, q_f_iinc 1 1 3, q_f_no, q_f_no, q_f_goto 2, q_f_no, q_f_no, q_f_ld 1 0 1, q_f_getf [10, 10, 3] 3, q_f_no, q_f_no, q_f_ld 1 0 1, q_f_getf [10, 4, 3] 3, q_f_no, q_f_no, q_f_getf [6, 1, 0] 3],
  [q_f_no, q_f_no, q_f_inv 1 [86, 2, 9, 3] 3, q_f_no, q_f_no, q_f_st 0 1 1, q_f_k (Int32.ofInt 0) 1, q_f_st 0 2 1, q_f_ld 0 2 1, q_f_ld 1 0 1, q_f_getf [10, 4, 3] 3, q_f_no, q_f_no, q_f_getf [6, 1, 0] 3, q_f_no, q_f_no],
  [q_f_ic 3 [96] 3, q_f_no, q_f_no, q_f_ld 1 0 1, q_f_getf [10, 13, 3] 3, q_f_no, q_f_no, q_f_ld 0 2 1, q_f_ld 1 0 1, q_f_getf [10, 4, 3] 3, q_f_no, q_f_no, q_f_getf [6, 0, 3] 3, q_f_no, q_f_no, q_f_ld 1 0 1],
  [q_f_getf [10, 10, 3] 3, q_f_no, q_f_no, q_f_getf [3, 2, 3] 3, q_f_no, q_f_no, q_f_ld 0 2 1, q_f_ald 100 0 1, q_f_ald 100 0 1, q_f_ast 100 1, q_f_iinc 2 1 3, q_f_no, q_f_no, q_f_goto 56, q_f_no, q_f_no],
  [q_f_ld 1 0 1, q_f_ld 1 0 1, q_f_getf [10, 4, 3] 3, q_f_no, q_f_no, q_f_getf [6, 1, 0] 3, q_f_no, q_f_no, q_f_putf [10, 14, 0] 3, q_f_no, q_f_no, q_f_ld 0 1 1, q_f_iret [0]]]
set_option maxRecDepth 100000 in
theorem g_e68 : g_f68 = q_yt g_t68 := rfl
set_option maxRecDepth 100000 in
noncomputable def g_f69 : q_YT q_A (q_Rf q_A) := [
  [q_f_ld 1 0 1, q_f_getf [10, 8, 3] 3, q_f_no, q_f_no, q_f_k (Int32.ofInt 0) 1, q_f_inv 1 [110, 2, 3, 9] 3, q_f_no, q_f_no, q_f_ld 1 0 1, q_f_getf [10, 8, 3] 3, q_f_no, q_f_no, q_f_getf [9, 16, 0] 3, q_f_no, q_f_no, q_f_inv 0 [203, 1, 1] 3],
  [q_f_no, q_f_no, q_f_iret [0]]]
set_option maxRecDepth 100000 in
theorem g_e69 : g_f69 = q_yt g_t69 := rfl
set_option maxRecDepth 100000 in
noncomputable def g_f70 : q_YT q_A (q_Rf q_A) := [
  [q_f_ld 1 0 1, q_f_getf [10, 5, 3] 3, q_f_no, q_f_no, q_f_ld 1 0 1, q_f_getf [10, 4, 3] 3, q_f_no, q_f_no, q_f_inv 1 [84, 2, 2, 2] 3, q_f_no, q_f_no, q_f_iret [1]]]
set_option maxRecDepth 100000 in
theorem g_e70 : g_f70 = q_yt g_t70 := rfl
set_option maxRecDepth 100000 in
noncomputable def g_f71 : q_YT q_A (q_Rf q_A) := [
  [q_f_ld 1 0 1, q_f_getf [10, 11, 3] 3, q_f_no, q_f_no, q_f_ld 0 1 1, q_f_inv 1 [94, 2, 2, 5] 3, q_f_no, q_f_no, q_f_iret [1]]]
set_option maxRecDepth 100000 in
theorem g_e71 : g_f71 = q_yt g_t71 := rfl
set_option maxRecDepth 100000 in
noncomputable def g_f72 : q_YT q_A (q_Rf q_A) := [
  [q_f_ld 1 0 1, q_f_getf [10, 4, 3] 3, q_f_no, q_f_no, q_f_getf [6, 7, 0] 3, q_f_no, q_f_no, q_f_iret [0]]]
set_option maxRecDepth 100000 in
theorem g_e72 : g_f72 = q_yt g_t72 := rfl
set_option maxRecDepth 100000 in
noncomputable def g_f73 : q_YT q_A (q_Rf q_A) := [
  [q_f_ld 1 0 1, q_f_ld 0 1 1, q_f_inv 1 [30, 2, 2, 10] 3, q_f_no, q_f_no, q_f_if 0 [28] 3, q_f_no, q_f_no, q_f_ld 0 2 1, q_f_if 2 [28] 3, q_f_no, q_f_no, q_f_ld 0 2 1, q_f_k (Int16.ofInt 400).toInt32 3, q_f_no, q_f_no],
  [q_f_ic 4 [28] 3, q_f_no, q_f_no, q_f_ld 0 3 1, q_f_if 2 [28] 3, q_f_no, q_f_no, q_f_ld 0 3 1, q_f_k (Int32.ofInt 1) 1, q_f_ic 5 [30] 3, q_f_no, q_f_no, q_f_k (Int32.ofInt (-1)) 1, q_f_iret [0], q_f_ld 1 0 1, q_f_inv 1 [46, 1, 1, 10] 3],
  [q_f_no, q_f_no, q_f_ld 0 3 1, q_f_k (Int32.ofInt 1) 1, q_f_ic 1 [67] 3, q_f_no, q_f_no, q_f_ld 1 0 1, q_f_getf [10, 8, 3] 3, q_f_no, q_f_no, q_f_ld 1 0 1, q_f_getf [10, 2, 3] 3, q_f_no, q_f_no, q_f_getf [8, 11, 0] 3],
  [q_f_no, q_f_no, q_f_putf [9, 8, 0] 3, q_f_no, q_f_no, q_f_ld 1 0 1, q_f_getf [10, 8, 3] 3, q_f_no, q_f_no, q_f_ld 1 0 1, q_f_getf [10, 4, 3] 3, q_f_no, q_f_no, q_f_getf [6, 9, 0] 3, q_f_no, q_f_no],
  [q_f_putf [9, 9, 0] 3, q_f_no, q_f_no, q_f_ld 1 0 1, q_f_getf [10, 8, 3] 3, q_f_no, q_f_no, q_f_k (Int32.ofInt 0) 1, q_f_inv 1 [110, 2, 3, 9] 3, q_f_no, q_f_no, q_f_ld 1 0 1, q_f_getf [10, 4, 3] 3, q_f_no, q_f_no, q_f_getf [6, 2, 3] 3],
  [q_f_no, q_f_no, q_f_ld 0 1 1, q_f_ald 100 0 1, q_f_if 0 [110] 3, q_f_no, q_f_no, q_f_ld 1 0 1, q_f_getf [10, 4, 3] 3, q_f_no, q_f_no, q_f_getf [6, 2, 3] 3, q_f_no, q_f_no, q_f_ld 0 1 1, q_f_ald 100 0 1],
  [q_f_k (Int32.ofInt 1) 1, q_f_ic 0 [110] 3, q_f_no, q_f_no, q_f_ld 1 0 1, q_f_getf [10, 4, 3] 3, q_f_no, q_f_no, q_f_getf [6, 2, 3] 3, q_f_no, q_f_no, q_f_ld 0 1 1, q_f_ald 100 0 1, q_f_iret [0], q_f_ld 1 0 1, q_f_getf [10, 8, 3] 3],
  [q_f_no, q_f_no, q_f_ld 0 1 1, q_f_ld 0 2 1, q_f_no, q_f_no, q_f_no, q_f_iret [0]]]
set_option maxRecDepth 100000 in
theorem g_e73 : g_f73 = q_yt g_t73 := rfl
set_option maxRecDepth 100000 in
noncomputable def g_f74 : q_YT q_A (q_Rf q_A) := [
  [q_f_ld 1 0 1, q_f_ld 0 1 1, q_f_inv 1 [27, 2, 2, 10] 3, q_f_no, q_f_no, q_f_if 1 [10] 3, q_f_no, q_f_no, q_f_k (Int32.ofInt (-1)) 1, q_f_iret [0], q_f_ld 1 0 1, q_f_getf [10, 4, 3] 3, q_f_no, q_f_no, q_f_ld 0 1 1, q_f_no],
  [q_f_no, q_f_no, q_f_st 0 2 1, q_f_ld 1 0 1, q_f_getf [10, 10, 3] 3, q_f_no, q_f_no, q_f_ld 1 0 1, q_f_getf [10, 8, 3] 3, q_f_no, q_f_no, q_f_ld 1 0 1, q_f_getf [10, 2, 3] 3, q_f_no, q_f_no, q_f_ld 1 0 1],
  [q_f_getf [10, 4, 3] 3, q_f_no, q_f_no, q_f_ld 0 2 1, q_f_no, q_f_no, q_f_no, q_f_ld 1 0 1, q_f_getf [10, 10, 3] 3, q_f_no, q_f_no, q_f_ld 0 2 1, q_f_k (Int32.ofInt 1) 1, q_f_ld 1 0 1, q_f_getf [10, 4, 3] 3, q_f_no],
  [q_f_no, q_f_getf [6, 1, 0] 3, q_f_no, q_f_no, q_f_b2 6 1, q_f_k (Int32.ofInt 1) 1, q_f_b2 1 1, q_f_no, q_f_no, q_f_no, q_f_iret [0]]]
set_option maxRecDepth 100000 in
theorem g_e74 : g_f74 = q_yt g_t74 := rfl
set_option maxRecDepth 100000 in
noncomputable def g_f75 : q_YT q_A (q_Rf q_A) := [
  [q_f_ld 1 0 1, q_f_obj 3, q_f_no, q_f_no, q_f_ld 1 0 1, q_f_k (Int16.ofInt 270).toInt32 3, q_f_no, q_f_no, q_f_newa [100] 2, q_f_no, q_f_putf [0, 0, 3] 3, q_f_no, q_f_no, q_f_ld 1 0 1, q_f_k (Int8.ofInt 30).toInt32 2, q_f_no],
  [q_f_newa [100] 2, q_f_no, q_f_putf [0, 1, 3] 3, q_f_no, q_f_no, q_f_ld 1 0 1, q_f_k (Int8.ofInt 6).toInt32 2, q_f_no, q_f_newa [100] 2, q_f_no, q_f_putf [0, 2, 3] 3, q_f_no, q_f_no, q_f_ret]]
set_option maxRecDepth 100000 in
theorem g_e75 : g_f75 = q_yt g_t75 := rfl
set_option maxRecDepth 100000 in
noncomputable def g_f76 : q_YT q_A (q_Rf q_A) := [
  [q_f_ld 1 0 1, q_f_obj 3, q_f_no, q_f_no, q_f_ld 1 0 1, q_f_k (Int8.ofInt 7).toInt32 2, q_f_no, q_f_newa [100] 2, q_f_no, q_f_putf [1, 0, 3] 3, q_f_no, q_f_no, q_f_ld 1 0 1, q_f_k (Int8.ofInt 7).toInt32 2, q_f_no, q_f_newa [100] 2],
  [q_f_no, q_f_putf [1, 1, 3] 3, q_f_no, q_f_no, q_f_ld 1 0 1, q_f_k (Int8.ofInt 7).toInt32 2, q_f_no, q_f_newa [100] 2, q_f_no, q_f_putf [1, 2, 3] 3, q_f_no, q_f_no, q_f_ld 1 0 1, q_f_k (Int16.ofInt 1024).toInt32 3, q_f_no, q_f_no],
  [q_f_newa [100] 2, q_f_no, q_f_putf [1, 3, 3] 3, q_f_no, q_f_no, q_f_ld 1 0 1, q_f_k (Int16.ofInt 1024).toInt32 3, q_f_no, q_f_no, q_f_newa [100] 2, q_f_no, q_f_putf [1, 4, 3] 3, q_f_no, q_f_no, q_f_ld 1 0 1, q_f_ld 1 1 1],
  [q_f_putf [1, 5, 3] 3, q_f_no, q_f_no, q_f_ret]]
set_option maxRecDepth 100000 in
theorem g_e76 : g_f76 = q_yt g_t76 := rfl
set_option maxRecDepth 100000 in
noncomputable def g_f77 : q_YT q_A (q_Rf q_A) := [
  [q_f_ld 1 0 1, q_f_ld 0 1 1, q_f_inv 0 [203, 1, 1] 3, q_f_no, q_f_no, q_f_putf [1, 6, 0] 3, q_f_no, q_f_no, q_f_ld 1 0 1, q_f_k (Int32.ofInt (-1)) 1, q_f_putf [1, 7, 0] 3, q_f_no, q_f_no, q_f_k (Int32.ofInt 0) 1, q_f_st 0 2 1, q_f_ld 0 2 1],
  [q_f_k (Int16.ofInt 1024).toInt32 3, q_f_no, q_f_no, q_f_ic 3 [35] 3, q_f_no, q_f_no, q_f_ld 1 0 1, q_f_getf [1, 3, 3] 3, q_f_no, q_f_no, q_f_ld 0 2 1, q_f_k (Int32.ofInt (-1)) 1, q_f_ast 100 1, q_f_iinc 2 1 3, q_f_no, q_f_no],
  [q_f_goto 15, q_f_no, q_f_no, q_f_ld 1 0 1, q_f_getf [1, 5, 3] 3, q_f_no, q_f_no, q_f_k (Int32.ofInt 0) 1, q_f_inv 1 [109, 2, 4, 9] 3, q_f_no, q_f_no, q_f_ld 1 0 1, q_f_k (Int32.ofInt 0) 1, q_f_ld 0 1 1, q_f_k (Int32.ofInt 0) 1, q_f_inv 1 [78, 4, 9, 1] 3],
  [q_f_no, q_f_no, q_f_ld 1 0 1, q_f_getf [1, 7, 0] 3, q_f_no, q_f_no, q_f_iret [0]]]
set_option maxRecDepth 100000 in
theorem g_e77 : g_f77 = q_yt g_t77 := rfl
set_option maxRecDepth 100000 in
noncomputable def g_f78 : q_YT q_A (q_Rf q_A) := [
  [q_f_ld 0 1 1, q_f_ld 1 0 1, q_f_getf [1, 6, 0] 3, q_f_no, q_f_no, q_f_ic 3 [14] 3, q_f_no, q_f_no, q_f_ld 0 1 1, q_f_k (Int8.ofInt 7).toInt32 2, q_f_no, q_f_ic 2 [20] 3, q_f_no, q_f_no, q_f_ld 1 0 1, q_f_ld 0 3 1],
  [q_f_inv 1 [79, 2, 2, 1] 3, q_f_no, q_f_no, q_f_ret, q_f_ld 1 0 1, q_f_getf [1, 5, 3] 3, q_f_no, q_f_no, q_f_no, q_f_no, q_f_no, q_f_st 0 4 2, q_f_no, q_f_ld 1 0 1, q_f_getf [1, 5, 3] 3, q_f_no],
  [q_f_no, q_f_getf [9, 13, 3] 3, q_f_no, q_f_no, q_f_ld 0 4 2, q_f_no, q_f_ald 100 0 1, q_f_st 0 5 2, q_f_no, q_f_k (Int32.ofInt 0) 1, q_f_st 0 6 2, q_f_no, q_f_ld 0 6 2, q_f_no, q_f_k (Int8.ofInt 7).toInt32 2, q_f_no],
  [q_f_ic 3 [174] 3, q_f_no, q_f_no, q_f_ld 0 2 1, q_f_ld 0 6 2, q_f_no, q_f_inv 0 [25, 2, 2] 3, q_f_no, q_f_no, q_f_if 1 [63] 3, q_f_no, q_f_no, q_f_goto 168, q_f_no, q_f_no, q_f_ld 1 0 1],
  [q_f_getf [1, 2, 3] 3, q_f_no, q_f_no, q_f_ld 0 1 1, q_f_ld 0 6 2, q_f_no, q_f_ast 100 1, q_f_ld 0 2 1, q_f_k (Int32.ofInt 1) 1, q_f_ld 0 6 2, q_f_no, q_f_b2 6 1, q_f_k (Int32.ofInt (-1)) 1, q_f_b2 5 1, q_f_b2 3 1, q_f_st 0 7 2],
  [q_f_no, q_f_ld 0 3 1, q_f_ld 1 0 1, q_f_getf [1, 5, 3] 3, q_f_no, q_f_no, q_f_ld 0 6 2, q_f_no, q_f_ld 0 4 2, q_f_no, q_f_ld 1 0 1, q_f_getf [1, 6, 0] 3, q_f_no, q_f_no, q_f_k (Int32.ofInt 1) 1, q_f_b2 1 1],
  [q_f_ld 0 1 1, q_f_b2 1 1, q_f_no, q_f_no, q_f_no, q_f_if 0 [114] 3, q_f_no, q_f_no, q_f_ld 1 0 1, q_f_getf [1, 0, 3] 3, q_f_no, q_f_no, q_f_ld 0 6 2, q_f_no, q_f_ald 100 0 1, q_f_goto 115],
  [q_f_no, q_f_no, q_f_k (Int32.ofInt 0) 1, q_f_b2 0 1, q_f_st 0 8 2, q_f_no, q_f_ld 0 8 2, q_f_no, q_f_ld 1 0 1, q_f_ld 0 7 2, q_f_no, q_f_no, q_f_no, q_f_no, q_f_b2 0 1, q_f_ld 1 0 1],
  [q_f_getf [1, 7, 0] 3, q_f_no, q_f_no, q_f_ic 5 [156] 3, q_f_no, q_f_no, q_f_ld 1 0 1, q_f_ld 0 7 2, q_f_no, q_f_ld 0 8 2, q_f_no, q_f_no, q_f_no, q_f_no, q_f_if 1 [156] 3, q_f_no],
  [q_f_no, q_f_ld 1 0 1, q_f_ld 0 1 1, q_f_k (Int32.ofInt 1) 1, q_f_b2 0 1, q_f_ld 0 7 2, q_f_no, q_f_ld 0 8 2, q_f_no, q_f_inv 1 [78, 4, 9, 1] 3, q_f_no, q_f_no, q_f_ld 1 0 1, q_f_getf [1, 5, 3] 3, q_f_no, q_f_no],
  [q_f_getf [9, 13, 3] 3, q_f_no, q_f_no, q_f_ld 0 4 2, q_f_no, q_f_ld 0 5 2, q_f_no, q_f_ast 100 1, q_f_iinc 6 1 3, q_f_no, q_f_no, q_f_goto 44, q_f_no, q_f_no, q_f_ret]]
set_option maxRecDepth 100000 in
theorem g_e78 : g_f78 = q_yt g_t78 := rfl
set_option maxRecDepth 100000 in
noncomputable def g_f79 : q_YT q_A (q_Rf q_A) := [
  [q_f_ld 0 1 1, q_f_ld 1 0 1, q_f_getf [1, 7, 0] 3, q_f_no, q_f_no, q_f_ic 5 [30] 3, q_f_no, q_f_no, q_f_ld 1 0 1, q_f_ld 0 1 1, q_f_putf [1, 7, 0] 3, q_f_no, q_f_no, q_f_ld 1 0 1, q_f_getf [1, 2, 3] 3, q_f_no],
  [q_f_no, q_f_k (Int32.ofInt 0) 1, q_f_ld 1 0 1, q_f_getf [1, 1, 3] 3, q_f_no, q_f_no, q_f_k (Int32.ofInt 0) 1, q_f_ld 1 0 1, q_f_getf [1, 6, 0] 3, q_f_no, q_f_no, q_f_acpy 3, q_f_no, q_f_no, q_f_ret]]
set_option maxRecDepth 100000 in
theorem g_e79 : g_f79 = q_yt g_t79 := rfl
set_option maxRecDepth 100000 in
noncomputable def g_f80 : q_YT q_A (q_Rf q_A) := [
  [q_f_ld 1 0 1, q_f_obj 3, q_f_no, q_f_no, q_f_ld 1 0 1, q_f_k (Int16.ofInt 984).toInt32 3, q_f_no, q_f_no, q_f_newa [100] 2, q_f_no, q_f_putf [2, 0, 3] 3, q_f_no, q_f_no, q_f_ret]]
set_option maxRecDepth 100000 in
theorem g_e80 : g_f80 = q_yt g_t80 := rfl
set_option maxRecDepth 100000 in
noncomputable def g_f81 : q_YT q_A (q_Rf q_A) := [
  [q_f_ld 1 0 1, q_f_k (Int32.ofInt 0) 1, q_f_putf [2, 1, 0] 3, q_f_no, q_f_no, q_f_ld 1 0 1, q_f_k (Int32.ofInt 0) 1, q_f_putf [2, 2, 0] 3, q_f_no, q_f_no, q_f_ld 1 0 1, q_f_k (Int32.ofInt 0) 1, q_f_putf [2, 3, 0] 3, q_f_no, q_f_no, q_f_ld 1 1 1],
  [q_f_ld 1 0 1, q_f_getf [2, 0, 3] 3, q_f_no, q_f_no, q_f_ld 1 0 1, q_f_inv 1 [82, 1, 1, 2] 3, q_f_no, q_f_no, q_f_inv 1 [99, 3, 4, 6] 3, q_f_no, q_f_no, q_f_ret]]
set_option maxRecDepth 100000 in
theorem g_e81 : g_f81 = q_yt g_t81 := rfl
set_option maxRecDepth 100000 in
noncomputable def g_f82 : q_YT q_A (q_Rf q_A) := [
  [q_f_ld 1 0 1, q_f_getf [2, 1, 0] 3, q_f_no, q_f_no, q_f_ld 1 0 1, q_f_getf [2, 2, 0] 3, q_f_no, q_f_no, q_f_b2 0 1, q_f_k (Int8.ofInt 41).toInt32 2, q_f_no, q_f_b2 10 1, q_f_k (Int8.ofInt 24).toInt32 2, q_f_no, q_f_b2 2 1, q_f_iret [0]]]
set_option maxRecDepth 100000 in
theorem g_e82 : g_f82 = q_yt g_t82 := rfl
set_option maxRecDepth 100000 in
noncomputable def g_f83 : q_YT q_A (q_Rf q_A) := [
  [q_f_ld 1 0 1, q_f_getf [2, 3, 0] 3, q_f_no, q_f_no, q_f_if 1 [9] 3, q_f_no, q_f_no, q_f_k (Int32.ofInt 0) 1, q_f_iret [1], q_f_ld 1 0 1, q_f_dup 1, q_f_getf [2, 2, 0] 3, q_f_no, q_f_no, q_f_k (Int32.ofInt 1) 1, q_f_b2 0 1],
  [q_f_putf [2, 2, 0] 3, q_f_no, q_f_no, q_f_ld 1 0 1, q_f_dup 1, q_f_getf [2, 3, 0] 3, q_f_no, q_f_no, q_f_k (Int32.ofInt 1) 1, q_f_b2 1 1, q_f_putf [2, 3, 0] 3, q_f_no, q_f_no, q_f_ld 1 1 1, q_f_ld 1 0 1, q_f_getf [2, 0, 3] 3],
  [q_f_no, q_f_no, q_f_ld 1 0 1, q_f_inv 1 [82, 1, 1, 2] 3, q_f_no, q_f_no, q_f_no, q_f_no, q_f_no, q_f_k (Int32.ofInt 1) 1, q_f_iret [1]]]
set_option maxRecDepth 100000 in
theorem g_e83 : g_f83 = q_yt g_t83 := rfl
set_option maxRecDepth 100000 in
noncomputable def g_f84 : q_YT q_A (q_Rf q_A) := [
  [q_f_ld 1 0 1, q_f_getf [2, 2, 0] 3, q_f_no, q_f_no, q_f_if 1 [9] 3, q_f_no, q_f_no, q_f_k (Int32.ofInt 0) 1, q_f_iret [1], q_f_ld 1 0 1, q_f_dup 1, q_f_getf [2, 2, 0] 3, q_f_no, q_f_no, q_f_k (Int32.ofInt 1) 1, q_f_b2 1 1],
  [q_f_putf [2, 2, 0] 3, q_f_no, q_f_no, q_f_ld 1 0 1, q_f_dup 1, q_f_getf [2, 3, 0] 3, q_f_no, q_f_no, q_f_k (Int32.ofInt 1) 1, q_f_b2 0 1, q_f_putf [2, 3, 0] 3, q_f_no, q_f_no, q_f_ld 1 1 1, q_f_ld 1 0 1, q_f_getf [2, 0, 3] 3],
  [q_f_no, q_f_no, q_f_ld 1 0 1, q_f_inv 1 [82, 1, 1, 2] 3, q_f_no, q_f_no, q_f_no, q_f_no, q_f_no, q_f_k (Int32.ofInt 1) 1, q_f_iret [1]]]
set_option maxRecDepth 100000 in
theorem g_e84 : g_f84 = q_yt g_t84 := rfl
set_option maxRecDepth 100000 in
noncomputable def g_f85 : q_YT q_A (q_Rf q_A) := [
  [q_f_ld 1 0 1, q_f_obj 3, q_f_no, q_f_no, q_f_ld 1 0 1, q_f_k (Int8.ofInt 49).toInt32 2, q_f_no, q_f_newa [100] 2, q_f_no, q_f_putf [3, 0, 3] 3, q_f_no, q_f_no, q_f_ld 1 0 1, q_f_k (Int8.ofInt 7).toInt32 2, q_f_no, q_f_newa [100] 2],
  [q_f_no, q_f_putf [3, 1, 3] 3, q_f_no, q_f_no, q_f_ld 1 0 1, q_f_k (Int8.ofInt 7).toInt32 2, q_f_no, q_f_newa [100] 2, q_f_no, q_f_putf [3, 2, 3] 3, q_f_no, q_f_no, q_f_ret]]
set_option maxRecDepth 100000 in
theorem g_e85 : g_f85 = q_yt g_t85 := rfl
set_option maxRecDepth 100000 in
noncomputable def g_f86 : q_YT q_A (q_Rf q_A) := [
  [q_f_k (Int32.ofInt 0) 1, q_f_st 0 2 1, q_f_k (Int32.ofInt 1) 1, q_f_ld 0 1 1, q_f_b2 6 1, q_f_k (Int32.ofInt 1) 1, q_f_b2 1 1, q_f_st 0 3 1, q_f_k (Int32.ofInt 0) 1, q_f_st 0 4 2, q_f_no, q_f_ld 0 4 2, q_f_no, q_f_ld 0 1 1, q_f_ic 3 [189] 3, q_f_no],
  [q_f_no, q_f_ld 0 3 1, q_f_if 0 [189] 3, q_f_no, q_f_no, q_f_k (Int32.ofInt 0) 1, q_f_st 0 5 2, q_f_no, q_f_ld 0 5 2, q_f_no, q_f_ld 0 1 1, q_f_ic 3 [64] 3, q_f_no, q_f_no, q_f_ld 1 0 1, q_f_getf [3, 1, 3] 3],
  [q_f_no, q_f_no, q_f_ld 0 5 2, q_f_no, q_f_ld 0 3 1, q_f_ld 0 5 2, q_f_no, q_f_inv 0 [25, 2, 2] 3, q_f_no, q_f_no, q_f_if 0 [55] 3, q_f_no, q_f_no, q_f_ld 1 0 1, q_f_ld 0 5 2, q_f_no],
  [q_f_ld 0 3 1, q_f_no, q_f_no, q_f_no, q_f_goto 57, q_f_no, q_f_no, q_f_ld 0 5 2, q_f_no, q_f_ast 100 1, q_f_iinc 5 1 3, q_f_no, q_f_no, q_f_goto 24, q_f_no, q_f_no],
  [q_f_k (Int32.ofInt 0) 1, q_f_st 0 5 2, q_f_no, q_f_k (Int32.ofInt 0) 1, q_f_st 0 6 2, q_f_no, q_f_ld 0 6 2, q_f_no, q_f_ld 0 1 1, q_f_ic 3 [176] 3, q_f_no, q_f_no, q_f_ld 0 3 1, q_f_ld 0 6 2, q_f_no, q_f_inv 0 [25, 2, 2] 3],
  [q_f_no, q_f_no, q_f_if 0 [95] 3, q_f_no, q_f_no, q_f_ld 1 0 1, q_f_ld 0 6 2, q_f_no, q_f_ld 0 1 1, q_f_no, q_f_no, q_f_no, q_f_goto 96, q_f_no, q_f_no, q_f_k (Int32.ofInt 0) 1],
  [q_f_st 0 7 2, q_f_no, q_f_ld 0 7 2, q_f_no, q_f_if 1 [106] 3, q_f_no, q_f_no, q_f_goto 170, q_f_no, q_f_no, q_f_ld 1 0 1, q_f_getf [3, 2, 3] 3, q_f_no, q_f_no, q_f_ld 1 0 1, q_f_getf [3, 1, 3] 3],
  [q_f_no, q_f_no, q_f_ld 0 6 2, q_f_no, q_f_ald 100 0 1, q_f_ld 0 6 2, q_f_no, q_f_ast 100 1, q_f_ld 0 5 2, q_f_no, q_f_k (Int32.ofInt 1) 1, q_f_ld 0 6 2, q_f_no, q_f_b2 6 1, q_f_b2 4 1, q_f_st 0 5 2],
  [q_f_no, q_f_ld 0 7 2, q_f_no, q_f_k (Int32.ofInt 1) 1, q_f_ld 0 6 2, q_f_no, q_f_b2 6 1, q_f_k (Int32.ofInt 1) 1, q_f_b2 1 1, q_f_b2 3 1, q_f_if 1 [145] 3, q_f_no, q_f_no, q_f_k (Int32.ofInt 1) 1, q_f_goto 146, q_f_no],
  [q_f_no, q_f_k (Int32.ofInt 0) 1, q_f_st 0 8 2, q_f_no, q_f_ld 0 2 1, q_f_ld 0 8 2, q_f_no, q_f_if 0 [167] 3, q_f_no, q_f_no, q_f_ld 0 7 2, q_f_no, q_f_k (Int32.ofInt 1) 1, q_f_ld 0 6 2, q_f_no, q_f_b2 6 1],
  [q_f_ic 0 [167] 3, q_f_no, q_f_no, q_f_k (Int32.ofInt 1) 1, q_f_goto 168, q_f_no, q_f_no, q_f_k (Int32.ofInt 0) 1, q_f_b2 0 1, q_f_st 0 2 1, q_f_iinc 6 1 3, q_f_no, q_f_no, q_f_goto 70, q_f_no, q_f_no],
  [q_f_ld 0 3 1, q_f_ld 0 5 2, q_f_no, q_f_k (Int32.ofInt (-1)) 1, q_f_b2 5 1, q_f_b2 3 1, q_f_st 0 3 1, q_f_iinc 4 1 3, q_f_no, q_f_no, q_f_goto 11, q_f_no, q_f_no, q_f_ld 0 2 1, q_f_iret [0]]]
set_option maxRecDepth 100000 in
theorem g_e86 : g_f86 = q_yt g_t86 := rfl
set_option maxRecDepth 100000 in
noncomputable def g_f87 : q_YT q_A (q_Rf q_A) := [
  [q_f_ld 1 0 1, q_f_obj 3, q_f_no, q_f_no, q_f_ld 1 0 1, q_f_k (Int32.ofInt (-1)) 1, q_f_putf [4, 9, 0] 3, q_f_no, q_f_no, q_f_ld 1 0 1, q_f_ld 1 1 1, q_f_putf [4, 0, 3] 3, q_f_no, q_f_no, q_f_ld 1 0 1, q_f_ld 1 2 1],
  [q_f_putf [4, 1, 3] 3, q_f_no, q_f_no, q_f_ret]]
set_option maxRecDepth 100000 in
theorem g_e87 : g_f87 = q_yt g_t87 := rfl
set_option maxRecDepth 100000 in
noncomputable def g_f88 : q_YT q_A (q_Rf q_A) := [
  [q_f_k (Int32.ofInt 0) 1, q_f_st 0 1 1, q_f_ld 0 1 1, q_f_k (Int16.ofInt 1600).toInt32 3, q_f_no, q_f_no, q_f_ic 3 [42] 3, q_f_no, q_f_no, q_f_ld 1 0 1, q_f_getf [4, 0, 3] 3, q_f_no, q_f_no, q_f_ld 1 0 1, q_f_getf [4, 2, 0] 3, q_f_no],
  [q_f_no, q_f_inv 1 [101, 2, 2, 7] 3, q_f_no, q_f_no, q_f_inv 0 [89, 1, 1] 3, q_f_no, q_f_no, q_f_if 0 [42] 3, q_f_no, q_f_no, q_f_ld 1 0 1, q_f_dup 1, q_f_getf [4, 2, 0] 3, q_f_no, q_f_no, q_f_k (Int32.ofInt 1) 1],
  [q_f_b2 0 1, q_f_putf [4, 2, 0] 3, q_f_no, q_f_no, q_f_iinc 1 1 3, q_f_no, q_f_no, q_f_goto 2, q_f_no, q_f_no, q_f_ld 1 0 1, q_f_ld 1 0 1, q_f_getf [4, 2, 0] 3, q_f_no, q_f_no, q_f_putf [4, 3, 0] 3],
  [q_f_no, q_f_no, q_f_ld 1 0 1, q_f_getf [4, 0, 3] 3, q_f_no, q_f_no, q_f_ld 1 0 1, q_f_getf [4, 2, 0] 3, q_f_no, q_f_no, q_f_inv 1 [101, 2, 2, 7] 3, q_f_no, q_f_no, q_f_st 0 1 1, q_f_ld 0 1 1, q_f_k (Int32.ofInt (-1)) 1],
  [q_f_ic 1 [77] 3, q_f_no, q_f_no, q_f_ld 1 0 1, q_f_k (Int16.ofInt 275).toInt32 3, q_f_no, q_f_no, q_f_putf [4, 4, 0] 3, q_f_no, q_f_no, q_f_goto 163, q_f_no, q_f_no, q_f_ld 0 1 1, q_f_no, q_f_no],
  [q_f_no, q_f_if 0 [116] 3, q_f_no, q_f_no, q_f_ld 1 0 1, q_f_no, q_f_no, q_f_no, q_f_ld 1 0 1, q_f_ld 1 0 1, q_f_getf [4, 4, 0] 3, q_f_no, q_f_no, q_f_k (Int16.ofInt 273).toInt32 3, q_f_no, q_f_no],
  [q_f_ic 1 [106] 3, q_f_no, q_f_no, q_f_ld 1 0 1, q_f_no, q_f_no, q_f_no, q_f_goto 110, q_f_no, q_f_no, q_f_ld 1 0 1, q_f_getf [4, 4, 0] 3, q_f_no, q_f_no, q_f_putf [4, 4, 0] 3, q_f_no],
  [q_f_no, q_f_goto 163, q_f_no, q_f_no, q_f_ld 0 1 1, q_f_no, q_f_no, q_f_no, q_f_if 0 [130] 3, q_f_no, q_f_no, q_f_ld 1 0 1, q_f_no, q_f_no, q_f_no, q_f_goto 163],
  [q_f_no, q_f_no, q_f_no, q_f_no, q_f_ld 0 1 1, q_f_b1 2 1, q_f_no, q_f_no, q_f_no, q_f_if 2 [158] 3, q_f_no, q_f_no, q_f_ld 1 0 1, q_f_ld 0 1 1, q_f_putf [4, 4, 0] 3, q_f_no],
  [q_f_no, q_f_ld 1 0 1, q_f_dup 1, q_f_getf [4, 2, 0] 3, q_f_no, q_f_no, q_f_k (Int32.ofInt 1) 1, q_f_b2 0 1, q_f_putf [4, 2, 0] 3, q_f_no, q_f_no, q_f_goto 163, q_f_no, q_f_no, q_f_ld 1 0 1, q_f_k (Int32.ofInt 1) 1],
  [q_f_no, q_f_no, q_f_no, q_f_ret]]
set_option maxRecDepth 100000 in
theorem g_e88 : g_f88 = q_yt g_t88 := rfl
set_option maxRecDepth 100000 in
noncomputable def g_f89 : q_YT q_A (q_Rf q_A) := [
  [q_f_ld 0 0 1, q_f_k (Int8.ofInt 32).toInt32 2, q_f_no, q_f_ic 0 [12] 3, q_f_no, q_f_no, q_f_ld 0 0 1, q_f_k (Int8.ofInt 10).toInt32 2, q_f_no, q_f_ic 1 [16] 3, q_f_no, q_f_no, q_f_k (Int32.ofInt 1) 1, q_f_goto 17, q_f_no, q_f_no],
  [q_f_k (Int32.ofInt 0) 1, q_f_iret [1]]]
set_option maxRecDepth 100000 in
theorem g_e89 : g_f89 = q_yt g_t89 := rfl
set_option maxRecDepth 100000 in
noncomputable def g_f90 : q_YT q_A (q_Rf q_A) := [
  [q_f_ld 1 0 1, q_f_ld 1 1 1, q_f_putf [4, 1, 3] 3, q_f_no, q_f_no, q_f_ld 1 0 1, q_f_getf [4, 1, 3] 3, q_f_no, q_f_no, q_f_inv 1 [104, 1, 1, 8] 3, q_f_no, q_f_no, q_f_ld 1 0 1, q_f_k (Int32.ofInt 0) 1, q_f_putf [4, 2, 0] 3, q_f_no],
  [q_f_no, q_f_ld 1 0 1, q_f_k (Int32.ofInt 0) 1, q_f_putf [4, 7, 0] 3, q_f_no, q_f_no, q_f_ld 1 0 1, q_f_k (Int32.ofInt 0) 1, q_f_putf [4, 8, 0] 3, q_f_no, q_f_no, q_f_ld 1 0 1, q_f_k (Int32.ofInt (-1)) 1, q_f_putf [4, 9, 0] 3, q_f_no, q_f_no],
  [q_f_ld 1 0 1, q_f_inv 1 [88, 1, 2, 4] 3, q_f_no, q_f_no, q_f_k (Int32.ofInt 0) 1, q_f_st 0 2 1, q_f_ld 0 2 1, q_f_k (Int16.ofInt 1600).toInt32 3, q_f_no, q_f_no, q_f_ic 3 [72] 3, q_f_no, q_f_no, q_f_ld 1 0 1, q_f_getf [4, 8, 0] 3, q_f_no],
  [q_f_no, q_f_if 1 [72] 3, q_f_no, q_f_no, q_f_ld 1 0 1, q_f_getf [4, 4, 0] 3, q_f_no, q_f_no, q_f_k (Int16.ofInt 275).toInt32 3, q_f_no, q_f_no, q_f_ic 0 [72] 3, q_f_no, q_f_no, q_f_ld 1 0 1, q_f_no],
  [q_f_no, q_f_no, q_f_iinc 2 1 3, q_f_no, q_f_no, q_f_goto 38, q_f_no, q_f_no, q_f_ld 1 0 1, q_f_getf [4, 8, 0] 3, q_f_no, q_f_no, q_f_if 1 [83] 3, q_f_no, q_f_no, q_f_k (Int32.ofInt 1) 1],
  [q_f_goto 84, q_f_no, q_f_no, q_f_k (Int32.ofInt 0) 1, q_f_iret [1]]]
set_option maxRecDepth 100000 in
theorem g_e90 : g_f90 = q_yt g_t90 := rfl
set_option maxRecDepth 100000 in
noncomputable def g_f91 : q_YT q_A (q_Rf q_A) := [
  [q_f_ld 1 0 1, q_f_obj 3, q_f_no, q_f_no, q_f_ld 1 0 1, q_f_k (Int8.ofInt 30).toInt32 2, q_f_no, q_f_newa [100] 2, q_f_no, q_f_putf [5, 3, 3] 3, q_f_no, q_f_no, q_f_ld 1 0 1, q_f_k (Int8.ofInt 30).toInt32 2, q_f_no, q_f_newa [100] 2],
  [q_f_no, q_f_putf [5, 4, 3] 3, q_f_no, q_f_no, q_f_ld 1 0 1, q_f_k (Int8.ofInt 30).toInt32 2, q_f_no, q_f_newa [102] 2, q_f_no, q_f_putf [5, 5, 3] 3, q_f_no, q_f_no, q_f_ld 1 0 1, q_f_k (Int8.ofInt 30).toInt32 2, q_f_no, q_f_newa [100] 2],
  [q_f_no, q_f_putf [5, 6, 3] 3, q_f_no, q_f_no, q_f_ld 1 0 1, q_f_k (Int8.ofInt 30).toInt32 2, q_f_no, q_f_newa [100] 2, q_f_no, q_f_putf [5, 7, 3] 3, q_f_no, q_f_no, q_f_ld 1 0 1, q_f_k (Int16.ofInt 210).toInt32 3, q_f_no, q_f_no],
  [q_f_newa [100] 2, q_f_no, q_f_putf [5, 8, 3] 3, q_f_no, q_f_no, q_f_ld 1 0 1, q_f_k (Int8.ofInt 8).toInt32 2, q_f_no, q_f_newa [100] 2, q_f_no, q_f_putf [5, 9, 3] 3, q_f_no, q_f_no, q_f_ret]]
set_option maxRecDepth 100000 in
theorem g_e91 : g_f91 = q_yt g_t91 := rfl
set_option maxRecDepth 100000 in
noncomputable def g_f92 : q_YT q_A (q_Rf q_A) := [
  [q_f_k (Int32.ofInt 0) 1, q_f_st 0 2 1, q_f_k (Int32.ofInt 0) 1, q_f_st 0 3 1, q_f_ld 0 3 1, q_f_k (Int8.ofInt 30).toInt32 2, q_f_no, q_f_ic 3 [42] 3, q_f_no, q_f_no, q_f_ld 1 0 1, q_f_getf [5, 2, 0] 3, q_f_no, q_f_no, q_f_if 5 [42] 3, q_f_no],
  [q_f_no, q_f_ld 0 2 1, q_f_ld 1 0 1, q_f_ld 0 3 1, q_f_ld 0 1 1, q_f_no, q_f_no, q_f_no, q_f_if 0 [33] 3, q_f_no, q_f_no, q_f_k (Int32.ofInt 1) 1, q_f_ld 0 3 1, q_f_b2 6 1, q_f_goto 34, q_f_no],
  [q_f_no, q_f_k (Int32.ofInt 0) 1, q_f_b2 4 1, q_f_st 0 2 1, q_f_iinc 3 1 3, q_f_no, q_f_no, q_f_goto 4, q_f_no, q_f_no, q_f_ld 0 2 1, q_f_iret [0]]]
set_option maxRecDepth 100000 in
theorem g_e92 : g_f92 = q_yt g_t92 := rfl
set_option maxRecDepth 100000 in
noncomputable def g_f93 : q_YT q_A (q_Rf q_A) := [
  [q_f_ld 1 0 1, q_f_k (Int32.ofInt 0) 1, q_f_putf [5, 1, 0] 3, q_f_no, q_f_no, q_f_ld 1 0 1, q_f_ld 1 2 1, q_f_getf [8, 4, 0] 3, q_f_no, q_f_no, q_f_putf [5, 2, 0] 3, q_f_no, q_f_no, q_f_k (Int32.ofInt 0) 1, q_f_st 0 4 2, q_f_no],
  [q_f_ld 0 4 2, q_f_no, q_f_k (Int8.ofInt 30).toInt32 2, q_f_no, q_f_ic 3 [81] 3, q_f_no, q_f_no, q_f_ld 1 0 1, q_f_getf [5, 2, 0] 3, q_f_no, q_f_no, q_f_if 5 [81] 3, q_f_no, q_f_no, q_f_ld 1 1 1, q_f_ld 1 2 1],
  [q_f_ld 1 3 1, q_f_inv 1 [108, 3, 5, 9] 3, q_f_no, q_f_no, q_f_ld 1 1 1, q_f_getf [9, 3, 3] 3, q_f_no, q_f_no, q_f_ld 1 0 1, q_f_getf [5, 2, 0] 3, q_f_no, q_f_no, q_f_k (Int32.ofInt 1) 1, q_f_b2 1 1, q_f_ld 0 4 2, q_f_no],
  [q_f_k (Int32.ofInt 1) 1, q_f_b2 0 1, q_f_ast 100 1, q_f_ld 1 1 1, q_f_k (Int32.ofInt 0) 1, q_f_inv 1 [110, 2, 3, 9] 3, q_f_no, q_f_no, q_f_ld 1 1 1, q_f_getf [9, 18, 3] 3, q_f_no, q_f_no, q_f_k (Int32.ofInt 0) 1, q_f_ld 1 0 1, q_f_getf [5, 8, 3] 3, q_f_no],
  [q_f_no, q_f_ld 0 4 2, q_f_no, q_f_k (Int8.ofInt 7).toInt32 2, q_f_no, q_f_b2 2 1, q_f_k (Int8.ofInt 7).toInt32 2, q_f_no, q_f_acpy 3, q_f_no, q_f_no, q_f_iinc 4 1 3, q_f_no, q_f_no, q_f_goto 16, q_f_no],
  [q_f_no, q_f_ret]]
set_option maxRecDepth 100000 in
theorem g_e93 : g_f93 = q_yt g_t93 := rfl
set_option maxRecDepth 100000 in
noncomputable def g_f94 : q_YT q_A (q_Rf q_A) := [
  [q_f_ld 0 1 1, q_f_if 2 [22] 3, q_f_no, q_f_no, q_f_ld 0 1 1, q_f_ld 1 0 1, q_f_getf [5, 1, 0] 3, q_f_no, q_f_no, q_f_ic 3 [22] 3, q_f_no, q_f_no, q_f_ld 1 0 1, q_f_getf [5, 7, 3] 3, q_f_no, q_f_no],
  [q_f_ld 0 1 1, q_f_ald 100 0 1, q_f_k (Int32.ofInt (-1)) 1, q_f_ic 0 [24] 3, q_f_no, q_f_no, q_f_k (Int32.ofInt 0) 1, q_f_iret [1], q_f_ld 1 0 1, q_f_getf [5, 7, 3] 3, q_f_no, q_f_no, q_f_ld 0 1 1, q_f_ld 1 0 1, q_f_getf [5, 0, 0] 3, q_f_no],
  [q_f_no, q_f_ast 100 1, q_f_k (Int32.ofInt 1) 1, q_f_iret [1]]]
set_option maxRecDepth 100000 in
theorem g_e94 : g_f94 = q_yt g_t94 := rfl
set_option maxRecDepth 100000 in
noncomputable def g_f95 : q_YT q_A (q_Rf q_A) := [
  [q_f_ld 1 0 1, q_f_obj 3, q_f_no, q_f_no, q_f_ld 1 0 1, q_f_k (Int8.ofInt 7).toInt32 2, q_f_no, q_f_newa [100] 2, q_f_no, q_f_putf [6, 0, 3] 3, q_f_no, q_f_no, q_f_ld 1 0 1, q_f_k (Int8.ofInt 7).toInt32 2, q_f_no, q_f_newa [100] 2],
  [q_f_no, q_f_putf [6, 2, 3] 3, q_f_no, q_f_no, q_f_ld 1 0 1, q_f_k (Int32.ofInt 2) 1, q_f_newa [100] 2, q_f_no, q_f_putf [6, 4, 3] 3, q_f_no, q_f_no, q_f_ld 1 0 1, q_f_k (Int32.ofInt 2) 1, q_f_newa [100] 2, q_f_no, q_f_putf [6, 5, 3] 3],
  [q_f_no, q_f_no, q_f_ret]]
set_option maxRecDepth 100000 in
theorem g_e95 : g_f95 = q_yt g_t95 := rfl
set_option maxRecDepth 100000 in
noncomputable def g_f96 : q_YT q_A (q_Rf q_A) := [
  [q_f_ld 1 0 1, q_f_ld 1 1 1, q_f_getf [8, 4, 0] 3, q_f_no, q_f_no, q_f_putf [6, 1, 0] 3, q_f_no, q_f_no, q_f_k (Int32.ofInt 0) 1, q_f_st 0 2 1, q_f_ld 0 2 1, q_f_k (Int8.ofInt 7).toInt32 2, q_f_no, q_f_ic 3 [36] 3, q_f_no, q_f_no],
  [q_f_ld 1 0 1, q_f_getf [6, 0, 3] 3, q_f_no, q_f_no, q_f_ld 0 2 1, q_f_ld 0 2 1, q_f_ast 100 1, q_f_ld 1 0 1, q_f_getf [6, 2, 3] 3, q_f_no, q_f_no, q_f_ld 0 2 1, q_f_k (Int32.ofInt 0) 1, q_f_ast 100 1, q_f_iinc 2 1 3, q_f_no],
  [q_f_no, q_f_goto 10, q_f_no, q_f_no, q_f_k (Int32.ofInt 0) 1, q_f_st 0 2 1, q_f_ld 0 2 1, q_f_k (Int32.ofInt 2) 1, q_f_ic 3 [63] 3, q_f_no, q_f_no, q_f_ld 1 0 1, q_f_getf [6, 4, 3] 3, q_f_no, q_f_no, q_f_ld 0 2 1],
  [q_f_k (Int32.ofInt (-1)) 1, q_f_ast 100 1, q_f_ld 1 0 1, q_f_getf [6, 5, 3] 3, q_f_no, q_f_no, q_f_ld 0 2 1, q_f_k (Int32.ofInt 0) 1, q_f_ast 100 1, q_f_iinc 2 1 3, q_f_no, q_f_no, q_f_goto 38, q_f_no, q_f_no, q_f_ld 1 0 1],
  [q_f_k (Int32.ofInt 0) 1, q_f_putf [6, 3, 0] 3, q_f_no, q_f_no, q_f_ld 1 0 1, q_f_k (Int32.ofInt 0) 1, q_f_putf [6, 6, 0] 3, q_f_no, q_f_no, q_f_ld 1 0 1, q_f_k (Int32.ofInt 0) 1, q_f_putf [6, 7, 0] 3, q_f_no, q_f_no, q_f_ld 1 0 1, q_f_k (Int32.ofInt 0) 1],
  [q_f_putf [6, 8, 0] 3, q_f_no, q_f_no, q_f_ld 1 0 1, q_f_ld 1 1 1, q_f_getf [8, 12, 0] 3, q_f_no, q_f_no, q_f_putf [6, 9, 0] 3, q_f_no, q_f_no, q_f_ret]]
set_option maxRecDepth 100000 in
theorem g_e96 : g_f96 = q_yt g_t96 := rfl
set_option maxRecDepth 100000 in
noncomputable def g_f97 : q_YT q_A (q_Rf q_A) := [
  [q_f_k (Int32.ofInt 0) 1, q_f_st 0 3 1, q_f_k (Int32.ofInt 0) 1, q_f_st 0 4 2, q_f_no, q_f_ld 0 4 2, q_f_no, q_f_ld 0 2 1, q_f_ic 3 [39] 3, q_f_no, q_f_no, q_f_ld 0 3 1, q_f_ld 1 0 1, q_f_getf [6, 2, 3] 3, q_f_no, q_f_no],
  [q_f_ld 0 4 2, q_f_no, q_f_ald 100 0 1, q_f_ld 0 1 1, q_f_ic 1 [30] 3, q_f_no, q_f_no, q_f_k (Int32.ofInt 1) 1, q_f_ld 0 4 2, q_f_no, q_f_b2 6 1, q_f_goto 31, q_f_no, q_f_no, q_f_k (Int32.ofInt 0) 1, q_f_b2 4 1],
  [q_f_st 0 3 1, q_f_iinc 4 1 3, q_f_no, q_f_no, q_f_goto 5, q_f_no, q_f_no, q_f_ld 0 3 1, q_f_iret [0]]]
set_option maxRecDepth 100000 in
theorem g_e97 : g_f97 = q_yt g_t97 := rfl
set_option maxRecDepth 100000 in
noncomputable def g_f98 : q_YT q_A (q_Rf q_A) := [
  [q_f_k (Int32.ofInt 1) 1, q_f_st 0 1 1, q_f_k (Int32.ofInt 0) 1, q_f_st 0 2 1, q_f_ld 0 2 1, q_f_k (Int32.ofInt 2) 1, q_f_ic 3 [35] 3, q_f_no, q_f_no, q_f_ld 0 1 1, q_f_if 0 [27] 3, q_f_no, q_f_no, q_f_ld 1 0 1, q_f_getf [6, 4, 3] 3, q_f_no],
  [q_f_no, q_f_ld 0 2 1, q_f_ald 100 0 1, q_f_k (Int32.ofInt (-1)) 1, q_f_ic 1 [27] 3, q_f_no, q_f_no, q_f_k (Int32.ofInt 1) 1, q_f_goto 28, q_f_no, q_f_no, q_f_k (Int32.ofInt 0) 1, q_f_st 0 1 1, q_f_iinc 2 1 3, q_f_no, q_f_no],
  [q_f_goto 4, q_f_no, q_f_no, q_f_ld 0 1 1, q_f_if 0 [50] 3, q_f_no, q_f_no, q_f_ld 1 0 1, q_f_getf [6, 1, 0] 3, q_f_no, q_f_no, q_f_if 1 [50] 3, q_f_no, q_f_no, q_f_k (Int32.ofInt 1) 1, q_f_goto 51],
  [q_f_no, q_f_no, q_f_k (Int32.ofInt 0) 1, q_f_iret [1]]]
set_option maxRecDepth 100000 in
theorem g_e98 : g_f98 = q_yt g_t98 := rfl
set_option maxRecDepth 100000 in
noncomputable def g_f99 : q_YT q_A (q_Rf q_A) := [
  [q_f_ld 0 2 1, q_f_if 2 [13] 3, q_f_no, q_f_no, q_f_ld 0 2 1, q_f_k (Int8.ofInt 24).toInt32 2, q_f_no, q_f_b2 0 1, q_f_ld 1 1 1, q_f_alen 1, q_f_ic 5 [14] 3, q_f_no, q_f_no, q_f_ret, q_f_ld 0 2 1, q_f_st 0 3 1],
  [q_f_ld 1 0 1, q_f_getf [6, 0, 3] 3, q_f_no, q_f_no, q_f_k (Int32.ofInt 0) 1, q_f_ld 1 1 1, q_f_ld 0 3 1, q_f_k (Int8.ofInt 7).toInt32 2, q_f_no, q_f_acpy 3, q_f_no, q_f_no, q_f_iinc 3 7 3, q_f_no, q_f_no, q_f_ld 1 0 1],
  [q_f_getf [6, 2, 3] 3, q_f_no, q_f_no, q_f_k (Int32.ofInt 0) 1, q_f_ld 1 1 1, q_f_ld 0 3 1, q_f_k (Int8.ofInt 7).toInt32 2, q_f_no, q_f_acpy 3, q_f_no, q_f_no, q_f_iinc 3 7 3, q_f_no, q_f_no, q_f_ld 1 0 1, q_f_getf [6, 4, 3] 3],
  [q_f_no, q_f_no, q_f_k (Int32.ofInt 0) 1, q_f_ld 1 1 1, q_f_ld 0 3 1, q_f_k (Int32.ofInt 2) 1, q_f_acpy 3, q_f_no, q_f_no, q_f_iinc 3 2 3, q_f_no, q_f_no, q_f_ld 1 0 1, q_f_getf [6, 5, 3] 3, q_f_no, q_f_no],
  [q_f_k (Int32.ofInt 0) 1, q_f_ld 1 1 1, q_f_ld 0 3 1, q_f_k (Int32.ofInt 2) 1, q_f_acpy 3, q_f_no, q_f_no, q_f_iinc 3 2 3, q_f_no, q_f_no, q_f_ld 1 1 1, q_f_ld 0 3 1, q_f_ld 1 0 1, q_f_getf [6, 1, 0] 3, q_f_no, q_f_no],
  [q_f_ast 100 1, q_f_ld 1 1 1, q_f_ld 0 3 1, q_f_k (Int32.ofInt 1) 1, q_f_b2 0 1, q_f_ld 1 0 1, q_f_getf [6, 3, 0] 3, q_f_no, q_f_no, q_f_ast 100 1, q_f_ld 1 1 1, q_f_ld 0 3 1, q_f_k (Int32.ofInt 2) 1, q_f_b2 0 1, q_f_ld 1 0 1, q_f_getf [6, 6, 0] 3],
  [q_f_no, q_f_no, q_f_ast 100 1, q_f_ld 1 1 1, q_f_ld 0 3 1, q_f_k (Int32.ofInt 3) 1, q_f_b2 0 1, q_f_ld 1 0 1, q_f_getf [6, 7, 0] 3, q_f_no, q_f_no, q_f_ast 100 1, q_f_ld 1 1 1, q_f_ld 0 3 1, q_f_k (Int32.ofInt 4) 1, q_f_b2 0 1],
  [q_f_ld 1 0 1, q_f_getf [6, 8, 0] 3, q_f_no, q_f_no, q_f_ast 100 1, q_f_ld 1 1 1, q_f_ld 0 3 1, q_f_k (Int32.ofInt 5) 1, q_f_b2 0 1, q_f_ld 1 0 1, q_f_getf [6, 9, 0] 3, q_f_no, q_f_no, q_f_ast 100 1, q_f_ret]]
set_option maxRecDepth 100000 in
theorem g_e99 : g_f99 = q_yt g_t99 := rfl
set_option maxRecDepth 100000 in
noncomputable def g_f100 : q_YT q_A (q_Rf q_A) := [
  [q_f_ld 1 0 1, q_f_obj 3, q_f_no, q_f_no, q_f_ld 1 0 1, q_f_k (Int16.ofInt 1600).toInt32 3, q_f_no, q_f_no, q_f_newa [101] 2, q_f_no, q_f_putf [7, 0, 3] 3, q_f_no, q_f_no, q_f_ret]]
set_option maxRecDepth 100000 in
theorem g_e100 : g_f100 = q_yt g_t100 := rfl
set_option maxRecDepth 100000 in
noncomputable def g_f101 : q_YT q_A (q_Rf q_A) := [
  [q_f_ld 0 1 1, q_f_if 2 [25] 3, q_f_no, q_f_no, q_f_ld 0 1 1, q_f_ld 1 0 1, q_f_getf [7, 1, 0] 3, q_f_no, q_f_no, q_f_ic 3 [25] 3, q_f_no, q_f_no, q_f_ld 1 0 1, q_f_getf [7, 0, 3] 3, q_f_no, q_f_no],
  [q_f_ld 0 1 1, q_f_ald 101 0 1, q_f_k (Int16.ofInt 255).toInt32 3, q_f_no, q_f_no, q_f_b2 3 1, q_f_goto 26, q_f_no, q_f_no, q_f_k (Int32.ofInt (-1)) 1, q_f_iret [0]]]
set_option maxRecDepth 100000 in
theorem g_e101 : g_f101 = q_yt g_t101 := rfl
set_option maxRecDepth 100000 in
noncomputable def g_f102 : q_YT q_A (q_Rf q_A) := [
  [q_f_k (Int8.ofInt 24).toInt32 2, q_f_no, q_f_st 0 2 1, q_f_ld 0 2 1, q_f_if 2 [46] 3, q_f_no, q_f_no, q_f_ld 1 0 1, q_f_getf [7, 1, 0] 3, q_f_no, q_f_no, q_f_k (Int16.ofInt 1600).toInt32 3, q_f_no, q_f_no, q_f_ic 3 [46] 3, q_f_no],
  [q_f_no, q_f_ld 1 0 1, q_f_getf [7, 0, 3] 3, q_f_no, q_f_no, q_f_ld 1 0 1, q_f_getf [7, 1, 0] 3, q_f_no, q_f_no, q_f_ld 0 1 1, q_f_ld 0 2 1, q_f_b2 7 1, q_f_b1 1 1, q_f_ast 101 1, q_f_ld 1 0 1, q_f_dup 1],
  [q_f_getf [7, 1, 0] 3, q_f_no, q_f_no, q_f_k (Int32.ofInt 1) 1, q_f_b2 0 1, q_f_putf [7, 1, 0] 3, q_f_no, q_f_no, q_f_iinc 2 (-8) 3, q_f_no, q_f_no, q_f_goto 3, q_f_no, q_f_no, q_f_ret]]
set_option maxRecDepth 100000 in
theorem g_e102 : g_f102 = q_yt g_t102 := rfl
set_option maxRecDepth 100000 in
noncomputable def g_f103 : q_YT q_A (q_Rf q_A) := [
  [q_f_ld 1 0 1, q_f_obj 3, q_f_no, q_f_no, q_f_ld 1 0 1, q_f_k (Int32.ofInt 5) 1, q_f_newa [103] 2, q_f_no, q_f_putf [8, 1, 3] 3, q_f_no, q_f_no, q_f_ld 1 0 1, q_f_k (Int32.ofInt 5) 1, q_f_newa [100] 2, q_f_no, q_f_putf [8, 2, 3] 3],
  [q_f_no, q_f_no, q_f_ld 1 0 1, q_f_k (Int32.ofInt 5) 1, q_f_newa [100] 2, q_f_no, q_f_putf [8, 3, 3] 3, q_f_no, q_f_no, q_f_ld 1 0 1, q_f_k (Int8.ofInt 7).toInt32 2, q_f_no, q_f_newa [103] 2, q_f_no, q_f_putf [8, 5, 3] 3, q_f_no],
  [q_f_no, q_f_ld 1 0 1, q_f_k (Int8.ofInt 7).toInt32 2, q_f_no, q_f_newa [100] 2, q_f_no, q_f_putf [8, 6, 3] 3, q_f_no, q_f_no, q_f_ld 1 0 1, q_f_k (Int8.ofInt 7).toInt32 2, q_f_no, q_f_newa [100] 2, q_f_no, q_f_putf [8, 7, 3] 3, q_f_no],
  [q_f_no, q_f_ld 1 0 1, q_f_k (Int8.ofInt 7).toInt32 2, q_f_no, q_f_newa [100] 2, q_f_no, q_f_putf [8, 8, 3] 3, q_f_no, q_f_no, q_f_ld 1 0 1, q_f_new [0, 3, 3, 3, 0, 0] 3, q_f_no, q_f_no, q_f_dup 1, q_f_inv 2 [75, 1, 1] 3, q_f_no],
  [q_f_no, q_f_putf [8, 13, 3] 3, q_f_no, q_f_no, q_f_ld 1 0 1, q_f_inv 1 [104, 1, 1, 8] 3, q_f_no, q_f_no, q_f_ret]]
set_option maxRecDepth 100000 in
theorem g_e103 : g_f103 = q_yt g_t103 := rfl
set_option maxRecDepth 100000 in
noncomputable def g_f104 : q_YT q_A (q_Rf q_A) := [
  [q_f_ld 1 0 1, q_f_k (Int32.ofInt 0) 1, q_f_putf [8, 0, 0] 3, q_f_no, q_f_no, q_f_ld 1 0 1, q_f_k (Int32.ofInt 0) 1, q_f_putf [8, 4, 0] 3, q_f_no, q_f_no, q_f_ld 1 0 1, q_f_k (Int8.ofInt 11).toInt32 2, q_f_no, q_f_putf [8, 9, 0] 3, q_f_no, q_f_no],
  [q_f_ld 1 0 1, q_f_k (Int32.ofInt 1) 1, q_f_putf [8, 10, 0] 3, q_f_no, q_f_no, q_f_ld 1 0 1, q_f_k (Int32.ofInt 0) 1, q_f_putf [8, 11, 0] 3, q_f_no, q_f_no, q_f_ld 1 0 1, q_f_k (Int32.ofInt 0) 1, q_f_putf [8, 12, 0] 3, q_f_no, q_f_no, q_f_ld 1 0 1],
  [q_f_getf [8, 13, 3] 3, q_f_no, q_f_no, q_f_k (Int32.ofInt 0) 1, q_f_putf [0, 3, 0] 3, q_f_no, q_f_no, q_f_ld 1 0 1, q_f_getf [8, 13, 3] 3, q_f_no, q_f_no, q_f_k (Int32.ofInt 0) 1, q_f_putf [0, 4, 0] 3, q_f_no, q_f_no, q_f_ret]]
set_option maxRecDepth 100000 in
theorem g_e104 : g_f104 = q_yt g_t104 := rfl
set_option maxRecDepth 100000 in
noncomputable def g_f105 : q_YT q_A (q_Rf q_A) := [
  [q_f_ld 1 0 1, q_f_obj 3, q_f_no, q_f_no, q_f_ld 1 0 1, q_f_k (Int8.ofInt 7).toInt32 2, q_f_no, q_f_newa [100] 2, q_f_no, q_f_putf [9, 1, 3] 3, q_f_no, q_f_no, q_f_ld 1 0 1, q_f_k (Int8.ofInt 8).toInt32 2, q_f_no, q_f_newa [100] 2],
  [q_f_no, q_f_putf [9, 3, 3] 3, q_f_no, q_f_no, q_f_ld 1 0 1, q_f_k (Int32.ofInt 5) 1, q_f_newa [100] 2, q_f_no, q_f_putf [9, 5, 3] 3, q_f_no, q_f_no, q_f_ld 1 0 1, q_f_k (Int32.ofInt 3) 1, q_f_newa [100] 2, q_f_no, q_f_putf [9, 11, 3] 3],
  [q_f_no, q_f_no, q_f_ld 1 0 1, q_f_k (Int32.ofInt 3) 1, q_f_newa [100] 2, q_f_no, q_f_putf [9, 12, 3] 3, q_f_no, q_f_no, q_f_ld 1 0 1, q_f_k (Int32.ofInt 3) 1, q_f_newa [100] 2, q_f_no, q_f_putf [9, 13, 3] 3, q_f_no, q_f_no],
  [q_f_ld 1 0 1, q_f_k (Int8.ofInt 8).toInt32 2, q_f_no, q_f_newa [100] 2, q_f_no, q_f_putf [9, 18, 3] 3, q_f_no, q_f_no, q_f_ld 1 0 1, q_f_k (Int8.ofInt 8).toInt32 2, q_f_no, q_f_newa [100] 2, q_f_no, q_f_putf [9, 19, 3] 3, q_f_no, q_f_no],
  [q_f_ld 1 0 1, q_f_ld 1 1 1, q_f_putf [9, 0, 3] 3, q_f_no, q_f_no, q_f_ret]]
set_option maxRecDepth 100000 in
theorem g_e105 : g_f105 = q_yt g_t105 := rfl
set_option maxRecDepth 100000 in
noncomputable def g_f106 : q_YT q_A (q_Rf q_A) := [
  [q_f_ld 1 0 1, q_f_getf [9, 14, 0] 3, q_f_no, q_f_no, q_f_st 0 1 1, q_f_k (Int32.ofInt 0) 1, q_f_st 0 2 1, q_f_ld 0 2 1, q_f_ld 1 0 1, q_f_getf [9, 10, 0] 3, q_f_no, q_f_no, q_f_ic 3 [51] 3, q_f_no, q_f_no, q_f_ld 1 0 1],
  [q_f_getf [9, 11, 3] 3, q_f_no, q_f_no, q_f_ld 0 2 1, q_f_ald 100 0 1, q_f_k (Int32.ofInt (-1)) 1, q_f_ic 1 [29] 3, q_f_no, q_f_no, q_f_ld 0 1 1, q_f_goto 44, q_f_no, q_f_no, q_f_ld 0 1 1, q_f_ld 1 0 1, q_f_getf [9, 19, 3] 3],
  [q_f_no, q_f_no, q_f_ld 1 0 1, q_f_getf [9, 11, 3] 3, q_f_no, q_f_no, q_f_ld 0 2 1, q_f_ald 100 0 1, q_f_ald 100 0 1, q_f_no, q_f_no, q_f_no, q_f_st 0 1 1, q_f_iinc 2 1 3, q_f_no, q_f_no],
  [q_f_goto 7, q_f_no, q_f_no, q_f_k (Int32.ofInt 0) 1, q_f_st 0 2 1, q_f_ld 0 2 1, q_f_ld 1 0 1, q_f_getf [9, 2, 0] 3, q_f_no, q_f_no, q_f_ic 3 [99] 3, q_f_no, q_f_no, q_f_ld 0 1 1, q_f_ld 1 0 1, q_f_getf [9, 18, 3] 3],
  [q_f_no, q_f_no, q_f_ld 1 0 1, q_f_getf [9, 1, 3] 3, q_f_no, q_f_no, q_f_ld 0 2 1, q_f_ald 100 0 1, q_f_ald 100 0 1, q_f_k (Int32.ofInt 1) 1, q_f_b2 0 1, q_f_ld 1 0 1, q_f_getf [9, 19, 3] 3, q_f_no, q_f_no, q_f_ld 1 0 1],
  [q_f_getf [9, 1, 3] 3, q_f_no, q_f_no, q_f_ld 0 2 1, q_f_ald 100 0 1, q_f_ald 100 0 1, q_f_no, q_f_no, q_f_no, q_f_no, q_f_no, q_f_no, q_f_st 0 1 1, q_f_iinc 2 1 3, q_f_no, q_f_no],
  [q_f_goto 53, q_f_no, q_f_no, q_f_ld 0 1 1, q_f_ld 1 0 1, q_f_getf [9, 14, 0] 3, q_f_no, q_f_no, q_f_b2 1 1, q_f_iret [0]]]
set_option maxRecDepth 100000 in
theorem g_e106 : g_f106 = q_yt g_t106 := rfl
set_option maxRecDepth 100000 in
noncomputable def g_f107 : q_YT q_A (q_Rf q_A) := [
  [q_f_k (Int32.ofInt 0) 1, q_f_st 0 2 1, q_f_k (Int32.ofInt 0) 1, q_f_st 0 3 1, q_f_ld 0 3 1, q_f_ld 1 0 1, q_f_getf [9, 2, 0] 3, q_f_no, q_f_no, q_f_ic 3 [46] 3, q_f_no, q_f_no, q_f_ld 0 1 1, q_f_ld 1 0 1, q_f_getf [9, 1, 3] 3, q_f_no],
  [q_f_no, q_f_ld 0 3 1, q_f_ald 100 0 1, q_f_inv 0 [25, 2, 2] 3, q_f_no, q_f_no, q_f_if 1 [40] 3, q_f_no, q_f_no, q_f_ld 1 0 1, q_f_getf [9, 1, 3] 3, q_f_no, q_f_no, q_f_ld 0 2 1, q_f_ld 1 0 1, q_f_getf [9, 1, 3] 3],
  [q_f_no, q_f_no, q_f_ld 0 3 1, q_f_ald 100 0 1, q_f_ast 100 1, q_f_iinc 2 1 3, q_f_no, q_f_no, q_f_iinc 3 1 3, q_f_no, q_f_no, q_f_goto 4, q_f_no, q_f_no, q_f_ld 1 0 1, q_f_ld 0 2 1],
  [q_f_putf [9, 2, 0] 3, q_f_no, q_f_no, q_f_ret]]
set_option maxRecDepth 100000 in
theorem g_e107 : g_f107 = q_yt g_t107 := rfl
set_option maxRecDepth 100000 in
noncomputable def g_f108 : q_YT q_A (q_Rf q_A) := [
  [q_f_ld 1 0 1, q_f_ld 1 1 1, q_f_putf [9, 0, 3] 3, q_f_no, q_f_no, q_f_ld 1 2 1, q_f_getf [6, 0, 3] 3, q_f_no, q_f_no, q_f_k (Int32.ofInt 0) 1, q_f_ld 1 0 1, q_f_getf [9, 1, 3] 3, q_f_no, q_f_no, q_f_k (Int32.ofInt 0) 1, q_f_k (Int8.ofInt 7).toInt32 2],
  [q_f_no, q_f_acpy 3, q_f_no, q_f_no, q_f_ld 1 0 1, q_f_ld 1 2 1, q_f_getf [6, 1, 0] 3, q_f_no, q_f_no, q_f_putf [9, 2, 0] 3, q_f_no, q_f_no, q_f_ld 1 1 1, q_f_getf [8, 7, 3] 3, q_f_no, q_f_no],
  [q_f_k (Int32.ofInt 0) 1, q_f_ld 1 0 1, q_f_getf [9, 3, 3] 3, q_f_no, q_f_no, q_f_k (Int32.ofInt 0) 1, q_f_k (Int8.ofInt 7).toInt32 2, q_f_no, q_f_acpy 3, q_f_no, q_f_no, q_f_k (Int32.ofInt 0) 1, q_f_st 0 3 1, q_f_ld 0 3 1, q_f_ld 1 1 1, q_f_getf [8, 0, 0] 3],
  [q_f_no, q_f_no, q_f_ic 3 [71] 3, q_f_no, q_f_no, q_f_ld 1 0 1, q_f_getf [9, 5, 3] 3, q_f_no, q_f_no, q_f_ld 0 3 1, q_f_ld 1 2 1, q_f_ld 1 1 1, q_f_ld 0 3 1, q_f_no, q_f_no, q_f_no],
  [q_f_ast 100 1, q_f_iinc 3 1 3, q_f_no, q_f_no, q_f_goto 45, q_f_no, q_f_no, q_f_ld 1 0 1, q_f_ld 1 2 1, q_f_getf [6, 3, 0] 3, q_f_no, q_f_no, q_f_putf [9, 6, 0] 3, q_f_no, q_f_no, q_f_ld 1 0 1],
  [q_f_ld 1 1 1, q_f_getf [8, 9, 0] 3, q_f_no, q_f_no, q_f_putf [9, 7, 0] 3, q_f_no, q_f_no, q_f_ld 1 0 1, q_f_k (Int32.ofInt 0) 1, q_f_putf [9, 8, 0] 3, q_f_no, q_f_no, q_f_ld 1 0 1, q_f_ld 1 1 1, q_f_getf [8, 10, 0] 3, q_f_no],
  [q_f_no, q_f_putf [9, 10, 0] 3, q_f_no, q_f_no, q_f_k (Int32.ofInt 0) 1, q_f_st 0 3 1, q_f_ld 0 3 1, q_f_k (Int32.ofInt 3) 1, q_f_ic 3 [167] 3, q_f_no, q_f_no, q_f_ld 0 3 1, q_f_k (Int32.ofInt 2) 1, q_f_ic 3 [116] 3, q_f_no, q_f_no],
  [q_f_k (Int32.ofInt 1) 1, q_f_goto 117, q_f_no, q_f_no, q_f_k (Int32.ofInt 0) 1, q_f_st 0 4 2, q_f_no, q_f_ld 1 0 1, q_f_getf [9, 11, 3] 3, q_f_no, q_f_no, q_f_ld 0 3 1, q_f_ld 0 4 2, q_f_no, q_f_if 0 [138] 3, q_f_no],
  [q_f_no, q_f_ld 1 2 1, q_f_getf [6, 4, 3] 3, q_f_no, q_f_no, q_f_ld 0 3 1, q_f_ald 100 0 1, q_f_goto 139, q_f_no, q_f_no, q_f_k (Int32.ofInt (-1)) 1, q_f_ast 100 1, q_f_ld 1 0 1, q_f_getf [9, 12, 3] 3, q_f_no, q_f_no],
  [q_f_ld 0 3 1, q_f_ld 0 4 2, q_f_no, q_f_if 0 [159] 3, q_f_no, q_f_no, q_f_ld 1 2 1, q_f_getf [6, 5, 3] 3, q_f_no, q_f_no, q_f_ld 0 3 1, q_f_ald 100 0 1, q_f_goto 160, q_f_no, q_f_no, q_f_k (Int32.ofInt 0) 1],
  [q_f_ast 100 1, q_f_iinc 3 1 3, q_f_no, q_f_no, q_f_goto 102, q_f_no, q_f_no, q_f_ld 1 0 1, q_f_ld 1 2 1, q_f_getf [6, 8, 0] 3, q_f_no, q_f_no, q_f_putf [9, 14, 0] 3, q_f_no, q_f_no, q_f_ld 1 0 1],
  [q_f_ld 1 2 1, q_f_k (Int32.ofInt 2) 1, q_f_ld 1 1 1, q_f_getf [8, 4, 0] 3, q_f_no, q_f_no, q_f_inv 1 [97, 3, 5, 6] 3, q_f_no, q_f_no, q_f_putf [9, 15, 0] 3, q_f_no, q_f_no, q_f_ret]]
set_option maxRecDepth 100000 in
theorem g_e108 : g_f108 = q_yt g_t108 := rfl
set_option maxRecDepth 100000 in
noncomputable def g_f109 : q_YT q_A (q_Rf q_A) := [
  [q_f_ld 1 0 1, q_f_ld 1 0 1, q_f_getf [9, 15, 0] 3, q_f_no, q_f_no, q_f_putf [9, 16, 0] 3, q_f_no, q_f_no, q_f_ld 1 0 1, q_f_k (Int32.ofInt 0) 1, q_f_putf [9, 17, 0] 3, q_f_no, q_f_no, q_f_k (Int32.ofInt 0) 1, q_f_st 0 2 1, q_f_ld 0 2 1],
  [q_f_ld 1 0 1, q_f_getf [9, 10, 0] 3, q_f_no, q_f_no, q_f_ic 3 [102] 3, q_f_no, q_f_no, q_f_ld 1 0 1, q_f_getf [9, 11, 3] 3, q_f_no, q_f_no, q_f_ld 0 2 1, q_f_ald 100 0 1, q_f_st 0 3 1, q_f_ld 1 0 1, q_f_getf [9, 13, 3] 3],
  [q_f_no, q_f_no, q_f_ld 0 2 1, q_f_ld 1 0 1, q_f_getf [9, 14, 0] 3, q_f_no, q_f_no, q_f_ast 100 1, q_f_ld 0 3 1, q_f_k (Int32.ofInt (-1)) 1, q_f_ic 0 [86] 3, q_f_no, q_f_no, q_f_ld 1 0 1, q_f_getf [9, 18, 3] 3, q_f_no],
  [q_f_no, q_f_ld 0 3 1, q_f_ld 1 0 1, q_f_getf [9, 14, 0] 3, q_f_no, q_f_no, q_f_k (Int32.ofInt 1) 1, q_f_b2 1 1, q_f_ast 100 1, q_f_ld 1 0 1, q_f_ld 0 3 1, q_f_ld 1 0 1, q_f_getf [9, 14, 0] 3, q_f_no, q_f_no, q_f_ld 1 0 1],
  [q_f_getf [9, 12, 3] 3, q_f_no, q_f_no, q_f_ld 0 2 1, q_f_ald 100 0 1, q_f_b2 0 1, q_f_no, q_f_no, q_f_no, q_f_pop 1, q_f_ld 1 0 1, q_f_getf [9, 13, 3] 3, q_f_no, q_f_no, q_f_ld 0 2 1, q_f_ld 1 0 1],
  [q_f_getf [9, 19, 3] 3, q_f_no, q_f_no, q_f_ld 0 3 1, q_f_ald 100 0 1, q_f_ast 100 1, q_f_ld 1 0 1, q_f_getf [9, 13, 3] 3, q_f_no, q_f_no, q_f_ld 0 2 1, q_f_dup2 1, q_f_ald 100 0 1, q_f_ld 0 1 1, q_f_b2 0 1, q_f_ast 100 1],
  [q_f_iinc 2 1 3, q_f_no, q_f_no, q_f_goto 15, q_f_no, q_f_no, q_f_ret]]
set_option maxRecDepth 100000 in
theorem g_e109 : g_f109 = q_yt g_t109 := rfl
set_option maxRecDepth 100000 in
noncomputable def g_f110 : q_YT q_A (q_Rf q_A) := [
  [q_f_ld 1 0 1, q_f_ld 0 1 1, q_f_inv 1 [109, 2, 4, 9] 3, q_f_no, q_f_no, q_f_k (Int32.ofInt 0) 1, q_f_st 0 2 1, q_f_ld 0 2 1, q_f_ld 1 0 1, q_f_getf [9, 2, 0] 3, q_f_no, q_f_no, q_f_ic 3 [44] 3, q_f_no, q_f_no, q_f_ld 1 0 1],
  [q_f_ld 1 0 1, q_f_getf [9, 1, 3] 3, q_f_no, q_f_no, q_f_ld 0 2 1, q_f_ald 100 0 1, q_f_ld 1 0 1, q_f_no, q_f_no, q_f_no, q_f_ld 1 0 1, q_f_getf [9, 2, 0] 3, q_f_no, q_f_no, q_f_k (Int32.ofInt 1) 1, q_f_b2 1 1],
  [q_f_ld 0 2 1, q_f_b2 1 1, q_f_no, q_f_no, q_f_no, q_f_pop 1, q_f_iinc 2 1 3, q_f_no, q_f_no, q_f_goto 7, q_f_no, q_f_no, q_f_ret]]
set_option maxRecDepth 100000 in
theorem g_e110 : g_f110 = q_yt g_t110 := rfl
set_option maxRecDepth 100000 in
noncomputable def g_f111 : q_YT q_A (q_Rf q_A) := [
  [q_f_ld 1 0 1, q_f_obj 3, q_f_no, q_f_no, q_f_ld 1 0 1, q_f_k (Int16.ofInt 1600).toInt32 3, q_f_no, q_f_no, q_f_newa [100] 2, q_f_no, q_f_putf [11, 0, 3] 3, q_f_no, q_f_no, q_f_ld 1 0 1, q_f_k (Int32.ofInt (-1)) 1, q_f_putf [11, 3, 0] 3],
  [q_f_no, q_f_no, q_f_ld 1 0 1, q_f_k (Int8.ofInt 12).toInt32 2, q_f_no, q_f_newa [103] 2, q_f_no, q_f_putf [11, 10, 3] 3, q_f_no, q_f_no, q_f_ld 1 0 1, q_f_k (Int16.ofInt 320).toInt32 3, q_f_no, q_f_no, q_f_newa [100] 2, q_f_no],
  [q_f_putf [11, 11, 3] 3, q_f_no, q_f_no, q_f_ld 1 0 1, q_f_k (Int16.ofInt 320).toInt32 3, q_f_no, q_f_no, q_f_newa [100] 2, q_f_no, q_f_putf [11, 12, 3] 3, q_f_no, q_f_no, q_f_ld 1 0 1, q_f_k (Int16.ofInt 320).toInt32 3, q_f_no, q_f_no],
  [q_f_newa [100] 2, q_f_no, q_f_putf [11, 13, 3] 3, q_f_no, q_f_no, q_f_ld 1 0 1, q_f_k (Int16.ofInt 320).toInt32 3, q_f_no, q_f_no, q_f_newa [100] 2, q_f_no, q_f_putf [11, 14, 3] 3, q_f_no, q_f_no, q_f_ld 1 0 1, q_f_k (Int16.ofInt 160).toInt32 3],
  [q_f_no, q_f_no, q_f_newa [100] 2, q_f_no, q_f_putf [11, 15, 3] 3, q_f_no, q_f_no, q_f_ld 1 0 1, q_f_k (Int8.ofInt 64).toInt32 2, q_f_no, q_f_newa [100] 2, q_f_no, q_f_putf [11, 16, 3] 3, q_f_no, q_f_no, q_f_ld 1 0 1],
  [q_f_k (Int8.ofInt 6).toInt32 2, q_f_no, q_f_newa [100] 2, q_f_no, q_f_putf [11, 26, 3] 3, q_f_no, q_f_no, q_f_ld 1 0 1, q_f_k (Int32.ofInt (-1)) 1, q_f_putf [11, 29, 0] 3, q_f_no, q_f_no, q_f_ld 1 0 1, q_f_k (Int32.ofInt 5) 1, q_f_newa [100] 2, q_f_no],
  [q_f_putf [11, 31, 3] 3, q_f_no, q_f_no, q_f_ld 1 0 1, q_f_k (Int32.ofInt 5) 1, q_f_newa [100] 2, q_f_no, q_f_putf [11, 32, 3] 3, q_f_no, q_f_no, q_f_ld 1 0 1, q_f_k (Int8.ofInt 7).toInt32 2, q_f_no, q_f_newa [100] 2, q_f_no, q_f_putf [11, 33, 3] 3],
  [q_f_no, q_f_no, q_f_ld 1 0 1, q_f_k (Int8.ofInt 7).toInt32 2, q_f_no, q_f_newa [100] 2, q_f_no, q_f_putf [11, 34, 3] 3, q_f_no, q_f_no, q_f_ld 1 0 1, q_f_k (Int8.ofInt 7).toInt32 2, q_f_no, q_f_newa [100] 2, q_f_no, q_f_putf [11, 35, 3] 3],
  [q_f_no, q_f_no, q_f_ld 1 0 1, q_f_k (Int32.ofInt 5) 1, q_f_newa [100] 2, q_f_no, q_f_putf [11, 36, 3] 3, q_f_no, q_f_no, q_f_ld 1 0 1, q_f_k (Int32.ofInt 5) 1, q_f_newa [100] 2, q_f_no, q_f_putf [11, 37, 3] 3, q_f_no, q_f_no],
  [q_f_ld 1 0 1, q_f_k (Int8.ofInt 8).toInt32 2, q_f_no, q_f_newa [100] 2, q_f_no, q_f_putf [11, 38, 3] 3, q_f_no, q_f_no, q_f_ld 1 0 1, q_f_k (Int8.ofInt 8).toInt32 2, q_f_no, q_f_newa [100] 2, q_f_no, q_f_putf [11, 39, 3] 3, q_f_no, q_f_no],
  [q_f_ld 1 0 1, q_f_k (Int8.ofInt 8).toInt32 2, q_f_no, q_f_newa [100] 2, q_f_no, q_f_putf [11, 40, 3] 3, q_f_no, q_f_no, q_f_ld 1 0 1, q_f_k (Int8.ofInt 11).toInt32 2, q_f_no, q_f_putf [11, 49, 0] 3, q_f_no, q_f_no, q_f_ld 1 0 1, q_f_k (Int32.ofInt 1) 1],
  [q_f_putf [11, 50, 0] 3, q_f_no, q_f_no, q_f_ld 1 0 1, q_f_k (Int8.ofInt 28).toInt32 2, q_f_no, q_f_newa [100] 2, q_f_no, q_f_putf [11, 57, 3] 3, q_f_no, q_f_no, q_f_ld 1 0 1, q_f_k (Int8.ofInt 28).toInt32 2, q_f_no, q_f_newa [100] 2, q_f_no],
  [q_f_putf [11, 58, 3] 3, q_f_no, q_f_no, q_f_ld 1 0 1, q_f_k (Int32.ofInt 3) 1, q_f_newa [100] 2, q_f_no, q_f_putf [11, 60, 3] 3, q_f_no, q_f_no, q_f_ld 1 0 1, q_f_k (Int32.ofInt 3) 1, q_f_newa [102] 2, q_f_no, q_f_putf [11, 61, 3] 3, q_f_no],
  [q_f_no, q_f_ld 1 0 1, q_f_k (Int8.ofInt 8).toInt32 2, q_f_no, q_f_newa [100] 2, q_f_no, q_f_putf [11, 63, 3] 3, q_f_no, q_f_no, q_f_ld 1 0 1, q_f_k (Int8.ofInt 8).toInt32 2, q_f_no, q_f_newa [100] 2, q_f_no, q_f_putf [11, 64, 3] 3, q_f_no],
  [q_f_no, q_f_ld 1 0 1, q_f_k (Int16.ofInt 1120).toInt32 3, q_f_no, q_f_no, q_f_newa [100] 2, q_f_no, q_f_putf [11, 65, 3] 3, q_f_no, q_f_no, q_f_ld 1 0 1, q_f_k (Int8.ofInt 7).toInt32 2, q_f_no, q_f_newa [100] 2, q_f_no, q_f_putf [11, 68, 3] 3],
  [q_f_no, q_f_no, q_f_ld 1 0 1, q_f_k (Int8.ofInt 7).toInt32 2, q_f_no, q_f_newa [100] 2, q_f_no, q_f_putf [11, 69, 3] 3, q_f_no, q_f_no, q_f_ld 1 0 1, q_f_k (Int8.ofInt 7).toInt32 2, q_f_no, q_f_newa [100] 2, q_f_no, q_f_putf [11, 71, 3] 3],
  [q_f_no, q_f_no, q_f_ld 1 0 1, q_f_k (Int8.ofInt 7).toInt32 2, q_f_no, q_f_newa [100] 2, q_f_no, q_f_putf [11, 72, 3] 3, q_f_no, q_f_no, q_f_ld 1 0 1, q_f_k (Int8.ofInt 30).toInt32 2, q_f_no, q_f_newa [100] 2, q_f_no, q_f_putf [11, 73, 3] 3],
  [q_f_no, q_f_no, q_f_ld 1 0 1, q_f_k (Int8.ofInt 30).toInt32 2, q_f_no, q_f_newa [100] 2, q_f_no, q_f_putf [11, 74, 3] 3, q_f_no, q_f_no, q_f_ld 1 0 1, q_f_k (Int8.ofInt 30).toInt32 2, q_f_no, q_f_newa [100] 2, q_f_no, q_f_putf [11, 75, 3] 3],
  [q_f_no, q_f_no, q_f_ld 1 0 1, q_f_k (Int8.ofInt 30).toInt32 2, q_f_no, q_f_newa [100] 2, q_f_no, q_f_putf [11, 76, 3] 3, q_f_no, q_f_no, q_f_ld 1 0 1, q_f_k (Int8.ofInt 30).toInt32 2, q_f_no, q_f_newa [102] 2, q_f_no, q_f_putf [11, 77, 3] 3],
  [q_f_no, q_f_no, q_f_ld 1 0 1, q_f_k (Int16.ofInt 1891).toInt32 3, q_f_no, q_f_no, q_f_newa [100] 2, q_f_no, q_f_putf [11, 80, 3] 3, q_f_no, q_f_no, q_f_ld 1 0 1, q_f_k (Int8.ofInt 8).toInt32 2, q_f_no, q_f_newa [100] 2, q_f_no],
  [q_f_putf [11, 81, 3] 3, q_f_no, q_f_no, q_f_ld 1 0 1, q_f_k (Int8.ofInt 31).toInt32 2, q_f_no, q_f_newa [102] 2, q_f_no, q_f_putf [11, 82, 3] 3, q_f_no, q_f_no, q_f_ld 1 0 1, q_f_k (Int32.ofInt 3) 1, q_f_newa [102] 2, q_f_no, q_f_putf [11, 83, 3] 3],
  [q_f_no, q_f_no, q_f_ld 1 0 1, q_f_k (Int8.ofInt 84).toInt32 2, q_f_no, q_f_newa [100] 2, q_f_no, q_f_putf [11, 84, 3] 3, q_f_no, q_f_no, q_f_ld 1 0 1, q_f_inv 1 [156, 1, 2, 11] 3, q_f_no, q_f_no, q_f_ld 1 0 1, q_f_inv 1 [151, 1, 2, 11] 3],
  [q_f_no, q_f_no, q_f_ret]]
set_option maxRecDepth 100000 in
theorem g_e111 : g_f111 = q_yt g_t111 := rfl
set_option maxRecDepth 100000 in
noncomputable def g_f112 : q_YT q_A (q_Rf q_A) := [
  [q_f_ld 0 1 1, q_f_tsw 0 16 [180, 84, 89, 94, 102, 107, 113, 119, 127, 135, 140, 145, 150, 155, 160, 165, 170, 175], q_f_no, q_f_no, q_f_no, q_f_no, q_f_no, q_f_no, q_f_no, q_f_no, q_f_no, q_f_no, q_f_no, q_f_no, q_f_no, q_f_no],
  [q_f_no, q_f_no, q_f_no, q_f_no, q_f_no, q_f_no, q_f_no, q_f_no, q_f_no, q_f_no, q_f_no, q_f_no, q_f_no, q_f_no, q_f_no, q_f_no],
  [q_f_no, q_f_no, q_f_no, q_f_no, q_f_no, q_f_no, q_f_no, q_f_no, q_f_no, q_f_no, q_f_no, q_f_no, q_f_no, q_f_no, q_f_no, q_f_no],
  [q_f_no, q_f_no, q_f_no, q_f_no, q_f_no, q_f_no, q_f_no, q_f_no, q_f_no, q_f_no, q_f_no, q_f_no, q_f_no, q_f_no, q_f_no, q_f_no],
  [q_f_no, q_f_no, q_f_no, q_f_no, q_f_no, q_f_no, q_f_no, q_f_no, q_f_no, q_f_no, q_f_no, q_f_no, q_f_no, q_f_no, q_f_no, q_f_no],
  [q_f_no, q_f_no, q_f_no, q_f_no, q_f_ld 1 0 1, q_f_getf [11, 48, 0] 3, q_f_no, q_f_no, q_f_iret [0], q_f_ld 1 0 1, q_f_getf [11, 47, 0] 3, q_f_no, q_f_no, q_f_iret [0], q_f_ld 1 0 1, q_f_getf [11, 57, 3] 3],
  [q_f_no, q_f_no, q_f_k (Int8.ofInt 8).toInt32 2, q_f_no, q_f_ald 100 0 1, q_f_iret [0], q_f_ld 1 0 1, q_f_getf [11, 50, 0] 3, q_f_no, q_f_no, q_f_iret [0], q_f_ld 1 0 1, q_f_k (Int32.ofInt 2) 1, q_f_inv 1 [140, 2, 4, 11] 3, q_f_no, q_f_no],
  [q_f_iret [0], q_f_ld 1 0 1, q_f_k (Int32.ofInt 3) 1, q_f_inv 1 [140, 2, 4, 11] 3, q_f_no, q_f_no, q_f_iret [0], q_f_ld 1 0 1, q_f_getf [11, 57, 3] 3, q_f_no, q_f_no, q_f_k (Int8.ofInt 26).toInt32 2, q_f_no, q_f_ald 100 0 1, q_f_iret [0], q_f_ld 1 0 1],
  [q_f_getf [11, 57, 3] 3, q_f_no, q_f_no, q_f_k (Int8.ofInt 27).toInt32 2, q_f_no, q_f_ald 100 0 1, q_f_iret [0], q_f_ld 1 0 1, q_f_getf [11, 66, 0] 3, q_f_no, q_f_no, q_f_iret [0], q_f_ld 1 0 1, q_f_getf [11, 67, 0] 3, q_f_no, q_f_no],
  [q_f_iret [0], q_f_ld 1 0 1, q_f_getf [11, 78, 0] 3, q_f_no, q_f_no, q_f_iret [0], q_f_ld 1 0 1, q_f_getf [11, 79, 0] 3, q_f_no, q_f_no, q_f_iret [0], q_f_ld 1 0 1, q_f_getf [11, 1, 0] 3, q_f_no, q_f_no, q_f_iret [0]],
  [q_f_ld 1 0 1, q_f_getf [11, 21, 0] 3, q_f_no, q_f_no, q_f_iret [0], q_f_ld 1 0 1, q_f_getf [11, 70, 0] 3, q_f_no, q_f_no, q_f_iret [0], q_f_ld 1 0 1, q_f_getf [11, 49, 0] 3, q_f_no, q_f_no, q_f_iret [0], q_f_ld 1 0 1],
  [q_f_getf [11, 51, 0] 3, q_f_no, q_f_no, q_f_iret [0], q_f_k (Int32.ofInt (-1)) 1, q_f_iret [0]]]
set_option maxRecDepth 100000 in
theorem g_e112 : g_f112 = q_yt g_t112 := rfl
set_option maxRecDepth 100000 in
noncomputable def g_f113 : q_YT q_A (q_Rf q_A) := [
  [q_f_ld 1 0 1, q_f_ld 1 0 1, q_f_getf [11, 49, 0] 3, q_f_no, q_f_no, q_f_putf [11, 27, 0] 3, q_f_no, q_f_no, q_f_ld 1 0 1, q_f_ld 1 0 1, q_f_getf [11, 50, 0] 3, q_f_no, q_f_no, q_f_putf [11, 28, 0] 3, q_f_no, q_f_no],
  [q_f_ld 1 0 1, q_f_k (Int32.ofInt (-1)) 1, q_f_putf [11, 29, 0] 3, q_f_no, q_f_no, q_f_ld 1 0 1, q_f_k (Int32.ofInt 0) 1, q_f_putf [11, 59, 0] 3, q_f_no, q_f_no, q_f_k (Int32.ofInt 0) 1, q_f_st 0 1 1, q_f_ld 0 1 1, q_f_k (Int32.ofInt 3) 1, q_f_ic 3 [53] 3, q_f_no],
  [q_f_no, q_f_ld 1 0 1, q_f_getf [11, 60, 3] 3, q_f_no, q_f_no, q_f_ld 0 1 1, q_f_k (Int32.ofInt 0) 1, q_f_ast 100 1, q_f_ld 1 0 1, q_f_getf [11, 61, 3] 3, q_f_no, q_f_no, q_f_ld 0 1 1, q_f_k (Int32.ofInt 0) 1, q_f_ast 101 1, q_f_iinc 1 1 3],
  [q_f_no, q_f_no, q_f_goto 28, q_f_no, q_f_no, q_f_k (Int32.ofInt 0) 1, q_f_st 0 1 1, q_f_ld 0 1 1, q_f_k (Int8.ofInt 7).toInt32 2, q_f_no, q_f_ic 4 [81] 3, q_f_no, q_f_no, q_f_ld 1 0 1, q_f_getf [11, 63, 3] 3, q_f_no],
  [q_f_no, q_f_ld 0 1 1, q_f_k (Int32.ofInt (-1)) 1, q_f_ast 100 1, q_f_ld 1 0 1, q_f_getf [11, 64, 3] 3, q_f_no, q_f_no, q_f_ld 0 1 1, q_f_k (Int32.ofInt (-1)) 1, q_f_ast 100 1, q_f_iinc 1 1 3, q_f_no, q_f_no, q_f_goto 55, q_f_no],
  [q_f_no, q_f_ld 1 0 1, q_f_k (Int32.ofInt 0) 1, q_f_putf [11, 62, 0] 3, q_f_no, q_f_no, q_f_ret]]
set_option maxRecDepth 100000 in
theorem g_e113 : g_f113 = q_yt g_t113 := rfl
set_option maxRecDepth 100000 in
noncomputable def g_f114 : q_YT q_A (q_Rf q_A) := [
  [q_f_ld 0 1 1, q_f_k (Int32.ofInt 0) 1, q_f_k (Int32.ofInt 1) 1, q_f_inv 0 [146, 3, 3] 3, q_f_no, q_f_no, q_f_if 1 [11] 3, q_f_no, q_f_no, q_f_k (Int32.ofInt (-1)) 1, q_f_iret [0], q_f_k (Int32.ofInt (-1)) 1, q_f_st 0 2 1, q_f_k (Int32.ofInt (-1)) 1, q_f_st 0 3 1, q_f_k (Int32.ofInt 0) 1],
  [q_f_st 0 4 2, q_f_no, q_f_ld 0 4 2, q_f_no, q_f_ld 1 0 1, q_f_getf [11, 48, 0] 3, q_f_no, q_f_no, q_f_ic 3 [84] 3, q_f_no, q_f_no, q_f_ld 1 0 1, q_f_ld 0 4 2, q_f_no, q_f_inv 1 [148, 2, 2, 11] 3, q_f_no],
  [q_f_no, q_f_if 1 [39] 3, q_f_no, q_f_no, q_f_goto 78, q_f_no, q_f_no, q_f_ld 1 0 1, q_f_inv 1 [131, 1, 2, 11] 3, q_f_no, q_f_no, q_f_ld 1 0 1, q_f_ld 1 0 1, q_f_ld 1 0 1, q_f_ld 0 4 2, q_f_no],
  [q_f_no, q_f_no, q_f_no, q_f_no, q_f_no, q_f_no, q_f_no, q_f_no, q_f_no, q_f_ld 1 0 1, q_f_inv 1 [122, 1, 1, 11] 3, q_f_no, q_f_no, q_f_st 0 5 2, q_f_no, q_f_ld 0 5 2],
  [q_f_no, q_f_ld 0 3 1, q_f_ic 4 [72] 3, q_f_no, q_f_no, q_f_goto 78, q_f_no, q_f_no, q_f_ld 0 4 2, q_f_no, q_f_st 0 2 1, q_f_ld 0 5 2, q_f_no, q_f_st 0 3 1, q_f_iinc 4 1 3, q_f_no],
  [q_f_no, q_f_goto 18, q_f_no, q_f_no, q_f_ld 0 1 1, q_f_if 1 [92] 3, q_f_no, q_f_no, q_f_ld 0 2 1, q_f_goto 93, q_f_no, q_f_no, q_f_ld 0 3 1, q_f_iret [0]]]
set_option maxRecDepth 100000 in
theorem g_e114 : g_f114 = q_yt g_t114 := rfl
set_option maxRecDepth 100000 in
noncomputable def g_f115 : q_YT q_A (q_Rf q_A) := [
  [q_f_ld 0 1 1, q_f_k (Int32.ofInt 0) 1, q_f_k (Int32.ofInt 1) 1, q_f_inv 0 [146, 3, 3] 3, q_f_no, q_f_no, q_f_if 0 [17] 3, q_f_no, q_f_no, q_f_ld 1 0 1, q_f_ld 0 2 1, q_f_inv 1 [155, 2, 6, 11] 3, q_f_no, q_f_no, q_f_if 1 [19] 3, q_f_no],
  [q_f_no, q_f_k (Int32.ofInt (-1)) 1, q_f_iret [0], q_f_k (Int32.ofInt 0) 1, q_f_st 0 3 1, q_f_k (Int32.ofInt 1) 1, q_f_st 0 4 2, q_f_no, q_f_ld 0 4 2, q_f_no, q_f_k (Int8.ofInt 60).toInt32 2, q_f_no, q_f_ic 4 [58] 3, q_f_no, q_f_no, q_f_ld 1 0 1],
  [q_f_ld 0 4 2, q_f_no, q_f_no, q_f_no, q_f_no, q_f_ld 1 0 1, q_f_ld 0 3 1, q_f_no, q_f_no, q_f_no, q_f_ic 3 [50] 3, q_f_no, q_f_no, q_f_ld 0 4 2, q_f_no, q_f_goto 51],
  [q_f_no, q_f_no, q_f_ld 0 3 1, q_f_st 0 3 1, q_f_iinc 4 1 3, q_f_no, q_f_no, q_f_goto 24, q_f_no, q_f_no, q_f_ld 0 1 1, q_f_if 1 [66] 3, q_f_no, q_f_no, q_f_ld 0 3 1, q_f_goto 71],
  [q_f_no, q_f_no, q_f_ld 1 0 1, q_f_ld 0 3 1, q_f_no, q_f_no, q_f_no, q_f_iret [0]]]
set_option maxRecDepth 100000 in
theorem g_e115 : g_f115 = q_yt g_t115 := rfl
set_option maxRecDepth 100000 in
noncomputable def g_f116 : q_YT q_A (q_Rf q_A) := [
  [q_f_ld 1 0 1, q_f_inv 1 [131, 1, 2, 11] 3, q_f_no, q_f_no, q_f_ld 1 0 1, q_f_ld 0 1 1, q_f_inv 1 [149, 2, 2, 11] 3, q_f_no, q_f_no, q_f_if 0 [34] 3, q_f_no, q_f_no, q_f_ld 1 0 1, q_f_getf [11, 57, 3] 3, q_f_no, q_f_no],
  [q_f_k (Int8.ofInt 24).toInt32 2, q_f_no, q_f_ald 100 0 1, q_f_ld 0 1 1, q_f_no, q_f_no, q_f_no, q_f_if 1 [34] 3, q_f_no, q_f_no, q_f_ld 1 0 1, q_f_ld 0 1 1, q_f_no, q_f_no, q_f_no, q_f_if 0 [36] 3],
  [q_f_no, q_f_no, q_f_k (Int32.ofInt (-1)) 1, q_f_iret [0], q_f_ld 1 0 1, q_f_no, q_f_no, q_f_no, q_f_ld 1 0 1, q_f_getf [11, 57, 3] 3, q_f_no, q_f_no, q_f_k (Int8.ofInt 24).toInt32 2, q_f_no, q_f_dup2 1, q_f_ald 100 0 1],
  [q_f_k (Int32.ofInt 1) 1, q_f_ld 0 1 1, q_f_b2 6 1, q_f_b2 4 1, q_f_ast 100 1, q_f_ld 1 0 1, q_f_inv 1 [131, 1, 2, 11] 3, q_f_no, q_f_no, q_f_ld 1 0 1, q_f_ld 0 1 1, q_f_no, q_f_no, q_f_no, q_f_iret [0]]]
set_option maxRecDepth 100000 in
theorem g_e116 : g_f116 = q_yt g_t116 := rfl
set_option maxRecDepth 100000 in
noncomputable def g_f117 : q_YT q_A (q_Rf q_A) := [
  [q_f_ld 0 1 1, q_f_inv 0 [143, 1, 1] 3, q_f_no, q_f_no, q_f_if 0 [16] 3, q_f_no, q_f_no, q_f_ld 1 0 1, q_f_getf [11, 83, 3] 3, q_f_no, q_f_no, q_f_ld 0 1 1, q_f_ald 101 0 1, q_f_if 1 [18] 3, q_f_no, q_f_no],
  [q_f_k (Int32.ofInt (-1)) 1, q_f_iret [0], q_f_k (Int32.ofInt 0) 1, q_f_st 0 2 1, q_f_ld 0 2 1, q_f_k (Int8.ofInt 28).toInt32 2, q_f_no, q_f_ic 3 [49] 3, q_f_no, q_f_no, q_f_ld 1 0 1, q_f_getf [11, 57, 3] 3, q_f_no, q_f_no, q_f_ld 0 2 1, q_f_ld 1 0 1],
  [q_f_getf [11, 84, 3] 3, q_f_no, q_f_no, q_f_k (Int8.ofInt 28).toInt32 2, q_f_no, q_f_ld 0 1 1, q_f_b2 2 1, q_f_ld 0 2 1, q_f_b2 0 1, q_f_ald 100 0 1, q_f_ast 100 1, q_f_iinc 2 1 3, q_f_no, q_f_no, q_f_goto 20, q_f_no],
  [q_f_no, q_f_ld 1 0 1, q_f_k (Int32.ofInt 0) 1, q_f_putf [11, 66, 0] 3, q_f_no, q_f_no, q_f_ld 1 0 1, q_f_k (Int32.ofInt 0) 1, q_f_putf [11, 67, 0] 3, q_f_no, q_f_no, q_f_ld 1 0 1, q_f_getf [11, 57, 3] 3, q_f_no, q_f_no, q_f_k (Int8.ofInt 26).toInt32 2],
  [q_f_no, q_f_ald 100 0 1, q_f_iret [0]]]
set_option maxRecDepth 100000 in
theorem g_e117 : g_f117 = q_yt g_t117 := rfl
set_option maxRecDepth 100000 in
noncomputable def g_f118 : q_YT q_A (q_Rf q_A) := [
  [q_f_k (Int32.ofInt 0) 1, q_f_st 0 2 1, q_f_k (Int32.ofInt 0) 1, q_f_st 0 3 1, q_f_ld 0 3 1, q_f_ld 1 0 1, q_f_getf [11, 48, 0] 3, q_f_no, q_f_no, q_f_ic 3 [39] 3, q_f_no, q_f_no, q_f_ld 1 0 1, q_f_ld 0 3 1, q_f_inv 1 [148, 2, 2, 11] 3, q_f_no],
  [q_f_no, q_f_if 1 [23] 3, q_f_no, q_f_no, q_f_goto 33, q_f_no, q_f_no, q_f_ld 1 0 1, q_f_getf [11, 69, 3] 3, q_f_no, q_f_no, q_f_ld 0 2 1, q_f_ld 0 3 1, q_f_ast 100 1, q_f_iinc 2 1 3, q_f_no],
  [q_f_no, q_f_iinc 3 1 3, q_f_no, q_f_no, q_f_goto 4, q_f_no, q_f_no, q_f_k (Int32.ofInt (-1)) 1, q_f_st 0 3 1, q_f_k (Int32.ofInt 1) 1, q_f_st 0 4 2, q_f_no, q_f_ld 0 4 2, q_f_no, q_f_if 0 [147] 3, q_f_no],
  [q_f_no, q_f_ld 1 0 1, q_f_inv 1 [131, 1, 2, 11] 3, q_f_no, q_f_no, q_f_k (Int32.ofInt 0) 1, q_f_st 0 5 2, q_f_no, q_f_ld 0 5 2, q_f_no, q_f_ld 0 2 1, q_f_ic 3 [82] 3, q_f_no, q_f_no, q_f_ld 1 0 1, q_f_getf [11, 58, 3] 3],
  [q_f_no, q_f_no, q_f_ld 0 5 2, q_f_no, q_f_ld 1 0 1, q_f_getf [11, 69, 3] 3, q_f_no, q_f_no, q_f_ld 0 5 2, q_f_no, q_f_ald 100 0 1, q_f_ast 100 1, q_f_iinc 5 1 3, q_f_no, q_f_no, q_f_goto 56],
  [q_f_no, q_f_no, q_f_ld 0 1 1, q_f_if 1 [93] 3, q_f_no, q_f_no, q_f_ld 1 0 1, q_f_inv 1 [122, 1, 1, 11] 3, q_f_no, q_f_no, q_f_goto 97, q_f_no, q_f_no, q_f_ld 1 0 1, q_f_inv 1 [164, 1, 3, 11] 3, q_f_no],
  [q_f_no, q_f_st 0 5 2, q_f_no, q_f_ld 0 5 2, q_f_no, q_f_ld 0 3 1, q_f_ic 5 [137] 3, q_f_no, q_f_no, q_f_ld 0 5 2, q_f_no, q_f_st 0 3 1, q_f_k (Int32.ofInt 0) 1, q_f_st 0 6 2, q_f_no, q_f_ld 0 6 2],
  [q_f_no, q_f_ld 0 2 1, q_f_ic 3 [137] 3, q_f_no, q_f_no, q_f_ld 1 0 1, q_f_getf [11, 68, 3] 3, q_f_no, q_f_no, q_f_ld 0 6 2, q_f_no, q_f_ld 1 0 1, q_f_getf [11, 69, 3] 3, q_f_no, q_f_no, q_f_ld 0 6 2],
  [q_f_no, q_f_ald 100 0 1, q_f_ast 100 1, q_f_iinc 6 1 3, q_f_no, q_f_no, q_f_goto 111, q_f_no, q_f_no, q_f_ld 1 0 1, q_f_ld 0 2 1, q_f_inv 1 [168, 2, 6, 11] 3, q_f_no, q_f_no, q_f_st 0 4 2, q_f_no],
  [q_f_goto 44, q_f_no, q_f_no, q_f_ld 1 0 1, q_f_ld 0 2 1, q_f_putf [11, 70, 0] 3, q_f_no, q_f_no, q_f_ld 0 3 1, q_f_iret [0]]]
set_option maxRecDepth 100000 in
theorem g_e118 : g_f118 = q_yt g_t118 := rfl
set_option maxRecDepth 100000 in
noncomputable def g_f119 : q_YT q_A (q_Rf q_A) := [
  [q_f_ld 1 0 1, q_f_ld 0 1 1, q_f_inv 1 [148, 2, 2, 11] 3, q_f_no, q_f_no, q_f_if 0 [17] 3, q_f_no, q_f_no, q_f_ld 0 2 1, q_f_k (Int32.ofInt 0) 1, q_f_k (Int32.ofInt 1) 1, q_f_inv 0 [146, 3, 3] 3, q_f_no, q_f_no, q_f_if 1 [21] 3, q_f_no],
  [q_f_no, q_f_k (Int16.ofInt (-1000)).toInt32 3, q_f_no, q_f_no, q_f_iret [0], q_f_ld 1 0 1, q_f_inv 1 [176, 1, 3, 11] 3, q_f_no, q_f_no, q_f_st 0 3 1, q_f_k (Int32.ofInt 0) 1, q_f_st 0 4 2, q_f_no, q_f_k (Int32.ofInt 0) 1, q_f_st 0 5 2, q_f_no],
  [q_f_ld 0 5 2, q_f_no, q_f_ld 0 3 1, q_f_ic 4 [116] 3, q_f_no, q_f_no, q_f_ld 0 5 2, q_f_no, q_f_ld 0 3 1, q_f_k (Int32.ofInt (-1)) 1, q_f_b2 5 1, q_f_b2 3 1, q_f_if 1 [110] 3, q_f_no, q_f_no, q_f_ld 0 5 2],
  [q_f_no, q_f_ld 0 1 1, q_f_no, q_f_no, q_f_no, q_f_if 0 [59] 3, q_f_no, q_f_no, q_f_goto 110, q_f_no, q_f_no, q_f_ld 0 5 2, q_f_no, q_f_inv 0 [165, 1, 3] 3, q_f_no, q_f_no],
  [q_f_no, q_f_no, q_f_no, q_f_ld 0 3 1, q_f_inv 0 [165, 1, 3] 3, q_f_no, q_f_no, q_f_k (Int32.ofInt 1) 1, q_f_b2 1 1, q_f_ld 0 5 2, q_f_no, q_f_inv 0 [165, 1, 3] 3, q_f_no, q_f_no, q_f_b2 1 1, q_f_no],
  [q_f_no, q_f_no, q_f_b2 2 1, q_f_st 0 6 2, q_f_no, q_f_ld 0 4 2, q_f_no, q_f_ld 0 6 2, q_f_no, q_f_ld 1 0 1, q_f_ld 0 5 2, q_f_no, q_f_k (Int32.ofInt 1) 1, q_f_ld 0 1 1, q_f_b2 6 1, q_f_b2 4 1],
  [q_f_no, q_f_no, q_f_no, q_f_ld 1 0 1, q_f_ld 0 5 2, q_f_no, q_f_no, q_f_no, q_f_no, q_f_b2 1 1, q_f_b2 2 1, q_f_b2 0 1, q_f_st 0 4 2, q_f_no, q_f_iinc 5 1 3, q_f_no],
  [q_f_no, q_f_goto 32, q_f_no, q_f_no, q_f_ld 0 3 1, q_f_inv 0 [165, 1, 3] 3, q_f_no, q_f_no, q_f_no, q_f_no, q_f_no, q_f_st 0 5 2, q_f_no, q_f_ld 0 5 2, q_f_no, q_f_ld 0 4 2],
  [q_f_no, q_f_inv 0 [125, 2, 5] 3, q_f_no, q_f_no, q_f_st 0 6 2, q_f_no, q_f_ld 0 2 1, q_f_if 1 [146] 3, q_f_no, q_f_no, q_f_ld 0 4 2, q_f_no, q_f_ld 0 6 2, q_f_no, q_f_b2 9 1, q_f_goto 151],
  [q_f_no, q_f_no, q_f_ld 0 5 2, q_f_no, q_f_ld 0 6 2, q_f_no, q_f_b2 9 1, q_f_iret [0]]]
set_option maxRecDepth 100000 in
theorem g_e119 : g_f119 = q_yt g_t119 := rfl
set_option maxRecDepth 100000 in
noncomputable def g_f120 : q_YT q_A (q_Rf q_A) := [
  [q_f_ld 1 0 1, q_f_ld 0 1 1, q_f_inv 1 [148, 2, 2, 11] 3, q_f_no, q_f_no, q_f_if 0 [21] 3, q_f_no, q_f_no, q_f_ld 1 0 1, q_f_ld 0 2 1, q_f_inv 1 [148, 2, 2, 11] 3, q_f_no, q_f_no, q_f_if 0 [21] 3, q_f_no, q_f_no],
  [q_f_ld 0 1 1, q_f_ld 0 2 1, q_f_ic 1 [23] 3, q_f_no, q_f_no, q_f_k (Int32.ofInt (-1)) 1, q_f_iret [0], q_f_ld 1 0 1, q_f_no, q_f_no, q_f_no, q_f_ld 1 0 1, q_f_ld 0 1 1, q_f_ld 0 2 1, q_f_no, q_f_no],
  [q_f_no, q_f_ld 1 0 1, q_f_inv 1 [151, 1, 2, 11] 3, q_f_no, q_f_no, q_f_ld 1 0 1, q_f_inv 1 [121, 1, 1, 11] 3, q_f_no, q_f_no, q_f_iret [0]]]
set_option maxRecDepth 100000 in
theorem g_e120 : g_f120 = q_yt g_t120 := rfl
set_option maxRecDepth 100000 in
noncomputable def g_f121 : q_YT q_A (q_Rf q_A) := [
  [q_f_ld 1 0 1, q_f_inv 1 [131, 1, 2, 11] 3, q_f_no, q_f_no, q_f_ld 1 0 1, q_f_inv 1 [122, 1, 1, 11] 3, q_f_no, q_f_no, q_f_iret [0]]]
set_option maxRecDepth 100000 in
theorem g_e121 : g_f121 = q_yt g_t121 := rfl
set_option maxRecDepth 100000 in
noncomputable def g_f122 : q_YT q_A (q_Rf q_A) := [
  [q_f_ld 1 0 1, q_f_inv 1 [136, 1, 1, 11] 3, q_f_no, q_f_no, q_f_ld 1 0 1, q_f_inv 1 [183, 1, 3, 11] 3, q_f_no, q_f_no, q_f_inv 0 [165, 1, 3] 3, q_f_no, q_f_no, q_f_iret [0]]]
set_option maxRecDepth 100000 in
theorem g_e122 : g_f122 = q_yt g_t122 := rfl
set_option maxRecDepth 100000 in
noncomputable def g_f123 : q_YT q_A (q_Rf q_A) := [
  [q_f_ld 1 0 1, q_f_k (Int32.ofInt 1) 1, q_f_inv 1 [118, 2, 7, 11] 3, q_f_no, q_f_no, q_f_iret [0]]]
set_option maxRecDepth 100000 in
theorem g_e123 : g_f123 = q_yt g_t123 := rfl
set_option maxRecDepth 100000 in
noncomputable def g_f124 : q_YT q_A (q_Rf q_A) := [
  [q_f_ld 1 0 1, q_f_ld 0 1 1, q_f_inv 1 [147, 2, 2, 11] 3, q_f_no, q_f_no, q_f_if 0 [21] 3, q_f_no, q_f_no, q_f_ld 1 0 1, q_f_ld 0 2 1, q_f_inv 1 [148, 2, 2, 11] 3, q_f_no, q_f_no, q_f_if 0 [21] 3, q_f_no, q_f_no],
  [q_f_ld 0 1 1, q_f_ld 0 2 1, q_f_ic 1 [23] 3, q_f_no, q_f_no, q_f_k (Int32.ofInt (-1)) 1, q_f_iret [0], q_f_ld 1 0 1, q_f_ld 0 1 1, q_f_no, q_f_no, q_f_no, q_f_st 0 3 1, q_f_ld 1 0 1, q_f_ld 0 1 1, q_f_ld 0 2 1],
  [q_f_no, q_f_no, q_f_no, q_f_st 0 4 2, q_f_no, q_f_ld 0 4 2, q_f_no, q_f_k (Int32.ofNat 1000000) 3, q_f_no, q_f_no, q_f_ic 1 [49] 3, q_f_no, q_f_no, q_f_k (Int32.ofInt 0) 1, q_f_goto 65, q_f_no],
  [q_f_no, q_f_ld 0 3 1, q_f_k (Int32.ofNat 1000000) 3, q_f_no, q_f_no, q_f_ic 1 [61] 3, q_f_no, q_f_no, q_f_k (Int8.ofInt 60).toInt32 2, q_f_no, q_f_goto 65, q_f_no, q_f_no, q_f_ld 0 3 1, q_f_ld 0 4 2, q_f_no],
  [q_f_b2 1 1, q_f_iret [0]]]
set_option maxRecDepth 100000 in
theorem g_e124 : g_f124 = q_yt g_t124 := rfl
set_option maxRecDepth 100000 in
noncomputable def g_f125 : q_YT q_A (q_Rf q_A) := [
  [q_f_ld 0 0 1, q_f_if 3 [9] 3, q_f_no, q_f_no, q_f_ld 0 0 1, q_f_b1 0 1, q_f_goto 10, q_f_no, q_f_no, q_f_ld 0 0 1, q_f_st 0 2 1, q_f_ld 0 1 1, q_f_if 3 [20] 3, q_f_no, q_f_no, q_f_ld 0 1 1],
  [q_f_b1 0 1, q_f_goto 21, q_f_no, q_f_no, q_f_ld 0 1 1, q_f_st 0 3 1, q_f_ld 0 3 1, q_f_if 5 [39] 3, q_f_no, q_f_no, q_f_ld 0 2 1, q_f_ld 0 3 1, q_f_b2 10 1, q_f_st 0 4 2, q_f_no, q_f_ld 0 3 1],
  [q_f_st 0 2 1, q_f_ld 0 4 2, q_f_no, q_f_st 0 3 1, q_f_goto 22, q_f_no, q_f_no, q_f_ld 0 2 1, q_f_iret [0]]]
set_option maxRecDepth 100000 in
theorem g_e125 : g_f125 = q_yt g_t125 := rfl
set_option maxRecDepth 100000 in
noncomputable def g_f126 : q_YT q_A (q_Rf q_A) := [
  [q_f_ld 1 0 1, q_f_inv 1 [136, 1, 1, 11] 3, q_f_no, q_f_no, q_f_ld 0 1 1, q_f_ld 1 0 1, q_f_inv 1 [183, 1, 3, 11] 3, q_f_no, q_f_no, q_f_k (Int32.ofInt (-1)) 1, q_f_b2 5 1, q_f_b2 3 1, q_f_if 1 [19] 3, q_f_no, q_f_no, q_f_k (Int32.ofInt 1) 1],
  [q_f_goto 20, q_f_no, q_f_no, q_f_k (Int32.ofInt 0) 1, q_f_iret [1]]]
set_option maxRecDepth 100000 in
theorem g_e126 : g_f126 = q_yt g_t126 := rfl
set_option maxRecDepth 100000 in
noncomputable def g_f127 : q_YT q_A (q_Rf q_A) := [
  [q_f_ld 1 0 1, q_f_inv 1 [131, 1, 2, 11] 3, q_f_no, q_f_no, q_f_ld 1 0 1, q_f_inv 1 [136, 1, 1, 11] 3, q_f_no, q_f_no, q_f_ld 1 0 1, q_f_getf [11, 62, 0] 3, q_f_no, q_f_no, q_f_iret [0]]]
set_option maxRecDepth 100000 in
theorem g_e127 : g_f127 = q_yt g_t127 := rfl
set_option maxRecDepth 100000 in
noncomputable def g_f128 : q_YT q_A (q_Rf q_A) := [
  [q_f_ld 0 1 1, q_f_if 2 [12] 3, q_f_no, q_f_no, q_f_ld 0 1 1, q_f_ld 1 0 1, q_f_getf [11, 1, 0] 3, q_f_no, q_f_no, q_f_ic 5 [14] 3, q_f_no, q_f_no, q_f_k (Int32.ofInt (-1)) 1, q_f_iret [0], q_f_ld 1 0 1, q_f_ld 0 1 1],
  [q_f_putf [11, 1, 0] 3, q_f_no, q_f_no, q_f_ld 0 1 1, q_f_iret [0]]]
set_option maxRecDepth 100000 in
theorem g_e128 : g_f128 = q_yt g_t128 := rfl
set_option maxRecDepth 100000 in
noncomputable def g_f129 : q_YT q_A (q_Rf q_A) := [
  [q_f_ld 0 1 1, q_f_if 1 [11] 3, q_f_no, q_f_no, q_f_ld 1 0 1, q_f_getf [11, 2, 0] 3, q_f_no, q_f_no, q_f_goto 24, q_f_no, q_f_no, q_f_ld 0 1 1, q_f_k (Int32.ofInt 1) 1, q_f_ic 1 [23] 3, q_f_no, q_f_no],
  [q_f_ld 1 0 1, q_f_getf [11, 3, 0] 3, q_f_no, q_f_no, q_f_goto 24, q_f_no, q_f_no, q_f_k (Int32.ofInt (-1)) 1, q_f_iret [0]]]
set_option maxRecDepth 100000 in
theorem g_e129 : g_f129 = q_yt g_t129 := rfl
set_option maxRecDepth 100000 in
noncomputable def g_f130 : q_YT q_A (q_Rf q_A) := [
  [q_f_ld 1 0 1, q_f_getf [11, 1, 0] 3, q_f_no, q_f_no, q_f_k (Int8.ofInt 20).toInt32 2, q_f_no, q_f_b2 0 1, q_f_k (Int16.ofInt 1600).toInt32 3, q_f_no, q_f_no, q_f_ic 5 [15] 3, q_f_no, q_f_no, q_f_k (Int32.ofInt (-1)) 1, q_f_iret [0], q_f_ld 1 0 1],
  [q_f_ld 0 1 1, q_f_inv 1 [134, 2, 3, 11] 3, q_f_no, q_f_no, q_f_ld 1 0 1, q_f_ld 0 2 1, q_f_inv 1 [134, 2, 3, 11] 3, q_f_no, q_f_no, q_f_ld 1 0 1, q_f_ld 0 3 1, q_f_inv 1 [134, 2, 3, 11] 3, q_f_no, q_f_no, q_f_ld 1 0 1, q_f_ld 0 4 2],
  [q_f_no, q_f_inv 1 [134, 2, 3, 11] 3, q_f_no, q_f_no, q_f_ld 1 0 1, q_f_ld 0 5 2, q_f_no, q_f_inv 1 [134, 2, 3, 11] 3, q_f_no, q_f_no, q_f_ld 1 0 1, q_f_getf [11, 1, 0] 3, q_f_no, q_f_no, q_f_iret [0]]]
set_option maxRecDepth 100000 in
theorem g_e130 : g_f130 = q_yt g_t130 := rfl
set_option maxRecDepth 100000 in
noncomputable def g_f131 : q_YT q_A (q_Rf q_A) := [
  [q_f_k (Int32.ofInt 0) 1, q_f_st 0 1 1, q_f_ld 0 1 1, q_f_k (Int8.ofInt 28).toInt32 2, q_f_no, q_f_ic 3 [26] 3, q_f_no, q_f_no, q_f_ld 1 0 1, q_f_getf [11, 58, 3] 3, q_f_no, q_f_no, q_f_ld 0 1 1, q_f_ld 1 0 1, q_f_getf [11, 57, 3] 3, q_f_no],
  [q_f_no, q_f_ld 0 1 1, q_f_ald 100 0 1, q_f_ast 100 1, q_f_iinc 1 1 3, q_f_no, q_f_no, q_f_goto 2, q_f_no, q_f_no, q_f_ld 1 0 1, q_f_inv 1 [113, 1, 2, 11] 3, q_f_no, q_f_no, q_f_ret]]
set_option maxRecDepth 100000 in
theorem g_e131 : g_f131 = q_yt g_t131 := rfl
set_option maxRecDepth 100000 in
noncomputable def g_f132 : q_YT q_A (q_Rf q_A) := [
  [q_f_ld 1 0 1, q_f_ld 0 1 1, q_f_inv 1 [155, 2, 6, 11] 3, q_f_no, q_f_no, q_f_iret [0]]]
set_option maxRecDepth 100000 in
theorem g_e132 : g_f132 = q_yt g_t132 := rfl
set_option maxRecDepth 100000 in
noncomputable def g_f133 : q_YT q_A (q_Rf q_A) := [
  [q_f_k (Int32.ofInt (-1)) 1, q_f_st 0 1 1, q_f_k (Int32.ofInt 0) 1, q_f_st 0 2 1, q_f_ld 0 2 1, q_f_ld 1 0 1, q_f_getf [11, 57, 3] 3, q_f_no, q_f_no, q_f_k (Int8.ofInt 8).toInt32 2, q_f_no, q_f_ald 100 0 1, q_f_ic 3 [52] 3, q_f_no, q_f_no, q_f_ld 0 1 1],
  [q_f_if 2 [39] 3, q_f_no, q_f_no, q_f_ld 1 0 1, q_f_getf [11, 40, 3] 3, q_f_no, q_f_no, q_f_ld 1 0 1, q_f_getf [11, 57, 3] 3, q_f_no, q_f_no, q_f_ld 0 2 1, q_f_ald 100 0 1, q_f_ald 100 0 1, q_f_ld 1 0 1, q_f_getf [11, 40, 3] 3],
  [q_f_no, q_f_no, q_f_ld 0 1 1, q_f_ald 100 0 1, q_f_ic 5 [46] 3, q_f_no, q_f_no, q_f_ld 1 0 1, q_f_getf [11, 57, 3] 3, q_f_no, q_f_no, q_f_ld 0 2 1, q_f_ald 100 0 1, q_f_st 0 1 1, q_f_iinc 2 1 3, q_f_no],
  [q_f_no, q_f_goto 4, q_f_no, q_f_no, q_f_ld 0 1 1, q_f_iret [0]]]
set_option maxRecDepth 100000 in
theorem g_e133 : g_f133 = q_yt g_t133 := rfl
set_option maxRecDepth 100000 in
noncomputable def g_f134 : q_YT q_A (q_Rf q_A) := [
  [q_f_k (Int8.ofInt 24).toInt32 2, q_f_no, q_f_st 0 2 1, q_f_ld 0 2 1, q_f_if 2 [39] 3, q_f_no, q_f_no, q_f_ld 1 0 1, q_f_getf [11, 0, 3] 3, q_f_no, q_f_no, q_f_ld 1 0 1, q_f_getf [11, 1, 0] 3, q_f_no, q_f_no, q_f_ld 0 1 1],
  [q_f_ld 0 2 1, q_f_b2 7 1, q_f_k (Int16.ofInt 255).toInt32 3, q_f_no, q_f_no, q_f_b2 3 1, q_f_ast 100 1, q_f_ld 1 0 1, q_f_dup 1, q_f_getf [11, 1, 0] 3, q_f_no, q_f_no, q_f_k (Int32.ofInt 1) 1, q_f_b2 0 1, q_f_putf [11, 1, 0] 3, q_f_no],
  [q_f_no, q_f_iinc 2 (-8) 3, q_f_no, q_f_no, q_f_goto 3, q_f_no, q_f_no, q_f_ret]]
set_option maxRecDepth 100000 in
theorem g_e134 : g_f134 = q_yt g_t134 := rfl
set_option maxRecDepth 100000 in
noncomputable def g_f135 : q_YT q_A (q_Rf q_A) := [
  [q_f_ld 1 0 1, q_f_ld 0 1 1, q_f_inv 1 [148, 2, 2, 11] 3, q_f_no, q_f_no, q_f_if 1 [10] 3, q_f_no, q_f_no, q_f_k (Int32.ofInt (-1)) 1, q_f_iret [0], q_f_ld 1 0 1, q_f_no, q_f_no, q_f_no, q_f_ld 1 0 1, q_f_ld 1 0 1],
  [q_f_ld 0 1 1, q_f_no, q_f_no, q_f_no, q_f_no, q_f_no, q_f_no, q_f_pop 1, q_f_ld 1 0 1, q_f_getf [11, 58, 3] 3, q_f_no, q_f_no, q_f_k (Int8.ofInt 9).toInt32 2, q_f_no, q_f_ld 0 1 1, q_f_b2 0 1],
  [q_f_k (Int32.ofInt 4) 1, q_f_ast 100 1, q_f_ld 1 0 1, q_f_inv 1 [151, 1, 2, 11] 3, q_f_no, q_f_no, q_f_ld 1 0 1, q_f_getf [11, 57, 3] 3, q_f_no, q_f_no, q_f_k (Int8.ofInt 8).toInt32 2, q_f_no, q_f_ald 100 0 1, q_f_iret [0]]]
set_option maxRecDepth 100000 in
theorem g_e135 : g_f135 = q_yt g_t135 := rfl
set_option maxRecDepth 100000 in
noncomputable def g_f136 : q_YT q_A (q_Rf q_A) := [
  [q_f_ld 1 0 1, q_f_inv 1 [144, 1, 3, 11] 3, q_f_no, q_f_no, q_f_if 1 [16] 3, q_f_no, q_f_no, q_f_ld 1 0 1, q_f_k (Int32.ofInt 0) 1, q_f_no, q_f_no, q_f_no, q_f_pop 1, q_f_goto 0, q_f_no, q_f_no],
  [q_f_ret]]
set_option maxRecDepth 100000 in
theorem g_e136 : g_f136 = q_yt g_t136 := rfl
set_option maxRecDepth 100000 in
noncomputable def g_f137 : q_YT q_A (q_Rf q_A) := [
  [q_f_ld 1 0 1, q_f_ld 0 1 1, q_f_inv 1 [148, 2, 2, 11] 3, q_f_no, q_f_no, q_f_if 0 [19] 3, q_f_no, q_f_no, q_f_ld 1 0 1, q_f_ld 0 1 1, q_f_no, q_f_no, q_f_no, q_f_k (Int32.ofNat 1000000) 3, q_f_no, q_f_no],
  [q_f_ic 3 [21] 3, q_f_no, q_f_no, q_f_k (Int32.ofInt (-1)) 1, q_f_iret [0], q_f_k (Int32.ofInt 0) 1, q_f_st 0 2 1, q_f_k (Int32.ofInt 0) 1, q_f_st 0 3 1, q_f_ld 0 3 1, q_f_ld 1 0 1, q_f_getf [11, 48, 0] 3, q_f_no, q_f_no, q_f_ic 3 [77] 3, q_f_no],
  [q_f_no, q_f_ld 0 2 1, q_f_ld 0 3 1, q_f_ld 0 1 1, q_f_ic 0 [63] 3, q_f_no, q_f_no, q_f_ld 1 0 1, q_f_ld 0 3 1, q_f_inv 1 [148, 2, 2, 11] 3, q_f_no, q_f_no, q_f_if 0 [63] 3, q_f_no, q_f_no, q_f_ld 1 0 1],
  [q_f_ld 0 1 1, q_f_ld 0 3 1, q_f_no, q_f_no, q_f_no, q_f_k (Int32.ofNat 1000000) 3, q_f_no, q_f_no, q_f_ic 3 [63] 3, q_f_no, q_f_no, q_f_k (Int32.ofInt 1) 1, q_f_goto 64, q_f_no, q_f_no, q_f_k (Int32.ofInt 0) 1],
  [q_f_inv 0 [197, 1, 1] 3, q_f_no, q_f_no, q_f_ld 0 3 1, q_f_b2 6 1, q_f_b2 4 1, q_f_st 0 2 1, q_f_iinc 3 1 3, q_f_no, q_f_no, q_f_goto 25, q_f_no, q_f_no, q_f_ld 0 2 1, q_f_iret [0]]]
set_option maxRecDepth 100000 in
theorem g_e137 : g_f137 = q_yt g_t137 := rfl
set_option maxRecDepth 100000 in
noncomputable def g_f138 : q_YT q_A (q_Rf q_A) := [
  [q_f_ld 1 0 1, q_f_getf [11, 4, 0] 3, q_f_no, q_f_no, q_f_ld 0 1 1, q_f_b2 0 1, q_f_ld 1 0 1, q_f_getf [11, 5, 0] 3, q_f_no, q_f_no, q_f_ic 3 [27] 3, q_f_no, q_f_no, q_f_ld 1 0 1, q_f_getf [11, 0, 3] 3, q_f_no],
  [q_f_no, q_f_ld 1 0 1, q_f_getf [11, 4, 0] 3, q_f_no, q_f_no, q_f_ld 0 1 1, q_f_b2 0 1, q_f_ald 100 0 1, q_f_goto 28, q_f_no, q_f_no, q_f_k (Int32.ofInt (-1)) 1, q_f_iret [0]]]
set_option maxRecDepth 100000 in
theorem g_e138 : g_f138 = q_yt g_t138 := rfl
set_option maxRecDepth 100000 in
noncomputable def g_f139 : q_YT q_A (q_Rf q_A) := [
  [q_f_ld 1 0 1, q_f_inv 1 [131, 1, 2, 11] 3, q_f_no, q_f_no, q_f_ld 1 0 1, q_f_ld 0 1 1, q_f_inv 1 [149, 2, 2, 11] 3, q_f_no, q_f_no, q_f_if 0 [20] 3, q_f_no, q_f_no, q_f_ld 1 0 1, q_f_ld 0 1 1, q_f_no, q_f_no],
  [q_f_no, q_f_if 0 [22] 3, q_f_no, q_f_no, q_f_k (Int32.ofInt (-1)) 1, q_f_iret [0], q_f_k (Int32.ofInt 0) 1, q_f_st 0 2 1, q_f_k (Int32.ofInt 0) 1, q_f_st 0 3 1, q_f_ld 0 3 1, q_f_ld 1 0 1, q_f_getf [11, 48, 0] 3, q_f_no, q_f_no, q_f_ic 3 [79] 3],
  [q_f_no, q_f_no, q_f_ld 0 2 1, q_f_ld 1 0 1, q_f_getf [11, 38, 3] 3, q_f_no, q_f_no, q_f_ld 0 3 1, q_f_ald 100 0 1, q_f_ld 0 1 1, q_f_ic 1 [65] 3, q_f_no, q_f_no, q_f_ld 1 0 1, q_f_inv 1 [176, 1, 3, 11] 3, q_f_no],
  [q_f_no, q_f_ld 1 0 1, q_f_inv 1 [178, 1, 3, 11] 3, q_f_no, q_f_no, q_f_b2 4 1, q_f_ld 0 3 1, q_f_no, q_f_no, q_f_no, q_f_if 0 [65] 3, q_f_no, q_f_no, q_f_k (Int32.ofInt 1) 1, q_f_goto 66, q_f_no],
  [q_f_no, q_f_k (Int32.ofInt 0) 1, q_f_inv 0 [197, 1, 1] 3, q_f_no, q_f_no, q_f_ld 0 3 1, q_f_b2 6 1, q_f_b2 4 1, q_f_st 0 2 1, q_f_iinc 3 1 3, q_f_no, q_f_no, q_f_goto 26, q_f_no, q_f_no, q_f_k (Int32.ofInt 0) 1],
  [q_f_st 0 3 1, q_f_ld 0 3 1, q_f_k (Int16.ofInt 240).toInt32 3, q_f_no, q_f_no, q_f_ic 4 [118] 3, q_f_no, q_f_no, q_f_ld 1 0 1, q_f_inv 1 [131, 1, 2, 11] 3, q_f_no, q_f_no, q_f_ld 1 0 1, q_f_ld 0 1 1, q_f_putf [11, 29, 0] 3, q_f_no],
  [q_f_no, q_f_ld 1 0 1, q_f_ld 0 3 1, q_f_putf [11, 30, 0] 3, q_f_no, q_f_no, q_f_ld 1 0 1, q_f_ld 0 2 1, q_f_inv 1 [126, 2, 2, 11] 3, q_f_no, q_f_no, q_f_if 0 [112] 3, q_f_no, q_f_no, q_f_ld 0 3 1, q_f_iret [0]],
  [q_f_iinc 3 1 3, q_f_no, q_f_no, q_f_goto 81, q_f_no, q_f_no, q_f_k (Int32.ofInt (-1)) 1, q_f_iret [0]]]
set_option maxRecDepth 100000 in
theorem g_e139 : g_f139 = q_yt g_t139 := rfl
set_option maxRecDepth 100000 in
noncomputable def g_f140 : q_YT q_A (q_Rf q_A) := [
  [q_f_k (Int32.ofInt 0) 1, q_f_st 0 2 1, q_f_k (Int32.ofInt 0) 1, q_f_st 0 3 1, q_f_ld 0 3 1, q_f_ld 1 0 1, q_f_getf [11, 48, 0] 3, q_f_no, q_f_no, q_f_ic 3 [44] 3, q_f_no, q_f_no, q_f_ld 0 2 1, q_f_ld 1 0 1, q_f_getf [11, 57, 3] 3, q_f_no],
  [q_f_no, q_f_k (Int8.ofInt 9).toInt32 2, q_f_no, q_f_ld 0 3 1, q_f_b2 0 1, q_f_ald 100 0 1, q_f_ld 0 1 1, q_f_ic 1 [30] 3, q_f_no, q_f_no, q_f_k (Int32.ofInt 1) 1, q_f_goto 31, q_f_no, q_f_no, q_f_k (Int32.ofInt 0) 1, q_f_inv 0 [197, 1, 1] 3],
  [q_f_no, q_f_no, q_f_ld 0 3 1, q_f_b2 6 1, q_f_b2 4 1, q_f_st 0 2 1, q_f_iinc 3 1 3, q_f_no, q_f_no, q_f_goto 4, q_f_no, q_f_no, q_f_ld 0 2 1, q_f_iret [0]]]
set_option maxRecDepth 100000 in
theorem g_e140 : g_f140 = q_yt g_t140 := rfl
set_option maxRecDepth 100000 in
noncomputable def g_f141 : q_YT q_A (q_Rf q_A) := [
  [q_f_ld 0 1 1, q_f_inv 0 [143, 1, 1] 3, q_f_no, q_f_no, q_f_if 1 [9] 3, q_f_no, q_f_no, q_f_k (Int32.ofInt (-1)) 1, q_f_iret [0], q_f_ld 1 0 1, q_f_getf [11, 83, 3] 3, q_f_no, q_f_no, q_f_ld 0 1 1, q_f_k (Int32.ofInt 1) 1, q_f_ast 101 1],
  [q_f_k (Int32.ofInt 0) 1, q_f_st 0 2 1, q_f_ld 0 2 1, q_f_k (Int8.ofInt 28).toInt32 2, q_f_no, q_f_ic 3 [47] 3, q_f_no, q_f_no, q_f_ld 1 0 1, q_f_getf [11, 84, 3] 3, q_f_no, q_f_no, q_f_k (Int8.ofInt 28).toInt32 2, q_f_no, q_f_ld 0 1 1, q_f_b2 2 1],
  [q_f_ld 0 2 1, q_f_b2 0 1, q_f_ld 1 0 1, q_f_getf [11, 57, 3] 3, q_f_no, q_f_no, q_f_ld 0 2 1, q_f_ald 100 0 1, q_f_ast 100 1, q_f_iinc 2 1 3, q_f_no, q_f_no, q_f_goto 18, q_f_no, q_f_no, q_f_ld 1 0 1],
  [q_f_getf [11, 57, 3] 3, q_f_no, q_f_no, q_f_k (Int8.ofInt 26).toInt32 2, q_f_no, q_f_ald 100 0 1, q_f_iret [0]]]
set_option maxRecDepth 100000 in
theorem g_e141 : g_f141 = q_yt g_t141 := rfl
set_option maxRecDepth 100000 in
noncomputable def g_f142 : q_YT q_A (q_Rf q_A) := [
  [q_f_ld 1 0 1, q_f_ld 0 1 1, q_f_inv 1 [148, 2, 2, 11] 3, q_f_no, q_f_no, q_f_if 0 [30] 3, q_f_no, q_f_no, q_f_ld 1 0 1, q_f_getf [11, 57, 3] 3, q_f_no, q_f_no, q_f_k (Int8.ofInt 17).toInt32 2, q_f_no, q_f_ald 100 0 1, q_f_ld 0 1 1],
  [q_f_no, q_f_no, q_f_no, q_f_if 0 [30] 3, q_f_no, q_f_no, q_f_ld 1 0 1, q_f_ld 0 1 1, q_f_no, q_f_no, q_f_no, q_f_goto 31, q_f_no, q_f_no, q_f_k (Int32.ofInt (-1)) 1, q_f_iret [0]]]
set_option maxRecDepth 100000 in
theorem g_e142 : g_f142 = q_yt g_t142 := rfl
set_option maxRecDepth 100000 in
noncomputable def g_f143 : q_YT q_A (q_Rf q_A) := [
  [q_f_ld 0 0 1, q_f_if 2 [13] 3, q_f_no, q_f_no, q_f_ld 0 0 1, q_f_k (Int32.ofInt 3) 1, q_f_ic 3 [13] 3, q_f_no, q_f_no, q_f_k (Int32.ofInt 1) 1, q_f_goto 14, q_f_no, q_f_no, q_f_k (Int32.ofInt 0) 1, q_f_iret [1]]]
set_option maxRecDepth 100000 in
theorem g_e143 : g_f143 = q_yt g_t143 := rfl
set_option maxRecDepth 100000 in
noncomputable def g_f144 : q_YT q_A (q_Rf q_A) := [
  [q_f_ld 1 0 1, q_f_inv 1 [175, 1, 1, 11] 3, q_f_no, q_f_no, q_f_if 1 [11] 3, q_f_no, q_f_no, q_f_k (Int32.ofInt 1) 1, q_f_goto 12, q_f_no, q_f_no, q_f_k (Int32.ofInt 0) 1, q_f_st 0 1 1, q_f_k (Int32.ofInt 0) 1, q_f_st 0 2 1, q_f_ld 0 2 1],
  [q_f_ld 1 0 1, q_f_getf [11, 28, 0] 3, q_f_no, q_f_no, q_f_ic 3 [47] 3, q_f_no, q_f_no, q_f_ld 0 1 1, q_f_if 0 [39] 3, q_f_no, q_f_no, q_f_ld 1 0 1, q_f_ld 0 2 1, q_f_inv 1 [145, 2, 2, 11] 3, q_f_no, q_f_no],
  [q_f_if 0 [39] 3, q_f_no, q_f_no, q_f_k (Int32.ofInt 1) 1, q_f_goto 40, q_f_no, q_f_no, q_f_k (Int32.ofInt 0) 1, q_f_st 0 1 1, q_f_iinc 2 1 3, q_f_no, q_f_no, q_f_goto 15, q_f_no, q_f_no, q_f_ld 0 1 1],
  [q_f_iret [1]]]
set_option maxRecDepth 100000 in
theorem g_e144 : g_f144 = q_yt g_t144 := rfl
set_option maxRecDepth 100000 in
noncomputable def g_f145 : q_YT q_A (q_Rf q_A) := [
  [q_f_ld 1 0 1, q_f_getf [11, 58, 3] 3, q_f_no, q_f_no, q_f_k (Int8.ofInt 18).toInt32 2, q_f_no, q_f_ld 0 1 1, q_f_b2 0 1, q_f_ald 100 0 1, q_f_if 3 [16] 3, q_f_no, q_f_no, q_f_k (Int32.ofInt 1) 1, q_f_goto 17, q_f_no, q_f_no],
  [q_f_k (Int32.ofInt 0) 1, q_f_iret [1]]]
set_option maxRecDepth 100000 in
theorem g_e145 : g_f145 = q_yt g_t145 := rfl
set_option maxRecDepth 100000 in
noncomputable def g_f146 : q_YT q_A (q_Rf q_A) := [
  [q_f_ld 0 0 1, q_f_ld 0 1 1, q_f_ic 2 [14] 3, q_f_no, q_f_no, q_f_ld 0 0 1, q_f_ld 0 2 1, q_f_ic 4 [14] 3, q_f_no, q_f_no, q_f_k (Int32.ofInt 1) 1, q_f_goto 15, q_f_no, q_f_no, q_f_k (Int32.ofInt 0) 1, q_f_iret [1]]]
set_option maxRecDepth 100000 in
theorem g_e146 : g_f146 = q_yt g_t146 := rfl
set_option maxRecDepth 100000 in
noncomputable def g_f147 : q_YT q_A (q_Rf q_A) := [
  [q_f_ld 0 1 1, q_f_k (Int32.ofInt 0) 1, q_f_ld 1 0 1, q_f_getf [11, 48, 0] 3, q_f_no, q_f_no, q_f_k (Int32.ofInt 1) 1, q_f_b2 1 1, q_f_inv 0 [146, 3, 3] 3, q_f_no, q_f_no, q_f_iret [1]]]
set_option maxRecDepth 100000 in
theorem g_e147 : g_f147 = q_yt g_t147 := rfl
set_option maxRecDepth 100000 in
noncomputable def g_f148 : q_YT q_A (q_Rf q_A) := [
  [q_f_ld 1 0 1, q_f_ld 0 1 1, q_f_inv 1 [147, 2, 2, 11] 3, q_f_no, q_f_no, q_f_if 0 [24] 3, q_f_no, q_f_no, q_f_ld 1 0 1, q_f_getf [11, 57, 3] 3, q_f_no, q_f_no, q_f_k (Int8.ofInt 9).toInt32 2, q_f_no, q_f_ld 0 1 1, q_f_b2 0 1],
  [q_f_ald 100 0 1, q_f_if 1 [24] 3, q_f_no, q_f_no, q_f_k (Int32.ofInt 1) 1, q_f_goto 25, q_f_no, q_f_no, q_f_k (Int32.ofInt 0) 1, q_f_iret [1]]]
set_option maxRecDepth 100000 in
theorem g_e148 : g_f148 = q_yt g_t148 := rfl
set_option maxRecDepth 100000 in
noncomputable def g_f149 : q_YT q_A (q_Rf q_A) := [
  [q_f_ld 0 1 1, q_f_k (Int32.ofInt 0) 1, q_f_ld 1 0 1, q_f_getf [11, 47, 0] 3, q_f_no, q_f_no, q_f_k (Int32.ofInt 1) 1, q_f_b2 1 1, q_f_inv 0 [146, 3, 3] 3, q_f_no, q_f_no, q_f_iret [1]]]
set_option maxRecDepth 100000 in
theorem g_e149 : g_f149 = q_yt g_t149 := rfl
set_option maxRecDepth 100000 in
noncomputable def g_f150 : q_YT q_A (q_Rf q_A) := [
  [q_f_ld 1 0 1, q_f_inv 1 [131, 1, 2, 11] 3, q_f_no, q_f_no, q_f_ld 1 0 1, q_f_ld 0 1 1, q_f_inv 1 [147, 2, 2, 11] 3, q_f_no, q_f_no, q_f_if 0 [51] 3, q_f_no, q_f_no, q_f_ld 1 0 1, q_f_getf [11, 57, 3] 3, q_f_no, q_f_no],
  [q_f_k (Int8.ofInt 9).toInt32 2, q_f_no, q_f_ld 0 1 1, q_f_b2 0 1, q_f_ald 100 0 1, q_f_k (Int32.ofInt 4) 1, q_f_ic 0 [38] 3, q_f_no, q_f_no, q_f_ld 1 0 1, q_f_getf [11, 57, 3] 3, q_f_no, q_f_no, q_f_k (Int8.ofInt 9).toInt32 2, q_f_no, q_f_ld 0 1 1],
  [q_f_b2 0 1, q_f_ald 100 0 1, q_f_k (Int32.ofInt 3) 1, q_f_ic 1 [51] 3, q_f_no, q_f_no, q_f_ld 1 0 1, q_f_ld 1 0 1, q_f_getf [11, 38, 3] 3, q_f_no, q_f_no, q_f_ld 0 1 1, q_f_ald 100 0 1, q_f_no, q_f_no, q_f_no],
  [q_f_if 0 [53] 3, q_f_no, q_f_no, q_f_k (Int32.ofInt (-1)) 1, q_f_iret [0], q_f_ld 1 0 1, q_f_no, q_f_no, q_f_no, q_f_ld 1 0 1, q_f_ld 0 1 1, q_f_no, q_f_no, q_f_no, q_f_ld 1 0 1, q_f_inv 1 [151, 1, 2, 11] 3],
  [q_f_no, q_f_no, q_f_ld 1 0 1, q_f_getf [11, 57, 3] 3, q_f_no, q_f_no, q_f_k (Int8.ofInt 8).toInt32 2, q_f_no, q_f_ald 100 0 1, q_f_k (Int32.ofInt 1) 1, q_f_b2 1 1, q_f_iret [0]]]
set_option maxRecDepth 100000 in
theorem g_e150 : g_f150 = q_yt g_t150 := rfl
set_option maxRecDepth 100000 in
noncomputable def g_f151 : q_YT q_A (q_Rf q_A) := [
  [q_f_k (Int32.ofInt 0) 1, q_f_st 0 1 1, q_f_ld 0 1 1, q_f_k (Int8.ofInt 28).toInt32 2, q_f_no, q_f_ic 3 [26] 3, q_f_no, q_f_no, q_f_ld 1 0 1, q_f_getf [11, 57, 3] 3, q_f_no, q_f_no, q_f_ld 0 1 1, q_f_ld 1 0 1, q_f_getf [11, 58, 3] 3, q_f_no],
  [q_f_no, q_f_ld 0 1 1, q_f_ald 100 0 1, q_f_ast 100 1, q_f_iinc 1 1 3, q_f_no, q_f_no, q_f_goto 2, q_f_no, q_f_no, q_f_ret]]
set_option maxRecDepth 100000 in
theorem g_e151 : g_f151 = q_yt g_t151 := rfl
set_option maxRecDepth 100000 in
noncomputable def g_f152 : q_YT q_A (q_Rf q_A) := [
  [q_f_ld 1 0 1, q_f_ld 0 1 1, q_f_inv 1 [149, 2, 2, 11] 3, q_f_no, q_f_no, q_f_if 0 [18] 3, q_f_no, q_f_no, q_f_ld 0 2 1, q_f_k (Int32.ofInt 1) 1, q_f_k (Int8.ofInt 30).toInt32 2, q_f_no, q_f_inv 0 [146, 3, 3] 3, q_f_no, q_f_no, q_f_if 1 [20] 3],
  [q_f_no, q_f_no, q_f_k (Int32.ofInt (-1)) 1, q_f_iret [0], q_f_ld 1 0 1, q_f_getf [11, 38, 3] 3, q_f_no, q_f_no, q_f_k (Int8.ofInt 7).toInt32 2, q_f_no, q_f_ld 0 1 1, q_f_ast 100 1, q_f_ld 1 0 1, q_f_getf [11, 39, 3] 3, q_f_no, q_f_no],
  [q_f_k (Int8.ofInt 7).toInt32 2, q_f_no, q_f_ld 0 2 1, q_f_ast 100 1, q_f_ld 1 0 1, q_f_getf [11, 40, 3] 3, q_f_no, q_f_no, q_f_k (Int8.ofInt 7).toInt32 2, q_f_no, q_f_k (Int32.ofInt 1) 1, q_f_ast 100 1, q_f_k (Int16.ofInt 240).toInt32 3, q_f_no, q_f_no, q_f_st 0 3 1],
  [q_f_ld 0 3 1, q_f_if 2 [117] 3, q_f_no, q_f_no, q_f_ld 1 0 1, q_f_inv 1 [131, 1, 2, 11] 3, q_f_no, q_f_no, q_f_k (Int32.ofInt 0) 1, q_f_st 0 4 2, q_f_no, q_f_ld 0 4 2, q_f_no, q_f_ld 0 3 1, q_f_ic 3 [77] 3, q_f_no],
  [q_f_no, q_f_ld 1 0 1, q_f_k (Int32.ofInt 0) 1, q_f_no, q_f_no, q_f_no, q_f_pop 1, q_f_iinc 4 1 3, q_f_no, q_f_no, q_f_goto 59, q_f_no, q_f_no, q_f_ld 1 0 1, q_f_ld 0 1 1, q_f_no],
  [q_f_no, q_f_no, q_f_if 0 [88] 3, q_f_no, q_f_no, q_f_goto 111, q_f_no, q_f_no, q_f_ld 1 0 1, q_f_k (Int8.ofInt 7).toInt32 2, q_f_no, q_f_no, q_f_no, q_f_no, q_f_ld 1 0 1, q_f_inv 1 [136, 1, 1, 11] 3],
  [q_f_no, q_f_no, q_f_ld 1 0 1, q_f_getf [11, 58, 3] 3, q_f_no, q_f_no, q_f_k (Int8.ofInt 16).toInt32 2, q_f_no, q_f_ald 100 0 1, q_f_k (Int32.ofInt 2) 1, q_f_ic 1 [111] 3, q_f_no, q_f_no, q_f_ld 0 3 1, q_f_iret [0], q_f_iinc 3 (-1) 3],
  [q_f_no, q_f_no, q_f_goto 48, q_f_no, q_f_no, q_f_k (Int32.ofInt (-1)) 1, q_f_iret [0]]]
set_option maxRecDepth 100000 in
theorem g_e152 : g_f152 = q_yt g_t152 := rfl
set_option maxRecDepth 100000 in
noncomputable def g_f153 : q_YT q_A (q_Rf q_A) := [
  [q_f_ld 0 1 1, q_f_if 2 [23] 3, q_f_no, q_f_no, q_f_ld 0 1 1, q_f_k (Int16.ofInt 1000).toInt32 3, q_f_no, q_f_no, q_f_ic 4 [23] 3, q_f_no, q_f_no, q_f_ld 1 0 1, q_f_getf [11, 79, 0] 3, q_f_no, q_f_no, q_f_ld 0 1 1],
  [q_f_b2 0 1, q_f_k (Int32.ofNat 100000) 3, q_f_no, q_f_no, q_f_ic 5 [25] 3, q_f_no, q_f_no, q_f_k (Int32.ofInt (-1)) 1, q_f_iret [0], q_f_ld 1 0 1, q_f_dup 1, q_f_getf [11, 79, 0] 3, q_f_no, q_f_no, q_f_ld 0 1 1, q_f_b2 0 1],
  [q_f_putf [11, 79, 0] 3, q_f_no, q_f_no, q_f_ld 1 0 1, q_f_getf [11, 79, 0] 3, q_f_no, q_f_no, q_f_iret [0]]]
set_option maxRecDepth 100000 in
theorem g_e153 : g_f153 = q_yt g_t153 := rfl
set_option maxRecDepth 100000 in
noncomputable def g_f154 : q_YT q_A (q_Rf q_A) := [
  [q_f_ld 0 1 1, q_f_k (Int32.ofInt 1) 1, q_f_k (Int8.ofInt 60).toInt32 2, q_f_no, q_f_inv 0 [146, 3, 3] 3, q_f_no, q_f_no, q_f_if 1 [12] 3, q_f_no, q_f_no, q_f_k (Int32.ofInt (-1)) 1, q_f_iret [0], q_f_ld 1 0 1, q_f_inv 1 [131, 1, 2, 11] 3, q_f_no, q_f_no],
  [q_f_ld 1 0 1, q_f_ld 0 1 1, q_f_putf [11, 27, 0] 3, q_f_no, q_f_no, q_f_ld 1 0 1, q_f_inv 1 [122, 1, 1, 11] 3, q_f_no, q_f_no, q_f_iret [0]]]
set_option maxRecDepth 100000 in
theorem g_e154 : g_f154 = q_yt g_t154 := rfl
set_option maxRecDepth 100000 in
noncomputable def g_f155 : q_YT q_A (q_Rf q_A) := [
  [q_f_ld 1 0 1, q_f_getf [11, 48, 0] 3, q_f_no, q_f_no, q_f_if 1 [9] 3, q_f_no, q_f_no, q_f_k (Int32.ofInt 0) 1, q_f_iret [0], q_f_k (Int32.ofInt 0) 1, q_f_st 0 2 1, q_f_ld 1 0 1, q_f_getf [11, 39, 3] 3, q_f_no, q_f_no, q_f_ld 1 0 1],
  [q_f_getf [11, 48, 0] 3, q_f_no, q_f_no, q_f_k (Int32.ofInt 1) 1, q_f_b2 1 1, q_f_ald 100 0 1, q_f_st 0 3 1, q_f_k (Int32.ofInt 1) 1, q_f_st 0 4 2, q_f_no, q_f_ld 0 4 2, q_f_no, q_f_k (Int8.ofInt 30).toInt32 2, q_f_no, q_f_ic 4 [134] 3, q_f_no],
  [q_f_no, q_f_ld 1 0 1, q_f_getf [11, 39, 3] 3, q_f_no, q_f_no, q_f_ld 1 0 1, q_f_getf [11, 48, 0] 3, q_f_no, q_f_no, q_f_k (Int32.ofInt 1) 1, q_f_b2 1 1, q_f_ld 0 4 2, q_f_no, q_f_ast 100 1, q_f_ld 1 0 1, q_f_inv 1 [156, 1, 2, 11] 3],
  [q_f_no, q_f_no, q_f_k (Int32.ofInt 0) 1, q_f_st 0 5 2, q_f_no, q_f_ld 0 5 2, q_f_no, q_f_k (Int8.ofInt 60).toInt32 2, q_f_no, q_f_ic 4 [101] 3, q_f_no, q_f_no, q_f_ld 1 0 1, q_f_getf [11, 80, 3] 3, q_f_no, q_f_no],
  [q_f_k (Int8.ofInt 61).toInt32 2, q_f_no, q_f_ld 0 4 2, q_f_no, q_f_b2 2 1, q_f_ld 0 5 2, q_f_no, q_f_b2 0 1, q_f_ld 1 0 1, q_f_getf [11, 48, 0] 3, q_f_no, q_f_no, q_f_ld 1 0 1, q_f_inv 1 [175, 1, 1, 11] 3, q_f_no, q_f_no],
  [q_f_b2 1 1, q_f_ast 100 1, q_f_ld 1 0 1, q_f_inv 1 [144, 1, 3, 11] 3, q_f_no, q_f_no, q_f_if 1 [95] 3, q_f_no, q_f_no, q_f_ld 1 0 1, q_f_k (Int32.ofInt 0) 1, q_f_no, q_f_no, q_f_no, q_f_pop 1, q_f_iinc 5 1 3],
  [q_f_no, q_f_no, q_f_goto 53, q_f_no, q_f_no, q_f_ld 1 0 1, q_f_getf [11, 82, 3] 3, q_f_no, q_f_no, q_f_ld 0 4 2, q_f_no, q_f_ld 1 0 1, q_f_ld 0 4 2, q_f_no, q_f_ld 0 1 1, q_f_no],
  [q_f_no, q_f_no, q_f_ast 101 1, q_f_ld 0 2 1, q_f_ld 1 0 1, q_f_getf [11, 82, 3] 3, q_f_no, q_f_no, q_f_ld 0 4 2, q_f_no, q_f_ald 101 0 1, q_f_inv 0 [197, 1, 1] 3, q_f_no, q_f_no, q_f_b2 0 1, q_f_st 0 2 1],
  [q_f_iinc 4 1 3, q_f_no, q_f_no, q_f_goto 26, q_f_no, q_f_no, q_f_ld 1 0 1, q_f_getf [11, 39, 3] 3, q_f_no, q_f_no, q_f_ld 1 0 1, q_f_getf [11, 48, 0] 3, q_f_no, q_f_no, q_f_k (Int32.ofInt 1) 1, q_f_b2 1 1],
  [q_f_ld 0 3 1, q_f_ast 100 1, q_f_ld 0 2 1, q_f_iret [0]]]
set_option maxRecDepth 100000 in
theorem g_e155 : g_f155 = q_yt g_t155 := rfl
set_option maxRecDepth 100000 in
noncomputable def g_f156 : q_YT q_A (q_Rf q_A) := [
  [q_f_k (Int32.ofInt 0) 1, q_f_st 0 1 1, q_f_ld 0 1 1, q_f_k (Int8.ofInt 28).toInt32 2, q_f_no, q_f_ic 3 [21] 3, q_f_no, q_f_no, q_f_ld 1 0 1, q_f_getf [11, 58, 3] 3, q_f_no, q_f_no, q_f_ld 0 1 1, q_f_k (Int32.ofInt 0) 1, q_f_ast 100 1, q_f_iinc 1 1 3],
  [q_f_no, q_f_no, q_f_goto 2, q_f_no, q_f_no, q_f_k (Int32.ofInt 0) 1, q_f_st 0 1 1, q_f_ld 0 1 1, q_f_ld 1 0 1, q_f_getf [11, 48, 0] 3, q_f_no, q_f_no, q_f_ic 3 [44] 3, q_f_no, q_f_no, q_f_ld 1 0 1],
  [q_f_getf [11, 58, 3] 3, q_f_no, q_f_no, q_f_ld 0 1 1, q_f_ld 0 1 1, q_f_ast 100 1, q_f_iinc 1 1 3, q_f_no, q_f_no, q_f_goto 23, q_f_no, q_f_no, q_f_k (Int32.ofInt 0) 1, q_f_st 0 1 1, q_f_ld 0 1 1, q_f_k (Int32.ofInt 3) 1],
  [q_f_ic 3 [67] 3, q_f_no, q_f_no, q_f_ld 1 0 1, q_f_getf [11, 58, 3] 3, q_f_no, q_f_no, q_f_k (Int8.ofInt 18).toInt32 2, q_f_no, q_f_ld 0 1 1, q_f_b2 0 1, q_f_k (Int32.ofInt (-1)) 1, q_f_ast 100 1, q_f_iinc 1 1 3, q_f_no, q_f_no],
  [q_f_goto 46, q_f_no, q_f_no, q_f_ld 1 0 1, q_f_getf [11, 58, 3] 3, q_f_no, q_f_no, q_f_k (Int8.ofInt 8).toInt32 2, q_f_no, q_f_ld 1 0 1, q_f_getf [11, 48, 0] 3, q_f_no, q_f_no, q_f_ast 100 1, q_f_ld 1 0 1, q_f_getf [11, 58, 3] 3],
  [q_f_no, q_f_no, q_f_k (Int8.ofInt 27).toInt32 2, q_f_no, q_f_ld 1 0 1, q_f_getf [11, 52, 0] 3, q_f_no, q_f_no, q_f_ast 100 1, q_f_ld 1 0 1, q_f_inv 1 [113, 1, 2, 11] 3, q_f_no, q_f_no, q_f_ret]]
set_option maxRecDepth 100000 in
theorem g_e156 : g_f156 = q_yt g_t156 := rfl
set_option maxRecDepth 100000 in
noncomputable def g_f157 : q_YT q_A (q_Rf q_A) := [
  [q_f_k (Int32.ofInt 0) 1, q_f_st 0 2 1, q_f_ld 0 2 1, q_f_ld 1 0 1, q_f_getf [11, 48, 0] 3, q_f_no, q_f_no, q_f_ic 3 [50] 3, q_f_no, q_f_no, q_f_ld 1 0 1, q_f_ld 0 2 1, q_f_inv 1 [148, 2, 2, 11] 3, q_f_no, q_f_no, q_f_if 0 [44] 3],
  [q_f_no, q_f_no, q_f_ld 0 1 1, q_f_ld 0 2 1, q_f_no, q_f_no, q_f_no, q_f_if 1 [44] 3, q_f_no, q_f_no, q_f_ld 1 0 1, q_f_getf [11, 58, 3] 3, q_f_no, q_f_no, q_f_k (Int8.ofInt 9).toInt32 2, q_f_no],
  [q_f_ld 1 0 1, q_f_ld 1 0 1, q_f_ld 0 2 1, q_f_no, q_f_no, q_f_no, q_f_no, q_f_no, q_f_no, q_f_b2 0 1, q_f_k (Int32.ofInt 4) 1, q_f_ast 100 1, q_f_iinc 2 1 3, q_f_no, q_f_no, q_f_goto 2],
  [q_f_no, q_f_no, q_f_ret]]
set_option maxRecDepth 100000 in
theorem g_e157 : g_f157 = q_yt g_t157 := rfl
set_option maxRecDepth 100000 in
noncomputable def g_f158 : q_YT q_A (q_Rf q_A) := [
  [q_f_ld 1 0 1, q_f_ld 0 1 1, q_f_inv 1 [148, 2, 2, 11] 3, q_f_no, q_f_no, q_f_if 0 [16] 3, q_f_no, q_f_no, q_f_ld 1 0 1, q_f_ld 0 1 1, q_f_no, q_f_no, q_f_no, q_f_goto 17, q_f_no, q_f_no],
  [q_f_k (Int32.ofInt (-1)) 1, q_f_iret [0]]]
set_option maxRecDepth 100000 in
theorem g_e158 : g_f158 = q_yt g_t158 := rfl
set_option maxRecDepth 100000 in
noncomputable def g_f159 : q_YT q_A (q_Rf q_A) := [
  [q_f_ld 0 0 1, q_f_ld 0 1 1, q_f_ic 3 [9] 3, q_f_no, q_f_no, q_f_ld 0 0 1, q_f_goto 10, q_f_no, q_f_no, q_f_ld 0 1 1, q_f_iret [0]]]
set_option maxRecDepth 100000 in
theorem g_e159 : g_f159 = q_yt g_t159 := rfl
set_option maxRecDepth 100000 in
noncomputable def g_f160 : q_YT q_A (q_Rf q_A) := [
  [q_f_ld 0 1 1, q_f_k (Int32.ofInt 0) 1, q_f_k (Int8.ofInt 60).toInt32 2, q_f_no, q_f_inv 0 [146, 3, 3] 3, q_f_no, q_f_no, q_f_if 0 [18] 3, q_f_no, q_f_no, q_f_ld 1 0 1, q_f_ld 0 1 1, q_f_inv 1 [182, 2, 3, 11] 3, q_f_no, q_f_no, q_f_goto 19],
  [q_f_no, q_f_no, q_f_k (Int32.ofInt (-1)) 1, q_f_iret [0]]]
set_option maxRecDepth 100000 in
theorem g_e160 : g_f160 = q_yt g_t160 := rfl
set_option maxRecDepth 100000 in
noncomputable def g_f161 : q_YT q_A (q_Rf q_A) := [
  [q_f_ld 0 1 1, q_f_k (Int32.ofInt 0) 1, q_f_ld 1 0 1, q_f_getf [11, 70, 0] 3, q_f_no, q_f_no, q_f_k (Int32.ofInt 1) 1, q_f_b2 1 1, q_f_inv 0 [146, 3, 3] 3, q_f_no, q_f_no, q_f_if 0 [23] 3, q_f_no, q_f_no, q_f_ld 1 0 1, q_f_getf [11, 68, 3] 3],
  [q_f_no, q_f_no, q_f_ld 0 1 1, q_f_ald 100 0 1, q_f_goto 25, q_f_no, q_f_no, q_f_k (Int8.ofInt (-2)).toInt32 2, q_f_no, q_f_iret [0]]]
set_option maxRecDepth 100000 in
theorem g_e161 : g_f161 = q_yt g_t161 := rfl
set_option maxRecDepth 100000 in
noncomputable def g_f162 : q_YT q_A (q_Rf q_A) := [
  [q_f_ld 1 0 1, q_f_inv 1 [131, 1, 2, 11] 3, q_f_no, q_f_no, q_f_ld 1 0 1, q_f_inv 1 [136, 1, 1, 11] 3, q_f_no, q_f_no, q_f_ld 1 0 1, q_f_getf [11, 58, 3] 3, q_f_no, q_f_no, q_f_k (Int8.ofInt 25).toInt32 2, q_f_no, q_f_ald 100 0 1, q_f_iret [0]]]
set_option maxRecDepth 100000 in
theorem g_e162 : g_f162 = q_yt g_t162 := rfl
set_option maxRecDepth 100000 in
noncomputable def g_f163 : q_YT q_A (q_Rf q_A) := [
  [q_f_ld 1 0 1, q_f_inv 1 [131, 1, 2, 11] 3, q_f_no, q_f_no, q_f_ld 1 0 1, q_f_inv 1 [164, 1, 3, 11] 3, q_f_no, q_f_no, q_f_iret [0]]]
set_option maxRecDepth 100000 in
theorem g_e163 : g_f163 = q_yt g_t163 := rfl
set_option maxRecDepth 100000 in
noncomputable def g_f164 : q_YT q_A (q_Rf q_A) := [
  [q_f_ld 1 0 1, q_f_inv 1 [136, 1, 1, 11] 3, q_f_no, q_f_no, q_f_k (Int32.ofInt 0) 1, q_f_st 0 1 1, q_f_k (Int32.ofInt 0) 1, q_f_st 0 2 1, q_f_ld 0 2 1, q_f_ld 1 0 1, q_f_getf [11, 48, 0] 3, q_f_no, q_f_no, q_f_ic 3 [48] 3, q_f_no, q_f_no],
  [q_f_ld 0 1 1, q_f_ld 1 0 1, q_f_getf [11, 58, 3] 3, q_f_no, q_f_no, q_f_k (Int8.ofInt 9).toInt32 2, q_f_no, q_f_ld 0 2 1, q_f_b2 0 1, q_f_ald 100 0 1, q_f_k (Int32.ofInt 2) 1, q_f_ic 1 [39] 3, q_f_no, q_f_no, q_f_ld 1 0 1, q_f_getf [11, 40, 3] 3],
  [q_f_no, q_f_no, q_f_ld 0 2 1, q_f_ald 100 0 1, q_f_goto 40, q_f_no, q_f_no, q_f_k (Int32.ofInt 0) 1, q_f_b2 0 1, q_f_st 0 1 1, q_f_iinc 2 1 3, q_f_no, q_f_no, q_f_goto 8, q_f_no, q_f_no],
  [q_f_ld 0 1 1, q_f_iret [0]]]
set_option maxRecDepth 100000 in
theorem g_e164 : g_f164 = q_yt g_t164 := rfl
set_option maxRecDepth 100000 in
noncomputable def g_f165 : q_YT q_A (q_Rf q_A) := [
  [q_f_k (Int32.ofInt 0) 1, q_f_st 0 1 1, q_f_k (Int32.ofInt 0) 1, q_f_st 0 2 1, q_f_ld 0 2 1, q_f_k (Int8.ofInt 7).toInt32 2, q_f_no, q_f_ic 4 [24] 3, q_f_no, q_f_no, q_f_ld 0 1 1, q_f_ld 0 0 1, q_f_ld 0 2 1, q_f_b2 7 1, q_f_k (Int32.ofInt 1) 1, q_f_b2 3 1],
  [q_f_b2 0 1, q_f_st 0 1 1, q_f_iinc 2 1 3, q_f_no, q_f_no, q_f_goto 4, q_f_no, q_f_no, q_f_ld 0 1 1, q_f_iret [0]]]
set_option maxRecDepth 100000 in
theorem g_e165 : g_f165 = q_yt g_t165 := rfl
set_option maxRecDepth 100000 in
noncomputable def g_f166 : q_YT q_A (q_Rf q_A) := [
  [q_f_ld 1 0 1, q_f_inv 1 [131, 1, 2, 11] 3, q_f_no, q_f_no, q_f_ld 1 0 1, q_f_inv 1 [144, 1, 3, 11] 3, q_f_no, q_f_no, q_f_if 1 [24] 3, q_f_no, q_f_no, q_f_ld 1 0 1, q_f_getf [11, 57, 3] 3, q_f_no, q_f_no, q_f_k (Int8.ofInt 26).toInt32 2],
  [q_f_no, q_f_ald 100 0 1, q_f_k (Int16.ofInt 999).toInt32 3, q_f_no, q_f_no, q_f_ic 1 [26] 3, q_f_no, q_f_no, q_f_k (Int32.ofInt (-1)) 1, q_f_iret [0], q_f_ld 1 0 1, q_f_no, q_f_no, q_f_no, q_f_ld 1 0 1, q_f_k (Int32.ofInt 1) 1],
  [q_f_no, q_f_no, q_f_no, q_f_st 0 1 1, q_f_ld 1 0 1, q_f_inv 1 [151, 1, 2, 11] 3, q_f_no, q_f_no, q_f_ld 0 1 1, q_f_iret [0]]]
set_option maxRecDepth 100000 in
theorem g_e166 : g_f166 = q_yt g_t166 := rfl
set_option maxRecDepth 100000 in
noncomputable def g_f167 : q_YT q_A (q_Rf q_A) := [
  [q_f_ld 1 0 1, q_f_inv 1 [131, 1, 2, 11] 3, q_f_no, q_f_no, q_f_ld 1 0 1, q_f_inv 1 [136, 1, 1, 11] 3, q_f_no, q_f_no, q_f_k (Int32.ofInt 0) 1, q_f_st 0 1 1, q_f_k (Int32.ofInt 0) 1, q_f_st 0 2 1, q_f_ld 0 2 1, q_f_ld 1 0 1, q_f_getf [11, 48, 0] 3, q_f_no],
  [q_f_no, q_f_ic 3 [52] 3, q_f_no, q_f_no, q_f_ld 0 1 1, q_f_ld 1 0 1, q_f_getf [11, 58, 3] 3, q_f_no, q_f_no, q_f_k (Int8.ofInt 9).toInt32 2, q_f_no, q_f_ld 0 2 1, q_f_b2 0 1, q_f_ald 100 0 1, q_f_k (Int32.ofInt 3) 1, q_f_ic 1 [38] 3],
  [q_f_no, q_f_no, q_f_k (Int32.ofInt 1) 1, q_f_goto 39, q_f_no, q_f_no, q_f_k (Int32.ofInt 0) 1, q_f_inv 0 [197, 1, 1] 3, q_f_no, q_f_no, q_f_ld 0 2 1, q_f_b2 6 1, q_f_b2 4 1, q_f_st 0 1 1, q_f_iinc 2 1 3, q_f_no],
  [q_f_no, q_f_goto 12, q_f_no, q_f_no, q_f_ld 0 1 1, q_f_iret [0]]]
set_option maxRecDepth 100000 in
theorem g_e167 : g_f167 = q_yt g_t167 := rfl
set_option maxRecDepth 100000 in
noncomputable def g_f168 : q_YT q_A (q_Rf q_A) := [
  [q_f_ld 0 1 1, q_f_k (Int32.ofInt 2) 1, q_f_b2 1 1, q_f_st 0 2 1, q_f_ld 0 2 1, q_f_if 2 [31] 3, q_f_no, q_f_no, q_f_ld 1 0 1, q_f_getf [11, 69, 3] 3, q_f_no, q_f_no, q_f_ld 0 2 1, q_f_ald 100 0 1, q_f_ld 1 0 1, q_f_getf [11, 69, 3] 3],
  [q_f_no, q_f_no, q_f_ld 0 2 1, q_f_k (Int32.ofInt 1) 1, q_f_b2 0 1, q_f_ald 100 0 1, q_f_ic 5 [31] 3, q_f_no, q_f_no, q_f_iinc 2 (-1) 3, q_f_no, q_f_no, q_f_goto 4, q_f_no, q_f_no, q_f_ld 0 2 1],
  [q_f_if 3 [37] 3, q_f_no, q_f_no, q_f_k (Int32.ofInt 0) 1, q_f_iret [1], q_f_ld 0 1 1, q_f_k (Int32.ofInt 1) 1, q_f_b2 1 1, q_f_st 0 3 1, q_f_ld 1 0 1, q_f_getf [11, 69, 3] 3, q_f_no, q_f_no, q_f_ld 0 3 1, q_f_ald 100 0 1, q_f_ld 1 0 1],
  [q_f_getf [11, 69, 3] 3, q_f_no, q_f_no, q_f_ld 0 2 1, q_f_ald 100 0 1, q_f_ic 3 [62] 3, q_f_no, q_f_no, q_f_iinc 3 (-1) 3, q_f_no, q_f_no, q_f_goto 41, q_f_no, q_f_no, q_f_ld 1 0 1, q_f_ld 0 2 1],
  [q_f_ld 0 3 1, q_f_no, q_f_no, q_f_no, q_f_ld 0 2 1, q_f_k (Int32.ofInt 1) 1, q_f_b2 0 1, q_f_st 0 4 2, q_f_no, q_f_ld 0 1 1, q_f_k (Int32.ofInt 1) 1, q_f_b2 1 1, q_f_st 0 5 2, q_f_no, q_f_ld 0 4 2, q_f_no],
  [q_f_ld 0 5 2, q_f_no, q_f_ic 3 [102] 3, q_f_no, q_f_no, q_f_ld 1 0 1, q_f_ld 0 4 2, q_f_no, q_f_ld 0 5 2, q_f_no, q_f_no, q_f_no, q_f_no, q_f_iinc 4 1 3, q_f_no, q_f_no],
  [q_f_iinc 5 (-1) 3, q_f_no, q_f_no, q_f_goto 78, q_f_no, q_f_no, q_f_k (Int32.ofInt 1) 1, q_f_iret [1]]]
set_option maxRecDepth 100000 in
theorem g_e168 : g_f168 = q_yt g_t168 := rfl
set_option maxRecDepth 100000 in
noncomputable def g_f169 : q_YT q_A (q_Rf q_A) := [
  [q_f_ld 0 1 1, q_f_k (Int32.ofInt 0) 1, q_f_k (Int32.ofInt 4) 1, q_f_inv 0 [146, 3, 3] 3, q_f_no, q_f_no, q_f_if 0 [18] 3, q_f_no, q_f_no, q_f_ld 0 2 1, q_f_k (Int32.ofInt 0) 1, q_f_k (Int32.ofInt 1) 1, q_f_inv 0 [146, 3, 3] 3, q_f_no, q_f_no, q_f_if 1 [20] 3],
  [q_f_no, q_f_no, q_f_k (Int32.ofInt (-1)) 1, q_f_iret [0], q_f_k (Int8.ofInt 100).toInt32 2, q_f_no, q_f_ld 1 0 1, q_f_getf [11, 51, 0] 3, q_f_no, q_f_no, q_f_b2 1 1, q_f_ld 0 1 1, q_f_inv 0 [172, 2, 4] 3, q_f_no, q_f_no, q_f_st 0 3 1],
  [q_f_k (Int8.ofInt 100).toInt32 2, q_f_no, q_f_ld 0 1 1, q_f_inv 0 [172, 2, 4] 3, q_f_no, q_f_no, q_f_st 0 4 2, q_f_no, q_f_ld 0 4 2, q_f_no, q_f_ld 0 3 1, q_f_inv 0 [125, 2, 5] 3, q_f_no, q_f_no, q_f_st 0 5 2, q_f_no],
  [q_f_ld 0 2 1, q_f_if 1 [59] 3, q_f_no, q_f_no, q_f_ld 0 3 1, q_f_ld 0 5 2, q_f_no, q_f_b2 9 1, q_f_goto 64, q_f_no, q_f_no, q_f_ld 0 4 2, q_f_no, q_f_ld 0 5 2, q_f_no, q_f_b2 9 1],
  [q_f_iret [0]]]
set_option maxRecDepth 100000 in
theorem g_e169 : g_f169 = q_yt g_t169 := rfl
set_option maxRecDepth 100000 in
noncomputable def g_f170 : q_YT q_A (q_Rf q_A) := [
  [q_f_ld 1 0 1, q_f_k (Int32.ofInt 0) 1, q_f_inv 1 [118, 2, 7, 11] 3, q_f_no, q_f_no, q_f_iret [0]]]
set_option maxRecDepth 100000 in
theorem g_e170 : g_f170 = q_yt g_t170 := rfl
set_option maxRecDepth 100000 in
noncomputable def g_f171 : q_YT q_A (q_Rf q_A) := [
  [q_f_ld 1 0 1, q_f_ld 0 1 1, q_f_inv 1 [147, 2, 2, 11] 3, q_f_no, q_f_no, q_f_if 1 [10] 3, q_f_no, q_f_no, q_f_k (Int32.ofInt (-1)) 1, q_f_iret [0], q_f_ld 1 0 1, q_f_inv 1 [131, 1, 2, 11] 3, q_f_no, q_f_no, q_f_ld 0 2 1, q_f_tsw 0 5 [104, 52, 59, 66, 73, 83, 89]],
  [q_f_no, q_f_no, q_f_no, q_f_no, q_f_no, q_f_no, q_f_no, q_f_no, q_f_no, q_f_no, q_f_no, q_f_no, q_f_no, q_f_no, q_f_no, q_f_no],
  [q_f_no, q_f_no, q_f_no, q_f_no, q_f_no, q_f_no, q_f_no, q_f_no, q_f_no, q_f_no, q_f_no, q_f_no, q_f_no, q_f_no, q_f_no, q_f_no],
  [q_f_no, q_f_no, q_f_no, q_f_no, q_f_ld 1 0 1, q_f_getf [11, 38, 3] 3, q_f_no, q_f_no, q_f_ld 0 1 1, q_f_ald 100 0 1, q_f_iret [0], q_f_ld 1 0 1, q_f_getf [11, 39, 3] 3, q_f_no, q_f_no, q_f_ld 0 1 1],
  [q_f_ald 100 0 1, q_f_iret [0], q_f_ld 1 0 1, q_f_getf [11, 40, 3] 3, q_f_no, q_f_no, q_f_ld 0 1 1, q_f_ald 100 0 1, q_f_iret [0], q_f_ld 1 0 1, q_f_getf [11, 57, 3] 3, q_f_no, q_f_no, q_f_k (Int8.ofInt 9).toInt32 2, q_f_no, q_f_ld 0 1 1],
  [q_f_b2 0 1, q_f_ald 100 0 1, q_f_iret [0], q_f_ld 1 0 1, q_f_ld 0 1 1, q_f_no, q_f_no, q_f_no, q_f_iret [0], q_f_ld 1 0 1, q_f_getf [11, 57, 3] 3, q_f_no, q_f_no, q_f_k (Int8.ofInt 17).toInt32 2, q_f_no, q_f_ald 100 0 1],
  [q_f_ld 0 1 1, q_f_no, q_f_no, q_f_no, q_f_inv 0 [197, 1, 1] 3, q_f_no, q_f_no, q_f_iret [0], q_f_k (Int32.ofInt (-1)) 1, q_f_iret [0]]]
set_option maxRecDepth 100000 in
theorem g_e171 : g_f171 = q_yt g_t171 := rfl
set_option maxRecDepth 100000 in
noncomputable def g_f172 : q_YT q_A (q_Rf q_A) := [
  [q_f_k (Int32.ofInt 1) 1, q_f_st 0 2 1, q_f_k (Int32.ofInt 0) 1, q_f_st 0 3 1, q_f_ld 0 3 1, q_f_ld 0 1 1, q_f_ic 3 [19] 3, q_f_no, q_f_no, q_f_ld 0 2 1, q_f_ld 0 0 1, q_f_b2 2 1, q_f_st 0 2 1, q_f_iinc 3 1 3, q_f_no, q_f_no],
  [q_f_goto 4, q_f_no, q_f_no, q_f_ld 0 2 1, q_f_iret [0]]]
set_option maxRecDepth 100000 in
theorem g_e172 : g_f172 = q_yt g_t172 := rfl
set_option maxRecDepth 100000 in
noncomputable def g_f173 : q_YT q_A (q_Rf q_A) := [
  [q_f_ld 1 0 1, q_f_inv 1 [179, 1, 1, 11] 3, q_f_no, q_f_no, q_f_ld 1 0 1, q_f_getf [11, 2, 0] 3, q_f_no, q_f_no, q_f_if 5 [13] 3, q_f_no, q_f_no, q_f_k (Int32.ofInt (-1)) 1, q_f_iret [0], q_f_ld 1 0 1, q_f_ld 1 0 1, q_f_getf [11, 41, 0] 3],
  [q_f_no, q_f_no, q_f_putf [11, 47, 0] 3, q_f_no, q_f_no, q_f_ld 1 0 1, q_f_ld 1 0 1, q_f_getf [11, 42, 0] 3, q_f_no, q_f_no, q_f_putf [11, 48, 0] 3, q_f_no, q_f_no, q_f_ld 1 0 1, q_f_ld 1 0 1, q_f_getf [11, 43, 0] 3],
  [q_f_no, q_f_no, q_f_putf [11, 49, 0] 3, q_f_no, q_f_no, q_f_ld 1 0 1, q_f_ld 1 0 1, q_f_getf [11, 44, 0] 3, q_f_no, q_f_no, q_f_putf [11, 50, 0] 3, q_f_no, q_f_no, q_f_ld 1 0 1, q_f_ld 1 0 1, q_f_getf [11, 45, 0] 3],
  [q_f_no, q_f_no, q_f_putf [11, 51, 0] 3, q_f_no, q_f_no, q_f_ld 1 0 1, q_f_ld 1 0 1, q_f_getf [11, 46, 0] 3, q_f_no, q_f_no, q_f_putf [11, 52, 0] 3, q_f_no, q_f_no, q_f_ld 1 0 1, q_f_ld 1 0 1, q_f_getf [11, 20, 0] 3],
  [q_f_no, q_f_no, q_f_putf [11, 21, 0] 3, q_f_no, q_f_no, q_f_ld 1 0 1, q_f_ld 1 0 1, q_f_getf [11, 24, 1] 3, q_f_no, q_f_no, q_f_putf [11, 25, 1] 3, q_f_no, q_f_no, q_f_ld 1 0 1, q_f_ld 1 0 1, q_f_getf [11, 24, 1] 3],
  [q_f_no, q_f_no, q_f_if 0 [92] 3, q_f_no, q_f_no, q_f_ld 1 0 1, q_f_getf [11, 17, 0] 3, q_f_no, q_f_no, q_f_goto 93, q_f_no, q_f_no, q_f_k (Int32.ofInt 0) 1, q_f_putf [11, 18, 0] 3, q_f_no, q_f_no],
  [q_f_k (Int32.ofInt 0) 1, q_f_st 0 1 1, q_f_ld 0 1 1, q_f_ld 1 0 1, q_f_getf [11, 18, 0] 3, q_f_no, q_f_no, q_f_ic 3 [136] 3, q_f_no, q_f_no, q_f_ld 1 0 1, q_f_getf [11, 13, 3] 3, q_f_no, q_f_no, q_f_ld 0 1 1, q_f_ld 1 0 1],
  [q_f_getf [11, 11, 3] 3, q_f_no, q_f_no, q_f_ld 0 1 1, q_f_ald 100 0 1, q_f_ast 100 1, q_f_ld 1 0 1, q_f_getf [11, 14, 3] 3, q_f_no, q_f_no, q_f_ld 0 1 1, q_f_ld 1 0 1, q_f_getf [11, 12, 3] 3, q_f_no, q_f_no, q_f_ld 0 1 1],
  [q_f_ald 100 0 1, q_f_ast 100 1, q_f_iinc 1 1 3, q_f_no, q_f_no, q_f_goto 98, q_f_no, q_f_no, q_f_k (Int32.ofInt 0) 1, q_f_st 0 1 1, q_f_ld 0 1 1, q_f_ld 1 0 1, q_f_getf [11, 47, 0] 3, q_f_no, q_f_no, q_f_ic 3 [176] 3],
  [q_f_no, q_f_no, q_f_ld 1 0 1, q_f_getf [11, 36, 3] 3, q_f_no, q_f_no, q_f_ld 0 1 1, q_f_ld 1 0 1, q_f_getf [11, 31, 3] 3, q_f_no, q_f_no, q_f_ld 0 1 1, q_f_ald 100 0 1, q_f_ast 100 1, q_f_ld 1 0 1, q_f_getf [11, 37, 3] 3],
  [q_f_no, q_f_no, q_f_ld 0 1 1, q_f_ld 1 0 1, q_f_getf [11, 32, 3] 3, q_f_no, q_f_no, q_f_ld 0 1 1, q_f_ald 100 0 1, q_f_ast 100 1, q_f_iinc 1 1 3, q_f_no, q_f_no, q_f_goto 138, q_f_no, q_f_no],
  [q_f_k (Int32.ofInt 0) 1, q_f_st 0 1 1, q_f_ld 0 1 1, q_f_ld 1 0 1, q_f_getf [11, 48, 0] 3, q_f_no, q_f_no, q_f_ic 3 [228] 3, q_f_no, q_f_no, q_f_ld 1 0 1, q_f_getf [11, 38, 3] 3, q_f_no, q_f_no, q_f_ld 0 1 1, q_f_ld 1 0 1],
  [q_f_getf [11, 33, 3] 3, q_f_no, q_f_no, q_f_ld 0 1 1, q_f_ald 100 0 1, q_f_ast 100 1, q_f_ld 1 0 1, q_f_getf [11, 39, 3] 3, q_f_no, q_f_no, q_f_ld 0 1 1, q_f_ld 1 0 1, q_f_getf [11, 34, 3] 3, q_f_no, q_f_no, q_f_ld 0 1 1],
  [q_f_ald 100 0 1, q_f_ast 100 1, q_f_ld 1 0 1, q_f_getf [11, 40, 3] 3, q_f_no, q_f_no, q_f_ld 0 1 1, q_f_ld 1 0 1, q_f_getf [11, 35, 3] 3, q_f_no, q_f_no, q_f_ld 0 1 1, q_f_ald 100 0 1, q_f_ast 100 1, q_f_iinc 1 1 3, q_f_no],
  [q_f_no, q_f_goto 178, q_f_no, q_f_no, q_f_ld 1 0 1, q_f_inv 1 [156, 1, 2, 11] 3, q_f_no, q_f_no, q_f_ld 1 0 1, q_f_inv 1 [151, 1, 2, 11] 3, q_f_no, q_f_no, q_f_ld 1 0 1, q_f_k (Int32.ofInt 0) 1, q_f_putf [11, 66, 0] 3, q_f_no],
  [q_f_no, q_f_ld 1 0 1, q_f_k (Int32.ofInt 0) 1, q_f_putf [11, 67, 0] 3, q_f_no, q_f_no, q_f_ld 1 0 1, q_f_k (Int32.ofInt 0) 1, q_f_putf [11, 78, 0] 3, q_f_no, q_f_no, q_f_ld 1 0 1, q_f_k (Int32.ofInt 0) 1, q_f_putf [11, 70, 0] 3, q_f_no, q_f_no],
  [q_f_k (Int32.ofInt 0) 1, q_f_st 0 1 1, q_f_ld 0 1 1, q_f_k (Int32.ofInt 3) 1, q_f_ic 3 [276] 3, q_f_no, q_f_no, q_f_ld 1 0 1, q_f_getf [11, 83, 3] 3, q_f_no, q_f_no, q_f_ld 0 1 1, q_f_k (Int32.ofInt 0) 1, q_f_ast 101 1, q_f_iinc 1 1 3, q_f_no],
  [q_f_no, q_f_goto 258, q_f_no, q_f_no, q_f_ld 1 0 1, q_f_getf [11, 48, 0] 3, q_f_no, q_f_no, q_f_iret [0]]]
set_option maxRecDepth 100000 in
theorem g_e173 : g_f173 = q_yt g_t173 := rfl
set_option maxRecDepth 100000 in
noncomputable def g_f174 : q_YT q_A (q_Rf q_A) := [
  [q_f_ld 0 1 1, q_f_k (Int32.ofInt 0) 1, q_f_ld 1 0 1, q_f_getf [11, 57, 3] 3, q_f_no, q_f_no, q_f_k (Int8.ofInt 8).toInt32 2, q_f_no, q_f_ald 100 0 1, q_f_k (Int32.ofInt 1) 1, q_f_b2 1 1, q_f_inv 0 [146, 3, 3] 3, q_f_no, q_f_no, q_f_if 0 [26] 3, q_f_no],
  [q_f_no, q_f_ld 1 0 1, q_f_getf [11, 57, 3] 3, q_f_no, q_f_no, q_f_ld 0 1 1, q_f_ald 100 0 1, q_f_goto 27, q_f_no, q_f_no, q_f_k (Int32.ofInt (-1)) 1, q_f_iret [0]]]
set_option maxRecDepth 100000 in
theorem g_e174 : g_f174 = q_yt g_t174 := rfl
set_option maxRecDepth 100000 in
noncomputable def g_f175 : q_YT q_A (q_Rf q_A) := [
  [q_f_ld 1 0 1, q_f_getf [11, 58, 3] 3, q_f_no, q_f_no, q_f_k (Int8.ofInt 8).toInt32 2, q_f_no, q_f_ald 100 0 1, q_f_iret [0]]]
set_option maxRecDepth 100000 in
theorem g_e175 : g_f175 = q_yt g_t175 := rfl
set_option maxRecDepth 100000 in
noncomputable def g_f176 : q_YT q_A (q_Rf q_A) := [
  [q_f_k (Int32.ofInt 0) 1, q_f_st 0 1 1, q_f_k (Int32.ofInt 0) 1, q_f_st 0 2 1, q_f_ld 0 2 1, q_f_ld 1 0 1, q_f_getf [11, 48, 0] 3, q_f_no, q_f_no, q_f_ic 3 [31] 3, q_f_no, q_f_no, q_f_ld 0 1 1, q_f_ld 1 0 1, q_f_ld 0 2 1, q_f_inv 1 [148, 2, 2, 11] 3],
  [q_f_no, q_f_no, q_f_inv 0 [197, 1, 1] 3, q_f_no, q_f_no, q_f_ld 0 2 1, q_f_b2 6 1, q_f_b2 4 1, q_f_st 0 1 1, q_f_iinc 2 1 3, q_f_no, q_f_no, q_f_goto 4, q_f_no, q_f_no, q_f_ld 0 1 1],
  [q_f_iret [0]]]
set_option maxRecDepth 100000 in
theorem g_e176 : g_f176 = q_yt g_t176 := rfl
set_option maxRecDepth 100000 in
noncomputable def g_f177 : q_YT q_A (q_Rf q_A) := [
  [q_f_ld 0 1 1, q_f_k (Int32.ofInt 0) 1, q_f_ld 1 0 1, q_f_getf [11, 50, 0] 3, q_f_no, q_f_no, q_f_k (Int32.ofInt 1) 1, q_f_b2 1 1, q_f_inv 0 [146, 3, 3] 3, q_f_no, q_f_no, q_f_if 1 [18] 3, q_f_no, q_f_no, q_f_k (Int32.ofInt (-1)) 1, q_f_goto 52],
  [q_f_no, q_f_no, q_f_ld 0 2 1, q_f_if 1 [34] 3, q_f_no, q_f_no, q_f_ld 1 0 1, q_f_getf [11, 57, 3] 3, q_f_no, q_f_no, q_f_k (Int8.ofInt 18).toInt32 2, q_f_no, q_f_ld 0 1 1, q_f_b2 0 1, q_f_ald 100 0 1, q_f_goto 52],
  [q_f_no, q_f_no, q_f_ld 0 2 1, q_f_k (Int32.ofInt 1) 1, q_f_ic 1 [51] 3, q_f_no, q_f_no, q_f_ld 1 0 1, q_f_getf [11, 57, 3] 3, q_f_no, q_f_no, q_f_k (Int8.ofInt 21).toInt32 2, q_f_no, q_f_ld 0 1 1, q_f_b2 0 1, q_f_ald 100 0 1],
  [q_f_goto 52, q_f_no, q_f_no, q_f_k (Int32.ofInt (-1)) 1, q_f_iret [0]]]
set_option maxRecDepth 100000 in
theorem g_e177 : g_f177 = q_yt g_t177 := rfl
set_option maxRecDepth 100000 in
noncomputable def g_f178 : q_YT q_A (q_Rf q_A) := [
  [q_f_k (Int32.ofInt 0) 1, q_f_st 0 1 1, q_f_k (Int32.ofInt 0) 1, q_f_st 0 2 1, q_f_ld 0 2 1, q_f_ld 1 0 1, q_f_getf [11, 48, 0] 3, q_f_no, q_f_no, q_f_ic 3 [44] 3, q_f_no, q_f_no, q_f_ld 0 1 1, q_f_ld 1 0 1, q_f_getf [11, 57, 3] 3, q_f_no],
  [q_f_no, q_f_k (Int8.ofInt 9).toInt32 2, q_f_no, q_f_ld 0 2 1, q_f_b2 0 1, q_f_ald 100 0 1, q_f_k (Int32.ofInt 1) 1, q_f_ic 1 [30] 3, q_f_no, q_f_no, q_f_k (Int32.ofInt 1) 1, q_f_goto 31, q_f_no, q_f_no, q_f_k (Int32.ofInt 0) 1, q_f_inv 0 [197, 1, 1] 3],
  [q_f_no, q_f_no, q_f_ld 0 2 1, q_f_b2 6 1, q_f_b2 4 1, q_f_st 0 1 1, q_f_iinc 2 1 3, q_f_no, q_f_no, q_f_goto 4, q_f_no, q_f_no, q_f_ld 0 1 1, q_f_iret [0]]]
set_option maxRecDepth 100000 in
theorem g_e178 : g_f178 = q_yt g_t178 := rfl
set_option maxRecDepth 100000 in
noncomputable def g_f179 : q_YT q_A (q_Rf q_A) := [
  [q_f_ld 1 0 1, q_f_ld 1 0 1, q_f_getf [11, 1, 0] 3, q_f_no, q_f_no, q_f_putf [11, 5, 0] 3, q_f_no, q_f_no, q_f_ld 1 0 1, q_f_k (Int32.ofInt 0) 1, q_f_putf [11, 1, 0] 3, q_f_no, q_f_no, q_f_ld 1 0 1, q_f_k (Int32.ofInt 0) 1, q_f_putf [11, 4, 0] 3],
  [q_f_no, q_f_no, q_f_ld 1 0 1, q_f_k (Int32.ofInt 0) 1, q_f_putf [11, 2, 0] 3, q_f_no, q_f_no, q_f_ld 1 0 1, q_f_k (Int32.ofInt (-1)) 1, q_f_putf [11, 3, 0] 3, q_f_no, q_f_no, q_f_ld 1 0 1, q_f_k (Int32.ofInt 0) 1, q_f_putf [11, 41, 0] 3, q_f_no],
  [q_f_no, q_f_ld 1 0 1, q_f_k (Int32.ofInt 0) 1, q_f_putf [11, 42, 0] 3, q_f_no, q_f_no, q_f_ld 1 0 1, q_f_k (Int8.ofInt 11).toInt32 2, q_f_no, q_f_putf [11, 43, 0] 3, q_f_no, q_f_no, q_f_ld 1 0 1, q_f_k (Int32.ofInt 1) 1, q_f_putf [11, 44, 0] 3, q_f_no],
  [q_f_no, q_f_ld 1 0 1, q_f_k (Int32.ofInt 0) 1, q_f_putf [11, 45, 0] 3, q_f_no, q_f_no, q_f_ld 1 0 1, q_f_k (Int32.ofInt 0) 1, q_f_putf [11, 46, 0] 3, q_f_no, q_f_no, q_f_ld 1 0 1, q_f_k (Int32.ofInt 0) 1, q_f_putf [11, 53, 1] 3, q_f_no, q_f_no],
  [q_f_ld 1 0 1, q_f_k (Int32.ofInt 0) 1, q_f_putf [11, 54, 1] 3, q_f_no, q_f_no, q_f_ld 1 0 1, q_f_k (Int32.ofInt 0) 1, q_f_putf [11, 55, 1] 3, q_f_no, q_f_no, q_f_ld 1 0 1, q_f_k (Int32.ofInt 0) 1, q_f_putf [11, 56, 1] 3, q_f_no, q_f_no, q_f_ld 1 0 1],
  [q_f_k (Int32.ofInt 0) 1, q_f_putf [11, 24, 1] 3, q_f_no, q_f_no, q_f_ld 1 0 1, q_f_k (Int32.ofInt 0) 1, q_f_putf [11, 20, 0] 3, q_f_no, q_f_no, q_f_ld 1 0 1, q_f_inv 1 [195, 1, 3, 11] 3, q_f_no, q_f_no, q_f_ld 1 0 1, q_f_getf [11, 2, 0] 3, q_f_no],
  [q_f_no, q_f_if 1 [114] 3, q_f_no, q_f_no, q_f_ld 1 0 1, q_f_getf [11, 6, 0] 3, q_f_no, q_f_no, q_f_if 0 [114] 3, q_f_no, q_f_no, q_f_ld 1 0 1, q_f_no, q_f_no, q_f_no, q_f_goto 93],
  [q_f_no, q_f_no, q_f_ret]]
set_option maxRecDepth 100000 in
theorem g_e179 : g_f179 = q_yt g_t179 := rfl
set_option maxRecDepth 100000 in
noncomputable def g_f180 : q_YT q_A (q_Rf q_A) := [
  [q_f_ld 1 0 1, q_f_getf [11, 67, 0] 3, q_f_no, q_f_no, q_f_if 1 [9] 3, q_f_no, q_f_no, q_f_k (Int32.ofInt 0) 1, q_f_iret [1], q_f_ld 1 0 1, q_f_k (Int8.ofInt 28).toInt32 2, q_f_no, q_f_ld 1 0 1, q_f_getf [11, 66, 0] 3, q_f_no, q_f_no],
  [q_f_b2 2 1, q_f_no, q_f_no, q_f_no, q_f_ld 1 0 1, q_f_dup 1, q_f_getf [11, 66, 0] 3, q_f_no, q_f_no, q_f_k (Int32.ofInt 1) 1, q_f_b2 0 1, q_f_putf [11, 66, 0] 3, q_f_no, q_f_no, q_f_ld 1 0 1, q_f_dup 1],
  [q_f_getf [11, 67, 0] 3, q_f_no, q_f_no, q_f_k (Int32.ofInt 1) 1, q_f_b2 1 1, q_f_putf [11, 67, 0] 3, q_f_no, q_f_no, q_f_k (Int32.ofInt 1) 1, q_f_iret [1]]]
set_option maxRecDepth 100000 in
theorem g_e180 : g_f180 = q_yt g_t180 := rfl
set_option maxRecDepth 100000 in
noncomputable def g_f181 : q_YT q_A (q_Rf q_A) := [
  [q_f_ld 1 0 1, q_f_k (Int32.ofInt 0) 1, q_f_inv 1 [182, 2, 3, 11] 3, q_f_no, q_f_no, q_f_st 0 1 1, q_f_k (Int32.ofInt 0) 1, q_f_st 0 2 1, q_f_k (Int32.ofInt 1) 1, q_f_st 0 3 1, q_f_ld 0 3 1, q_f_k (Int8.ofInt 60).toInt32 2, q_f_no, q_f_ic 4 [40] 3, q_f_no, q_f_no],
  [q_f_ld 0 1 1, q_f_ld 1 0 1, q_f_ld 0 3 1, q_f_inv 1 [182, 2, 3, 11] 3, q_f_no, q_f_no, q_f_k (Int32.ofInt (-1)) 1, q_f_b2 5 1, q_f_b2 3 1, q_f_if 1 [32] 3, q_f_no, q_f_no, q_f_ld 0 3 1, q_f_goto 33, q_f_no, q_f_no],
  [q_f_ld 0 2 1, q_f_st 0 2 1, q_f_iinc 3 1 3, q_f_no, q_f_no, q_f_goto 10, q_f_no, q_f_no, q_f_ld 0 2 1, q_f_iret [0]]]
set_option maxRecDepth 100000 in
theorem g_e181 : g_f181 = q_yt g_t181 := rfl
set_option maxRecDepth 100000 in
noncomputable def g_f182 : q_YT q_A (q_Rf q_A) := [
  [q_f_ld 1 0 1, q_f_inv 1 [131, 1, 2, 11] 3, q_f_no, q_f_no, q_f_ld 1 0 1, q_f_ld 0 1 1, q_f_putf [11, 59, 0] 3, q_f_no, q_f_no, q_f_k (Int32.ofInt 0) 1, q_f_st 0 2 1, q_f_ld 0 2 1, q_f_ld 1 0 1, q_f_getf [11, 50, 0] 3, q_f_no, q_f_no],
  [q_f_ic 3 [63] 3, q_f_no, q_f_no, q_f_ld 1 0 1, q_f_getf [11, 60, 3] 3, q_f_no, q_f_no, q_f_ld 0 2 1, q_f_ld 1 0 1, q_f_ld 0 2 1, q_f_inv 1 [145, 2, 2, 11] 3, q_f_no, q_f_no, q_f_if 0 [36] 3, q_f_no, q_f_no],
  [q_f_ld 0 1 1, q_f_goto 37, q_f_no, q_f_no, q_f_k (Int32.ofInt 0) 1, q_f_ast 100 1, q_f_ld 1 0 1, q_f_getf [11, 61, 3] 3, q_f_no, q_f_no, q_f_ld 0 2 1, q_f_ld 1 0 1, q_f_ld 0 2 1, q_f_inv 1 [145, 2, 2, 11] 3, q_f_no, q_f_no],
  [q_f_if 1 [55] 3, q_f_no, q_f_no, q_f_k (Int32.ofInt 1) 1, q_f_goto 56, q_f_no, q_f_no, q_f_k (Int32.ofInt 0) 1, q_f_ast 101 1, q_f_iinc 2 1 3, q_f_no, q_f_no, q_f_goto 11, q_f_no, q_f_no, q_f_ld 1 0 1],
  [q_f_inv 1 [136, 1, 1, 11] 3, q_f_no, q_f_no, q_f_ld 1 0 1, q_f_inv 1 [183, 1, 3, 11] 3, q_f_no, q_f_no, q_f_iret [0]]]
set_option maxRecDepth 100000 in
theorem g_e182 : g_f182 = q_yt g_t182 := rfl
set_option maxRecDepth 100000 in
noncomputable def g_f183 : q_YT q_A (q_Rf q_A) := [
  [q_f_k (Int32.ofInt 0) 1, q_f_st 0 1 1, q_f_k (Int32.ofInt 0) 1, q_f_st 0 2 1, q_f_ld 0 2 1, q_f_k (Int8.ofInt 7).toInt32 2, q_f_no, q_f_ic 4 [42] 3, q_f_no, q_f_no, q_f_ld 0 1 1, q_f_ld 1 0 1, q_f_getf [11, 58, 3] 3, q_f_no, q_f_no, q_f_k (Int8.ofInt 9).toInt32 2],
  [q_f_no, q_f_ld 0 2 1, q_f_b2 0 1, q_f_ald 100 0 1, q_f_k (Int32.ofInt 2) 1, q_f_ic 1 [28] 3, q_f_no, q_f_no, q_f_k (Int32.ofInt 1) 1, q_f_goto 29, q_f_no, q_f_no, q_f_k (Int32.ofInt 0) 1, q_f_inv 0 [197, 1, 1] 3, q_f_no, q_f_no],
  [q_f_ld 0 2 1, q_f_b2 6 1, q_f_b2 4 1, q_f_st 0 1 1, q_f_iinc 2 1 3, q_f_no, q_f_no, q_f_goto 4, q_f_no, q_f_no, q_f_ld 0 1 1, q_f_iret [0]]]
set_option maxRecDepth 100000 in
theorem g_e183 : g_f183 = q_yt g_t183 := rfl
set_option maxRecDepth 100000 in
noncomputable def g_f184 : q_YT q_A (q_Rf q_A) := [
  [q_f_ld 1 0 1, q_f_ld 0 1 1, q_f_inv 1 [147, 2, 2, 11] 3, q_f_no, q_f_no, q_f_if 1 [10] 3, q_f_no, q_f_no, q_f_k (Int32.ofInt (-1)) 1, q_f_iret [0], q_f_ld 1 0 1, q_f_inv 1 [131, 1, 2, 11] 3, q_f_no, q_f_no, q_f_ld 1 0 1, q_f_inv 1 [136, 1, 1, 11] 3],
  [q_f_no, q_f_no, q_f_ld 1 0 1, q_f_ld 0 1 1, q_f_no, q_f_no, q_f_no, q_f_no, q_f_no, q_f_no, q_f_iret [0]]]
set_option maxRecDepth 100000 in
theorem g_e184 : g_f184 = q_yt g_t184 := rfl
set_option maxRecDepth 100000 in
noncomputable def g_f185 : q_YT q_A (q_Rf q_A) := [
  [q_f_ld 1 0 1, q_f_inv 1 [131, 1, 2, 11] 3, q_f_no, q_f_no, q_f_ld 1 0 1, q_f_k (Int32.ofInt 3) 1, q_f_ld 1 0 1, q_f_getf [11, 50, 0] 3, q_f_no, q_f_no, q_f_k (Int32.ofInt 1) 1, q_f_b2 0 1, q_f_inv 0 [159, 2, 2] 3, q_f_no, q_f_no, q_f_putf [11, 28, 0] 3],
  [q_f_no, q_f_no, q_f_ld 1 0 1, q_f_inv 1 [122, 1, 1, 11] 3, q_f_no, q_f_no, q_f_iret [0]]]
set_option maxRecDepth 100000 in
theorem g_e185 : g_f185 = q_yt g_t185 := rfl
set_option maxRecDepth 100000 in
noncomputable def g_f186 : q_YT q_A (q_Rf q_A) := [
  [q_f_ld 0 1 1, q_f_k (Int32.ofInt 0) 1, q_f_k (Int8.ofInt 60).toInt32 2, q_f_no, q_f_inv 0 [146, 3, 3] 3, q_f_no, q_f_no, q_f_if 0 [36] 3, q_f_no, q_f_no, q_f_ld 0 2 1, q_f_k (Int32.ofInt 0) 1, q_f_k (Int8.ofInt 7).toInt32 2, q_f_no, q_f_inv 0 [146, 3, 3] 3, q_f_no],
  [q_f_no, q_f_if 0 [36] 3, q_f_no, q_f_no, q_f_ld 1 0 1, q_f_getf [11, 48, 0] 3, q_f_no, q_f_no, q_f_if 0 [36] 3, q_f_no, q_f_no, q_f_ld 1 0 1, q_f_getf [11, 78, 0] 3, q_f_no, q_f_no, q_f_k (Int8.ofInt 30).toInt32 2],
  [q_f_no, q_f_ic 1 [38] 3, q_f_no, q_f_no, q_f_k (Int32.ofInt (-1)) 1, q_f_iret [0], q_f_ld 1 0 1, q_f_getf [11, 73, 3] 3, q_f_no, q_f_no, q_f_ld 1 0 1, q_f_getf [11, 78, 0] 3, q_f_no, q_f_no, q_f_ld 0 1 1, q_f_ast 100 1],
  [q_f_ld 1 0 1, q_f_getf [11, 74, 3] 3, q_f_no, q_f_no, q_f_ld 1 0 1, q_f_getf [11, 78, 0] 3, q_f_no, q_f_no, q_f_ld 0 2 1, q_f_ast 100 1, q_f_ld 1 0 1, q_f_getf [11, 77, 3] 3, q_f_no, q_f_no, q_f_ld 1 0 1, q_f_getf [11, 78, 0] 3],
  [q_f_no, q_f_no, q_f_ld 0 3 1, q_f_ast 101 1, q_f_ld 1 0 1, q_f_getf [11, 75, 3] 3, q_f_no, q_f_no, q_f_ld 1 0 1, q_f_getf [11, 78, 0] 3, q_f_no, q_f_no, q_f_ld 1 0 1, q_f_getf [11, 79, 0] 3, q_f_no, q_f_no],
  [q_f_ast 100 1, q_f_ld 1 0 1, q_f_getf [11, 76, 3] 3, q_f_no, q_f_no, q_f_ld 1 0 1, q_f_getf [11, 78, 0] 3, q_f_no, q_f_no, q_f_k (Int32.ofInt (-1)) 1, q_f_ast 100 1, q_f_ld 1 0 1, q_f_dup 1, q_f_getf [11, 78, 0] 3, q_f_no, q_f_no],
  [q_f_k (Int32.ofInt 1) 1, q_f_b2 0 1, q_f_putf [11, 78, 0] 3, q_f_no, q_f_no, q_f_ld 1 0 1, q_f_getf [11, 78, 0] 3, q_f_no, q_f_no, q_f_k (Int32.ofInt 1) 1, q_f_b2 1 1, q_f_iret [0]]]
set_option maxRecDepth 100000 in
theorem g_e186 : g_f186 = q_yt g_t186 := rfl
set_option maxRecDepth 100000 in
noncomputable def g_f187 : q_YT q_A (q_Rf q_A) := [
  [q_f_ld 1 0 1, q_f_ld 0 1 1, q_f_inv 1 [149, 2, 2, 11] 3, q_f_no, q_f_no, q_f_if 1 [10] 3, q_f_no, q_f_no, q_f_k (Int32.ofInt (-1)) 1, q_f_iret [0], q_f_ld 1 0 1, q_f_inv 1 [131, 1, 2, 11] 3, q_f_no, q_f_no, q_f_k (Int32.ofInt 0) 1, q_f_st 0 3 1],
  [q_f_k (Int32.ofInt 0) 1, q_f_st 0 4 2, q_f_no, q_f_ld 0 4 2, q_f_no, q_f_ld 1 0 1, q_f_getf [11, 48, 0] 3, q_f_no, q_f_no, q_f_ic 3 [59] 3, q_f_no, q_f_no, q_f_ld 0 3 1, q_f_ld 1 0 1, q_f_getf [11, 38, 3] 3, q_f_no],
  [q_f_no, q_f_ld 0 4 2, q_f_no, q_f_ald 100 0 1, q_f_ld 0 1 1, q_f_ic 1 [44] 3, q_f_no, q_f_no, q_f_k (Int32.ofInt 1) 1, q_f_goto 45, q_f_no, q_f_no, q_f_k (Int32.ofInt 0) 1, q_f_inv 0 [197, 1, 1] 3, q_f_no, q_f_no],
  [q_f_ld 0 4 2, q_f_no, q_f_b2 6 1, q_f_b2 4 1, q_f_st 0 3 1, q_f_iinc 4 1 3, q_f_no, q_f_no, q_f_goto 19, q_f_no, q_f_no, q_f_ld 0 2 1, q_f_tsw 0 4 [135, 96, 102, 109, 124, 133], q_f_no, q_f_no, q_f_no],
  [q_f_no, q_f_no, q_f_no, q_f_no, q_f_no, q_f_no, q_f_no, q_f_no, q_f_no, q_f_no, q_f_no, q_f_no, q_f_no, q_f_no, q_f_no, q_f_no],
  [q_f_no, q_f_no, q_f_no, q_f_no, q_f_no, q_f_no, q_f_no, q_f_no, q_f_no, q_f_no, q_f_no, q_f_no, q_f_no, q_f_no, q_f_no, q_f_no],
  [q_f_ld 1 0 1, q_f_ld 0 1 1, q_f_no, q_f_no, q_f_no, q_f_iret [0], q_f_ld 1 0 1, q_f_getf [11, 37, 3] 3, q_f_no, q_f_no, q_f_ld 0 1 1, q_f_ald 100 0 1, q_f_iret [0], q_f_ld 1 0 1, q_f_getf [11, 57, 3] 3, q_f_no],
  [q_f_no, q_f_k (Int8.ofInt 24).toInt32 2, q_f_no, q_f_ald 100 0 1, q_f_ld 0 1 1, q_f_no, q_f_no, q_f_no, q_f_inv 0 [197, 1, 1] 3, q_f_no, q_f_no, q_f_iret [0], q_f_ld 1 0 1, q_f_ld 0 1 1, q_f_no, q_f_no],
  [q_f_no, q_f_inv 0 [197, 1, 1] 3, q_f_no, q_f_no, q_f_iret [0], q_f_ld 0 3 1, q_f_iret [0], q_f_k (Int32.ofInt (-1)) 1, q_f_iret [0]]]
set_option maxRecDepth 100000 in
theorem g_e187 : g_f187 = q_yt g_t187 := rfl
set_option maxRecDepth 100000 in
noncomputable def g_f188 : q_YT q_A (q_Rf q_A) := [
  [q_f_ld 1 0 1, q_f_ld 0 1 1, q_f_inv 1 [148, 2, 2, 11] 3, q_f_no, q_f_no, q_f_if 0 [30] 3, q_f_no, q_f_no, q_f_ld 1 0 1, q_f_getf [11, 57, 3] 3, q_f_no, q_f_no, q_f_k (Int8.ofInt 17).toInt32 2, q_f_no, q_f_ald 100 0 1, q_f_ld 0 1 1],
  [q_f_no, q_f_no, q_f_no, q_f_if 1 [30] 3, q_f_no, q_f_no, q_f_ld 1 0 1, q_f_ld 0 1 1, q_f_no, q_f_no, q_f_no, q_f_goto 31, q_f_no, q_f_no, q_f_k (Int32.ofInt (-1)) 1, q_f_iret [0]]]
set_option maxRecDepth 100000 in
theorem g_e188 : g_f188 = q_yt g_t188 := rfl
set_option maxRecDepth 100000 in
noncomputable def g_f189 : q_YT q_A (q_Rf q_A) := [
  [q_f_ld 0 1 1, q_f_k (Int32.ofInt 0) 1, q_f_k (Int32.ofInt 1) 1, q_f_inv 0 [146, 3, 3] 3, q_f_no, q_f_no, q_f_if 1 [11] 3, q_f_no, q_f_no, q_f_k (Int32.ofInt (-1)) 1, q_f_iret [0], q_f_ld 1 0 1, q_f_inv 1 [176, 1, 3, 11] 3, q_f_no, q_f_no, q_f_ld 1 0 1],
  [q_f_getf [11, 57, 3] 3, q_f_no, q_f_no, q_f_k (Int8.ofInt 17).toInt32 2, q_f_no, q_f_ald 100 0 1, q_f_k (Int32.ofInt (-1)) 1, q_f_b2 5 1, q_f_b2 3 1, q_f_st 0 2 1, q_f_k (Int32.ofInt (-1)) 1, q_f_st 0 3 1, q_f_k (Int32.ofInt 0) 1, q_f_st 0 4 2, q_f_no, q_f_ld 0 4 2],
  [q_f_no, q_f_ld 0 2 1, q_f_ic 4 [106] 3, q_f_no, q_f_no, q_f_ld 0 4 2, q_f_no, q_f_ld 0 2 1, q_f_k (Int32.ofInt (-1)) 1, q_f_b2 5 1, q_f_b2 3 1, q_f_if 1 [100] 3, q_f_no, q_f_no, q_f_ld 0 3 1, q_f_if 2 [65] 3],
  [q_f_no, q_f_no, q_f_ld 0 4 2, q_f_no, q_f_inv 0 [165, 1, 3] 3, q_f_no, q_f_no, q_f_ld 0 3 1, q_f_inv 0 [165, 1, 3] 3, q_f_no, q_f_no, q_f_ic 2 [65] 3, q_f_no, q_f_no, q_f_goto 100, q_f_no],
  [q_f_no, q_f_ld 1 0 1, q_f_inv 1 [131, 1, 2, 11] 3, q_f_no, q_f_no, q_f_ld 1 0 1, q_f_getf [11, 58, 3] 3, q_f_no, q_f_no, q_f_k (Int8.ofInt 17).toInt32 2, q_f_no, q_f_dup2 1, q_f_ald 100 0 1, q_f_ld 0 4 2, q_f_no, q_f_b2 4 1],
  [q_f_ast 100 1, q_f_ld 1 0 1, q_f_ld 1 0 1, q_f_inv 1 [176, 1, 3, 11] 3, q_f_no, q_f_no, q_f_ld 1 0 1, q_f_inv 1 [178, 1, 3, 11] 3, q_f_no, q_f_no, q_f_b2 4 1, q_f_inv 1 [126, 2, 2, 11] 3, q_f_no, q_f_no, q_f_if 0 [100] 3, q_f_no],
  [q_f_no, q_f_ld 0 4 2, q_f_no, q_f_st 0 3 1, q_f_iinc 4 1 3, q_f_no, q_f_no, q_f_goto 31, q_f_no, q_f_no, q_f_ld 0 3 1, q_f_if 3 [114] 3, q_f_no, q_f_no, q_f_k (Int32.ofInt (-1)) 1, q_f_goto 126],
  [q_f_no, q_f_no, q_f_ld 0 1 1, q_f_if 1 [125] 3, q_f_no, q_f_no, q_f_ld 0 3 1, q_f_inv 0 [165, 1, 3] 3, q_f_no, q_f_no, q_f_goto 126, q_f_no, q_f_no, q_f_ld 0 3 1, q_f_iret [0]]]
set_option maxRecDepth 100000 in
theorem g_e189 : g_f189 = q_yt g_t189 := rfl
set_option maxRecDepth 100000 in
noncomputable def g_f190 : q_YT q_A (q_Rf q_A) := [
  [q_f_ld 1 0 1, q_f_inv 1 [131, 1, 2, 11] 3, q_f_no, q_f_no, q_f_k (Int32.ofInt (-1)) 1, q_f_st 0 1 1, q_f_k (Int32.ofInt 0) 1, q_f_st 0 2 1, q_f_ld 0 2 1, q_f_ld 1 0 1, q_f_getf [11, 47, 0] 3, q_f_no, q_f_no, q_f_ic 3 [49] 3, q_f_no, q_f_no],
  [q_f_ld 1 0 1, q_f_ld 0 2 1, q_f_no, q_f_no, q_f_no, q_f_if 1 [43] 3, q_f_no, q_f_no, q_f_ld 0 1 1, q_f_if 2 [41] 3, q_f_no, q_f_no, q_f_ld 1 0 1, q_f_ld 0 2 1, q_f_no, q_f_no],
  [q_f_no, q_f_ld 1 0 1, q_f_ld 0 1 1, q_f_no, q_f_no, q_f_no, q_f_ic 3 [43] 3, q_f_no, q_f_no, q_f_ld 0 2 1, q_f_st 0 1 1, q_f_iinc 2 1 3, q_f_no, q_f_no, q_f_goto 8, q_f_no],
  [q_f_no, q_f_ld 0 1 1, q_f_iret [0]]]
set_option maxRecDepth 100000 in
theorem g_e190 : g_f190 = q_yt g_t190 := rfl
set_option maxRecDepth 100000 in
noncomputable def g_f191 : q_YT q_A (q_Rf q_A) := [
  [q_f_ld 0 1 1, q_f_k (Int32.ofInt 0) 1, q_f_k (Int32.ofInt 1) 1, q_f_inv 0 [146, 3, 3] 3, q_f_no, q_f_no, q_f_if 1 [11] 3, q_f_no, q_f_no, q_f_k (Int32.ofInt (-1)) 1, q_f_iret [0], q_f_ld 1 0 1, q_f_inv 1 [176, 1, 3, 11] 3, q_f_no, q_f_no, q_f_st 0 2 1],
  [q_f_k (Int32.ofInt (-1)) 1, q_f_st 0 3 1, q_f_k (Int32.ofInt 0) 1, q_f_st 0 4 2, q_f_no, q_f_ld 0 4 2, q_f_no, q_f_ld 0 2 1, q_f_ic 4 [96] 3, q_f_no, q_f_no, q_f_ld 0 4 2, q_f_no, q_f_ld 0 2 1, q_f_k (Int32.ofInt (-1)) 1, q_f_b2 5 1],
  [q_f_b2 3 1, q_f_if 1 [90] 3, q_f_no, q_f_no, q_f_ld 0 3 1, q_f_if 2 [55] 3, q_f_no, q_f_no, q_f_ld 0 4 2, q_f_no, q_f_inv 0 [165, 1, 3] 3, q_f_no, q_f_no, q_f_ld 0 3 1, q_f_inv 0 [165, 1, 3] 3, q_f_no],
  [q_f_no, q_f_ic 2 [55] 3, q_f_no, q_f_no, q_f_goto 90, q_f_no, q_f_no, q_f_ld 1 0 1, q_f_inv 1 [131, 1, 2, 11] 3, q_f_no, q_f_no, q_f_ld 1 0 1, q_f_ld 0 2 1, q_f_ld 0 4 2, q_f_no, q_f_k (Int32.ofInt (-1)) 1],
  [q_f_b2 5 1, q_f_b2 3 1, q_f_inv 1 [157, 2, 3, 11] 3, q_f_no, q_f_no, q_f_ld 1 0 1, q_f_ld 0 2 1, q_f_ld 0 4 2, q_f_no, q_f_k (Int32.ofInt (-1)) 1, q_f_b2 5 1, q_f_b2 3 1, q_f_ld 1 0 1, q_f_inv 1 [178, 1, 3, 11] 3, q_f_no, q_f_no],
  [q_f_b2 4 1, q_f_inv 1 [126, 2, 2, 11] 3, q_f_no, q_f_no, q_f_if 0 [90] 3, q_f_no, q_f_no, q_f_ld 0 4 2, q_f_no, q_f_st 0 3 1, q_f_iinc 4 1 3, q_f_no, q_f_no, q_f_goto 21, q_f_no, q_f_no],
  [q_f_ld 0 3 1, q_f_if 3 [104] 3, q_f_no, q_f_no, q_f_k (Int32.ofInt (-1)) 1, q_f_goto 116, q_f_no, q_f_no, q_f_ld 0 1 1, q_f_if 1 [115] 3, q_f_no, q_f_no, q_f_ld 0 3 1, q_f_inv 0 [165, 1, 3] 3, q_f_no, q_f_no],
  [q_f_goto 116, q_f_no, q_f_no, q_f_ld 0 3 1, q_f_iret [0]]]
set_option maxRecDepth 100000 in
theorem g_e191 : g_f191 = q_yt g_t191 := rfl
set_option maxRecDepth 100000 in
noncomputable def g_f192 : q_YT q_A (q_Rf q_A) := [
  [q_f_ld 1 0 1, q_f_ld 0 1 1, q_f_inv 1 [148, 2, 2, 11] 3, q_f_no, q_f_no, q_f_if 1 [10] 3, q_f_no, q_f_no, q_f_k (Int32.ofInt (-1)) 1, q_f_iret [0], q_f_ld 1 0 1, q_f_inv 1 [131, 1, 2, 11] 3, q_f_no, q_f_no, q_f_ld 1 0 1, q_f_inv 1 [136, 1, 1, 11] 3],
  [q_f_no, q_f_no, q_f_ld 1 0 1, q_f_getf [11, 64, 3] 3, q_f_no, q_f_no, q_f_ld 0 1 1, q_f_ald 100 0 1, q_f_iret [0]]]
set_option maxRecDepth 100000 in
theorem g_e192 : g_f192 = q_yt g_t192 := rfl
set_option maxRecDepth 100000 in
noncomputable def g_f193 : q_YT q_A (q_Rf q_A) := [
  [q_f_ld 0 1 1, q_f_k (Int32.ofInt 0) 1, q_f_k (Int32.ofInt 1) 1, q_f_inv 0 [146, 3, 3] 3, q_f_no, q_f_no, q_f_if 0 [17] 3, q_f_no, q_f_no, q_f_ld 1 0 1, q_f_ld 0 2 1, q_f_inv 1 [155, 2, 6, 11] 3, q_f_no, q_f_no, q_f_if 1 [19] 3, q_f_no],
  [q_f_no, q_f_k (Int32.ofInt (-1)) 1, q_f_iret [0], q_f_k (Int32.ofInt (-1)) 1, q_f_st 0 3 1, q_f_k (Int32.ofInt 1) 1, q_f_st 0 4 2, q_f_no, q_f_ld 0 4 2, q_f_no, q_f_k (Int8.ofInt 30).toInt32 2, q_f_no, q_f_ic 4 [59] 3, q_f_no, q_f_no, q_f_ld 1 0 1],
  [q_f_getf [11, 82, 3] 3, q_f_no, q_f_no, q_f_ld 0 4 2, q_f_no, q_f_ald 101 0 1, q_f_if 0 [53] 3, q_f_no, q_f_no, q_f_ld 0 3 1, q_f_if 2 [50] 3, q_f_no, q_f_no, q_f_ld 0 1 1, q_f_k (Int32.ofInt 1) 1, q_f_ic 1 [53] 3],
  [q_f_no, q_f_no, q_f_ld 0 4 2, q_f_no, q_f_st 0 3 1, q_f_iinc 4 1 3, q_f_no, q_f_no, q_f_goto 24, q_f_no, q_f_no, q_f_ld 0 3 1, q_f_iret [0]]]
set_option maxRecDepth 100000 in
theorem g_e193 : g_f193 = q_yt g_t193 := rfl
set_option maxRecDepth 100000 in
noncomputable def g_f194 : q_YT q_A (q_Rf q_A) := [
  [q_f_ld 0 1 1, q_f_k (Int32.ofInt 0) 1, q_f_k (Int32.ofInt 2) 1, q_f_inv 0 [146, 3, 3] 3, q_f_no, q_f_no, q_f_if 1 [11] 3, q_f_no, q_f_no, q_f_k (Int32.ofInt (-1)) 1, q_f_iret [0], q_f_k (Int32.ofInt (-1)) 1, q_f_st 0 2 1, q_f_k (Int32.ofInt (-1)) 1, q_f_st 0 3 1, q_f_ld 1 0 1],
  [q_f_inv 1 [121, 1, 1, 11] 3, q_f_no, q_f_no, q_f_st 0 4 2, q_f_no, q_f_k (Int32.ofInt 0) 1, q_f_st 0 5 2, q_f_no, q_f_ld 0 5 2, q_f_no, q_f_ld 1 0 1, q_f_getf [11, 48, 0] 3, q_f_no, q_f_no, q_f_ic 3 [119] 3, q_f_no],
  [q_f_no, q_f_ld 0 5 2, q_f_no, q_f_k (Int32.ofInt 1) 1, q_f_b2 0 1, q_f_st 0 6 2, q_f_no, q_f_ld 0 6 2, q_f_no, q_f_ld 1 0 1, q_f_getf [11, 48, 0] 3, q_f_no, q_f_no, q_f_ic 3 [113] 3, q_f_no, q_f_no],
  [q_f_ld 1 0 1, q_f_ld 0 5 2, q_f_no, q_f_inv 1 [148, 2, 2, 11] 3, q_f_no, q_f_no, q_f_if 0 [107] 3, q_f_no, q_f_no, q_f_ld 1 0 1, q_f_ld 0 6 2, q_f_no, q_f_inv 1 [148, 2, 2, 11] 3, q_f_no, q_f_no, q_f_if 1 [69] 3],
  [q_f_no, q_f_no, q_f_goto 107, q_f_no, q_f_no, q_f_ld 1 0 1, q_f_inv 1 [131, 1, 2, 11] 3, q_f_no, q_f_no, q_f_ld 1 0 1, q_f_ld 0 5 2, q_f_no, q_f_ld 0 6 2, q_f_no, q_f_no, q_f_no],
  [q_f_no, q_f_ld 1 0 1, q_f_inv 1 [122, 1, 1, 11] 3, q_f_no, q_f_no, q_f_st 0 7 2, q_f_no, q_f_ld 0 7 2, q_f_no, q_f_ld 0 4 2, q_f_no, q_f_ic 4 [97] 3, q_f_no, q_f_no, q_f_goto 107, q_f_no],
  [q_f_no, q_f_ld 0 5 2, q_f_no, q_f_st 0 2 1, q_f_ld 0 6 2, q_f_no, q_f_st 0 3 1, q_f_ld 0 7 2, q_f_no, q_f_st 0 4 2, q_f_no, q_f_iinc 6 1 3, q_f_no, q_f_no, q_f_goto 39, q_f_no],
  [q_f_no, q_f_iinc 5 1 3, q_f_no, q_f_no, q_f_goto 24, q_f_no, q_f_no, q_f_ld 0 2 1, q_f_if 3 [127] 3, q_f_no, q_f_no, q_f_k (Int32.ofInt (-1)) 1, q_f_goto 146, q_f_no, q_f_no, q_f_ld 0 1 1],
  [q_f_if 1 [135] 3, q_f_no, q_f_no, q_f_ld 0 2 1, q_f_goto 146, q_f_no, q_f_no, q_f_ld 0 1 1, q_f_k (Int32.ofInt 1) 1, q_f_ic 1 [144] 3, q_f_no, q_f_no, q_f_ld 0 3 1, q_f_goto 146, q_f_no, q_f_no],
  [q_f_ld 0 4 2, q_f_no, q_f_iret [0]]]
set_option maxRecDepth 100000 in
theorem g_e194 : g_f194 = q_yt g_t194 := rfl
set_option maxRecDepth 100000 in
noncomputable def g_f195 : q_YT q_A (q_Rf q_A) := [
  [q_f_ld 1 0 1, q_f_k (Int32.ofInt 0) 1, q_f_inv 1 [138, 2, 2, 11] 3, q_f_no, q_f_no, q_f_k (Int8.ofInt 32).toInt32 2, q_f_no, q_f_ic 0 [20] 3, q_f_no, q_f_no, q_f_ld 1 0 1, q_f_k (Int32.ofInt 0) 1, q_f_inv 1 [138, 2, 2, 11] 3, q_f_no, q_f_no, q_f_k (Int8.ofInt 10).toInt32 2],
  [q_f_no, q_f_ic 1 [33] 3, q_f_no, q_f_no, q_f_ld 1 0 1, q_f_dup 1, q_f_getf [11, 4, 0] 3, q_f_no, q_f_no, q_f_k (Int32.ofInt 1) 1, q_f_b2 0 1, q_f_putf [11, 4, 0] 3, q_f_no, q_f_no, q_f_goto 0, q_f_no],
  [q_f_no, q_f_ld 1 0 1, q_f_ld 1 0 1, q_f_getf [11, 4, 0] 3, q_f_no, q_f_no, q_f_putf [11, 7, 0] 3, q_f_no, q_f_no, q_f_ld 1 0 1, q_f_k (Int32.ofInt 0) 1, q_f_inv 1 [138, 2, 2, 11] 3, q_f_no, q_f_no, q_f_st 0 1 1, q_f_k (Int32.ofInt 0) 1],
  [q_f_st 0 2 1, q_f_ld 1 0 1, q_f_lk (Int64.ofNat 0) 1, q_f_putf [11, 9, 2] 3, q_f_no, q_f_no, q_f_ld 1 0 1, q_f_k (Int32.ofInt 0) 1, q_f_putf [11, 8, 0] 3, q_f_no, q_f_no, q_f_ld 0 1 1, q_f_if 3 [71] 3, q_f_no, q_f_no, q_f_ld 1 0 1],
  [q_f_k (Int32.ofInt 0) 1, q_f_putf [11, 6, 0] 3, q_f_no, q_f_no, q_f_goto 232, q_f_no, q_f_no, q_f_ld 0 1 1, q_f_no, q_f_no, q_f_no, q_f_if 0 [137] 3, q_f_no, q_f_no, q_f_ld 1 0 1, q_f_ld 0 2 1],
  [q_f_inv 1 [138, 2, 2, 11] 3, q_f_no, q_f_no, q_f_no, q_f_no, q_f_no, q_f_if 0 [119] 3, q_f_no, q_f_no, q_f_ld 0 2 1, q_f_k (Int8.ofInt 8).toInt32 2, q_f_no, q_f_ic 3 [113] 3, q_f_no, q_f_no, q_f_ld 1 0 1],
  [q_f_ld 1 0 1, q_f_getf [11, 9, 2] 3, q_f_no, q_f_no, q_f_k (Int8.ofInt 8).toInt32 2, q_f_no, q_f_lshl 1, q_f_ld 1 0 1, q_f_ld 0 2 1, q_f_inv 1 [138, 2, 2, 11] 3, q_f_no, q_f_no, q_f_i2l 1, q_f_l2 2 1, q_f_putf [11, 9, 2] 3, q_f_no],
  [q_f_no, q_f_iinc 2 1 3, q_f_no, q_f_no, q_f_goto 78, q_f_no, q_f_no, q_f_ld 1 0 1, q_f_ld 0 2 1, q_f_k (Int8.ofInt 8).toInt32 2, q_f_no, q_f_ic 5 [130] 3, q_f_no, q_f_no, q_f_k (Int32.ofInt 3) 1, q_f_goto 131],
  [q_f_no, q_f_no, q_f_k (Int32.ofInt 1) 1, q_f_putf [11, 6, 0] 3, q_f_no, q_f_no, q_f_goto 232, q_f_no, q_f_no, q_f_ld 0 1 1, q_f_no, q_f_no, q_f_no, q_f_if 0 [214] 3, q_f_no, q_f_no],
  [q_f_ld 1 0 1, q_f_ld 0 2 1, q_f_inv 1 [138, 2, 2, 11] 3, q_f_no, q_f_no, q_f_no, q_f_no, q_f_no, q_f_if 0 [186] 3, q_f_no, q_f_no, q_f_ld 0 2 1, q_f_k (Int32.ofInt 4) 1, q_f_ic 3 [180] 3, q_f_no, q_f_no],
  [q_f_ld 1 0 1, q_f_k (Int8.ofInt 10).toInt32 2, q_f_no, q_f_ld 1 0 1, q_f_getf [11, 8, 0] 3, q_f_no, q_f_no, q_f_b2 2 1, q_f_ld 1 0 1, q_f_ld 0 2 1, q_f_inv 1 [138, 2, 2, 11] 3, q_f_no, q_f_no, q_f_b2 0 1, q_f_k (Int8.ofInt 48).toInt32 2, q_f_no],
  [q_f_b2 1 1, q_f_putf [11, 8, 0] 3, q_f_no, q_f_no, q_f_iinc 2 1 3, q_f_no, q_f_no, q_f_goto 144, q_f_no, q_f_no, q_f_ld 1 0 1, q_f_ld 0 2 1, q_f_k (Int32.ofInt 4) 1, q_f_ic 4 [203] 3, q_f_no, q_f_no],
  [q_f_ld 1 0 1, q_f_ld 0 2 1, q_f_inv 1 [138, 2, 2, 11] 3, q_f_no, q_f_no, q_f_no, q_f_no, q_f_no, q_f_if 0 [207] 3, q_f_no, q_f_no, q_f_k (Int32.ofInt 3) 1, q_f_goto 208, q_f_no, q_f_no, q_f_k (Int32.ofInt 2) 1],
  [q_f_putf [11, 6, 0] 3, q_f_no, q_f_no, q_f_goto 232, q_f_no, q_f_no, q_f_k (Int32.ofInt 1) 1, q_f_st 0 2 1, q_f_ld 1 0 1, q_f_ld 0 1 1, q_f_no, q_f_no, q_f_no, q_f_if 0 [228] 3, q_f_no, q_f_no],
  [q_f_ld 0 1 1, q_f_goto 229, q_f_no, q_f_no, q_f_k (Int32.ofInt 3) 1, q_f_putf [11, 6, 0] 3, q_f_no, q_f_no, q_f_ld 1 0 1, q_f_getf [11, 6, 0] 3, q_f_no, q_f_no, q_f_k (Int32.ofInt 3) 1, q_f_ic 0 [250] 3, q_f_no, q_f_no],
  [q_f_ld 1 0 1, q_f_dup 1, q_f_getf [11, 4, 0] 3, q_f_no, q_f_no, q_f_ld 0 2 1, q_f_b2 0 1, q_f_putf [11, 4, 0] 3, q_f_no, q_f_no, q_f_ret]]
set_option maxRecDepth 100000 in
theorem g_e195 : g_f195 = q_yt g_t195 := rfl
set_option maxRecDepth 100000 in
noncomputable def g_f196 : q_YT q_A (q_Rf q_A) := [
  [q_f_ld 1 0 1, q_f_inv 1 [176, 1, 3, 11] 3, q_f_no, q_f_no, q_f_st 0 1 1, q_f_k (Int32.ofInt 0) 1, q_f_st 0 2 1, q_f_ld 0 1 1, q_f_if 0 [171] 3, q_f_no, q_f_no, q_f_k (Int32.ofInt 0) 1, q_f_st 0 3 1, q_f_ld 0 3 1, q_f_ld 1 0 1, q_f_getf [11, 48, 0] 3],
  [q_f_no, q_f_no, q_f_ic 3 [52] 3, q_f_no, q_f_no, q_f_ld 0 1 1, q_f_ld 0 3 1, q_f_no, q_f_no, q_f_no, q_f_if 0 [46] 3, q_f_no, q_f_no, q_f_ld 1 0 1, q_f_getf [11, 71, 3] 3, q_f_no],
  [q_f_no, q_f_ld 0 3 1, q_f_ld 1 0 1, q_f_getf [11, 57, 3] 3, q_f_no, q_f_no, q_f_ld 1 0 1, q_f_ld 0 3 1, q_f_ld 0 1 1, q_f_no, q_f_no, q_f_no, q_f_ald 100 0 1, q_f_ast 100 1, q_f_iinc 3 1 3, q_f_no],
  [q_f_no, q_f_goto 13, q_f_no, q_f_no, q_f_k (Int32.ofInt 0) 1, q_f_st 0 3 1, q_f_k (Int32.ofInt 0) 1, q_f_st 0 4 2, q_f_no, q_f_ld 0 4 2, q_f_no, q_f_ld 1 0 1, q_f_getf [11, 48, 0] 3, q_f_no, q_f_no, q_f_ic 3 [121] 3],
  [q_f_no, q_f_no, q_f_ld 0 1 1, q_f_ld 0 3 1, q_f_k (Int32.ofInt (-1)) 1, q_f_b2 5 1, q_f_b2 3 1, q_f_ld 0 4 2, q_f_no, q_f_no, q_f_no, q_f_no, q_f_if 1 [82] 3, q_f_no, q_f_no, q_f_goto 115],
  [q_f_no, q_f_no, q_f_ld 1 0 1, q_f_ld 0 4 2, q_f_no, q_f_no, q_f_no, q_f_no, q_f_st 0 5 2, q_f_no, q_f_ld 0 2 1, q_f_ld 0 5 2, q_f_no, q_f_inv 0 [165, 1, 3] 3, q_f_no, q_f_no],
  [q_f_k (Int32.ofInt 1) 1, q_f_ic 5 [104] 3, q_f_no, q_f_no, q_f_k (Int32.ofInt 1) 1, q_f_goto 105, q_f_no, q_f_no, q_f_k (Int32.ofInt 0) 1, q_f_inv 0 [197, 1, 1] 3, q_f_no, q_f_no, q_f_b2 0 1, q_f_st 0 2 1, q_f_ld 0 3 1, q_f_ld 0 5 2],
  [q_f_no, q_f_b2 4 1, q_f_st 0 3 1, q_f_iinc 4 1 3, q_f_no, q_f_no, q_f_goto 57, q_f_no, q_f_no, q_f_k (Int32.ofInt 0) 1, q_f_st 0 4 2, q_f_no, q_f_ld 0 4 2, q_f_no, q_f_ld 1 0 1, q_f_getf [11, 48, 0] 3],
  [q_f_no, q_f_no, q_f_ic 3 [162] 3, q_f_no, q_f_no, q_f_ld 0 3 1, q_f_ld 0 4 2, q_f_no, q_f_no, q_f_no, q_f_no, q_f_if 0 [156] 3, q_f_no, q_f_no, q_f_ld 1 0 1, q_f_getf [11, 72, 3] 3],
  [q_f_no, q_f_no, q_f_ld 1 0 1, q_f_getf [11, 71, 3] 3, q_f_no, q_f_no, q_f_ld 0 4 2, q_f_no, q_f_ald 100 0 1, q_f_ld 0 4 2, q_f_no, q_f_ast 100 1, q_f_iinc 4 1 3, q_f_no, q_f_no, q_f_goto 124],
  [q_f_no, q_f_no, q_f_ld 0 1 1, q_f_ld 0 3 1, q_f_k (Int32.ofInt (-1)) 1, q_f_b2 5 1, q_f_b2 3 1, q_f_st 0 1 1, q_f_goto 7, q_f_no, q_f_no, q_f_ld 1 0 1, q_f_ld 1 0 1, q_f_getf [11, 57, 3] 3, q_f_no, q_f_no],
  [q_f_k (Int8.ofInt 8).toInt32 2, q_f_no, q_f_ald 100 0 1, q_f_putf [11, 70, 0] 3, q_f_no, q_f_no, q_f_k (Int32.ofInt 0) 1, q_f_st 0 3 1, q_f_ld 0 3 1, q_f_ld 1 0 1, q_f_getf [11, 70, 0] 3, q_f_no, q_f_no, q_f_ic 3 [215] 3, q_f_no, q_f_no],
  [q_f_ld 1 0 1, q_f_getf [11, 68, 3] 3, q_f_no, q_f_no, q_f_ld 0 3 1, q_f_ld 1 0 1, q_f_getf [11, 72, 3] 3, q_f_no, q_f_no, q_f_ld 1 0 1, q_f_getf [11, 57, 3] 3, q_f_no, q_f_no, q_f_ld 0 3 1, q_f_ald 100 0 1, q_f_ald 100 0 1],
  [q_f_ast 100 1, q_f_iinc 3 1 3, q_f_no, q_f_no, q_f_goto 184, q_f_no, q_f_no, q_f_ld 0 2 1, q_f_iret [0]]]
set_option maxRecDepth 100000 in
theorem g_e196 : g_f196 = q_yt g_t196 := rfl
set_option maxRecDepth 100000 in
noncomputable def g_f197 : q_YT q_A (q_Rf q_A) := [
  [q_f_ld 0 0 1, q_f_if 0 [8] 3, q_f_no, q_f_no, q_f_k (Int32.ofInt 1) 1, q_f_goto 9, q_f_no, q_f_no, q_f_k (Int32.ofInt 0) 1, q_f_iret [0]]]
set_option maxRecDepth 100000 in
theorem g_e197 : g_f197 = q_yt g_t197 := rfl
set_option maxRecDepth 100000 in
noncomputable def g_f198 : q_YT q_A (q_Rf q_A) := [
  [q_f_ld 1 0 1, q_f_getf [11, 66, 0] 3, q_f_no, q_f_no, q_f_if 1 [9] 3, q_f_no, q_f_no, q_f_k (Int32.ofInt 0) 1, q_f_iret [1], q_f_ld 1 0 1, q_f_dup 1, q_f_getf [11, 66, 0] 3, q_f_no, q_f_no, q_f_k (Int32.ofInt 1) 1, q_f_b2 1 1],
  [q_f_putf [11, 66, 0] 3, q_f_no, q_f_no, q_f_ld 1 0 1, q_f_dup 1, q_f_getf [11, 67, 0] 3, q_f_no, q_f_no, q_f_k (Int32.ofInt 1) 1, q_f_b2 0 1, q_f_putf [11, 67, 0] 3, q_f_no, q_f_no, q_f_ld 1 0 1, q_f_k (Int8.ofInt 28).toInt32 2, q_f_no],
  [q_f_ld 1 0 1, q_f_getf [11, 66, 0] 3, q_f_no, q_f_no, q_f_b2 2 1, q_f_no, q_f_no, q_f_no, q_f_k (Int32.ofInt 1) 1, q_f_iret [1]]]
set_option maxRecDepth 100000 in
theorem g_e198 : g_f198 = q_yt g_t198 := rfl
set_option maxRecDepth 100000 in
noncomputable def g_f199 : q_YT q_A (q_Rf q_A) := [
  [q_f_ld 0 1 1, q_f_k (Int32.ofInt 0) 1, q_f_ld 1 0 1, q_f_getf [11, 78, 0] 3, q_f_no, q_f_no, q_f_k (Int32.ofInt 1) 1, q_f_b2 1 1, q_f_inv 0 [146, 3, 3] 3, q_f_no, q_f_no, q_f_if 0 [23] 3, q_f_no, q_f_no, q_f_ld 1 0 1, q_f_getf [11, 76, 3] 3],
  [q_f_no, q_f_no, q_f_ld 0 1 1, q_f_ald 100 0 1, q_f_if 2 [25] 3, q_f_no, q_f_no, q_f_k (Int32.ofInt 0) 1, q_f_iret [1], q_f_ld 1 0 1, q_f_getf [11, 76, 3] 3, q_f_no, q_f_no, q_f_ld 0 1 1, q_f_ld 1 0 1, q_f_getf [11, 79, 0] 3],
  [q_f_no, q_f_no, q_f_ast 100 1, q_f_k (Int32.ofInt 1) 1, q_f_iret [1]]]
set_option maxRecDepth 100000 in
theorem g_e199 : g_f199 = q_yt g_t199 := rfl
set_option maxRecDepth 100000 in
noncomputable def g_f200 : q_YT q_A (q_Rf q_A) := [
  [q_f_ld 1 0 1, q_f_getf [11, 57, 3] 3, q_f_no, q_f_no, q_f_k (Int8.ofInt 25).toInt32 2, q_f_no, q_f_ald 100 0 1, q_f_iret [0]]]
set_option maxRecDepth 100000 in
theorem g_e200 : g_f200 = q_yt g_t200 := rfl
set_option maxRecDepth 100000 in
noncomputable def g_f201 : q_YT q_A (q_Rf q_A) := [
  [q_f_ld 1 0 1, q_f_ld 0 1 1, q_f_inv 1 [147, 2, 2, 11] 3, q_f_no, q_f_no, q_f_if 0 [28] 3, q_f_no, q_f_no, q_f_ld 0 2 1, q_f_k (Int32.ofInt 0) 1, q_f_k (Int16.ofInt 400).toInt32 3, q_f_no, q_f_no, q_f_inv 0 [146, 3, 3] 3, q_f_no, q_f_no],
  [q_f_if 0 [28] 3, q_f_no, q_f_no, q_f_ld 0 3 1, q_f_k (Int32.ofInt 0) 1, q_f_k (Int32.ofInt 1) 1, q_f_inv 0 [146, 3, 3] 3, q_f_no, q_f_no, q_f_if 1 [30] 3, q_f_no, q_f_no, q_f_k (Int32.ofInt (-1)) 1, q_f_iret [0], q_f_ld 1 0 1, q_f_inv 1 [131, 1, 2, 11] 3],
  [q_f_no, q_f_no, q_f_k (Int32.ofInt 0) 1, q_f_st 0 4 2, q_f_no, q_f_ld 0 4 2, q_f_no, q_f_ld 0 2 1, q_f_ic 3 [71] 3, q_f_no, q_f_no, q_f_ld 1 0 1, q_f_inv 1 [144, 1, 3, 11] 3, q_f_no, q_f_no, q_f_if 1 [71] 3],
  [q_f_no, q_f_no, q_f_ld 1 0 1, q_f_ld 0 3 1, q_f_k (Int32.ofInt 1) 1, q_f_ic 1 [60] 3, q_f_no, q_f_no, q_f_k (Int32.ofInt 1) 1, q_f_goto 61, q_f_no, q_f_no, q_f_k (Int32.ofInt 0) 1, q_f_no, q_f_no, q_f_no],
  [q_f_pop 1, q_f_iinc 4 1 3, q_f_no, q_f_no, q_f_goto 37, q_f_no, q_f_no, q_f_ld 1 0 1, q_f_getf [11, 58, 3] 3, q_f_no, q_f_no, q_f_k (Int8.ofInt 9).toInt32 2, q_f_no, q_f_ld 0 1 1, q_f_b2 0 1, q_f_ald 100 0 1],
  [q_f_iret [0]]]
set_option maxRecDepth 100000 in
theorem g_e201 : g_f201 = q_yt g_t201 := rfl
set_option maxRecDepth 100000 in
noncomputable def g_f202 : q_YT q_A (q_Rf q_A) := [
  [q_f_ld 1 0 1, q_f_ld 0 1 1, q_f_inv 1 [148, 2, 2, 11] 3, q_f_no, q_f_no, q_f_if 0 [20] 3, q_f_no, q_f_no, q_f_ld 1 0 1, q_f_ld 0 1 1, q_f_ld 1 0 1, q_f_inv 1 [176, 1, 3, 11] 3, q_f_no, q_f_no, q_f_no, q_f_no],
  [q_f_no, q_f_goto 21, q_f_no, q_f_no, q_f_k (Int32.ofInt (-1)) 1, q_f_iret [0]]]
set_option maxRecDepth 100000 in
theorem g_e202 : g_f202 = q_yt g_t202 := rfl
set_option maxRecDepth 100000 in
noncomputable def g_f203 : q_YT q_A (q_Rf q_A) := [
  [q_f_ld 0 0 1, q_f_ld 0 0 1, q_f_k (Int32.ofInt 1) 1, q_f_b2 8 1, q_f_k (Int32.ofNat 1431655765) 3, q_f_no, q_f_no, q_f_b2 3 1, q_f_b2 1 1, q_f_st 0 0 1, q_f_ld 0 0 1, q_f_k (Int32.ofNat 858993459) 3, q_f_no, q_f_no, q_f_b2 3 1, q_f_ld 0 0 1],
  [q_f_k (Int32.ofInt 2) 1, q_f_b2 8 1, q_f_k (Int32.ofNat 858993459) 3, q_f_no, q_f_no, q_f_b2 3 1, q_f_b2 0 1, q_f_st 0 0 1, q_f_ld 0 0 1, q_f_ld 0 0 1, q_f_k (Int32.ofInt 4) 1, q_f_b2 8 1, q_f_b2 0 1, q_f_k (Int32.ofNat 252645135) 3, q_f_no, q_f_no],
  [q_f_b2 3 1, q_f_st 0 0 1, q_f_ld 0 0 1, q_f_ld 0 0 1, q_f_k (Int8.ofInt 8).toInt32 2, q_f_no, q_f_b2 8 1, q_f_b2 0 1, q_f_st 0 0 1, q_f_ld 0 0 1, q_f_ld 0 0 1, q_f_k (Int8.ofInt 16).toInt32 2, q_f_no, q_f_b2 8 1, q_f_b2 0 1, q_f_st 0 0 1],
  [q_f_ld 0 0 1, q_f_k (Int8.ofInt 63).toInt32 2, q_f_no, q_f_b2 3 1, q_f_iret [0]]]
set_option maxRecDepth 100000 in
theorem g_e203 : g_f203 = q_yt g_t203 := rfl
set_option maxRecDepth 100000 in
noncomputable def g_f204 : q_YT q_A (q_Rf q_A) := [
  [q_f_ld 0 0 1, q_f_if 3 [9] 3, q_f_no, q_f_no, q_f_ld 0 0 1, q_f_b1 0 1, q_f_goto 10, q_f_no, q_f_no, q_f_ld 0 0 1, q_f_iret [0]]]
set_option maxRecDepth 100000 in
theorem g_e204 : g_f204 = q_yt g_t204 := rfl
set_option maxRecDepth 100000 in
noncomputable def g_fl : q_YT q_A (q_Sf q_A) := [
  [q_f_new [10, 3, 3, 3, 3, 3, 3, 3, 0, 3, 3, 3, 3, 3, 3, 0] 3, q_f_no, q_f_no, q_f_dup 1, q_f_inv 2 [0, 1, 1] 3, q_f_no, q_f_no, q_f_st 1 1 1, q_f_new [11, 3, 0, 0, 0, 0, 0, 0, 0, 0, 2, 3, 3, 3, 3, 3, 3, 3, 0, 0, 0, 0, 0, 0, 0, 1, 1, 3, 0, 0, 0, 0, 3, 3, 3, 3, 3, 3, 3, 3, 3, 3, 0, 0, 0, 0, 0, 0, 0, 0, 0, 0, 0, 0, 1, 1, 1, 1, 3, 3, 0, 3, 3, 0, 3, 3, 3, 0, 0, 3, 3, 0, 3, 3, 3, 3, 3, 3, 3, 0, 0, 3, 3, 3, 3, 3] 3, q_f_no, q_f_no, q_f_dup 1, q_f_inv 2 [111, 1, 1] 3, q_f_no, q_f_no, q_f_st 1 2 1],
  [q_f_k (Int32.ofInt 0) 1, q_f_st 0 3 1, q_f_ld 0 3 1, q_f_ld 1 0 1, q_f_alen 1, q_f_k (Int8.ofInt 6).toInt32 2, q_f_no, q_f_b2 1 1, q_f_ic 4 [1619] 3, q_f_no, q_f_no, q_f_ld 1 0 1, q_f_ld 0 3 1, q_f_ald 100 0 1, q_f_k (Int8.ofInt 63).toInt32 2, q_f_no],
  [q_f_b2 3 1, q_f_tsw 0 56 [1613, 276, 339, 362, 375, 398, 431, 464, 487, 520, 543, 556, 589, 612, 635, 658, 681, 704, 717, 730, 773, 796, 819, 832, 845, 858, 871, 884, 897, 920, 943, 966, 989, 1012, 1025, 1058, 1081, 1114, 1127, 1150, 1183, 1196, 1219, 1232, 1245, 1258, 1271, 1294, 1327, 1350, 1409, 1432, 1455, 1478, 1511, 1544, 1567, 1590], q_f_no, q_f_no, q_f_no, q_f_no, q_f_no, q_f_no, q_f_no, q_f_no, q_f_no, q_f_no, q_f_no, q_f_no, q_f_no, q_f_no],
  [q_f_no, q_f_no, q_f_no, q_f_no, q_f_no, q_f_no, q_f_no, q_f_no, q_f_no, q_f_no, q_f_no, q_f_no, q_f_no, q_f_no, q_f_no, q_f_no],
  [q_f_no, q_f_no, q_f_no, q_f_no, q_f_no, q_f_no, q_f_no, q_f_no, q_f_no, q_f_no, q_f_no, q_f_no, q_f_no, q_f_no, q_f_no, q_f_no],
  [q_f_no, q_f_no, q_f_no, q_f_no, q_f_no, q_f_no, q_f_no, q_f_no, q_f_no, q_f_no, q_f_no, q_f_no, q_f_no, q_f_no, q_f_no, q_f_no],
  [q_f_no, q_f_no, q_f_no, q_f_no, q_f_no, q_f_no, q_f_no, q_f_no, q_f_no, q_f_no, q_f_no, q_f_no, q_f_no, q_f_no, q_f_no, q_f_no],
  [q_f_no, q_f_no, q_f_no, q_f_no, q_f_no, q_f_no, q_f_no, q_f_no, q_f_no, q_f_no, q_f_no, q_f_no, q_f_no, q_f_no, q_f_no, q_f_no],
  [q_f_no, q_f_no, q_f_no, q_f_no, q_f_no, q_f_no, q_f_no, q_f_no, q_f_no, q_f_no, q_f_no, q_f_no, q_f_no, q_f_no, q_f_no, q_f_no],
  [q_f_no, q_f_no, q_f_no, q_f_no, q_f_no, q_f_no, q_f_no, q_f_no, q_f_no, q_f_no, q_f_no, q_f_no, q_f_no, q_f_no, q_f_no, q_f_no],
  [q_f_no, q_f_no, q_f_no, q_f_no, q_f_no, q_f_no, q_f_no, q_f_no, q_f_no, q_f_no, q_f_no, q_f_no, q_f_no, q_f_no, q_f_no, q_f_no],
  [q_f_no, q_f_no, q_f_no, q_f_no, q_f_no, q_f_no, q_f_no, q_f_no, q_f_no, q_f_no, q_f_no, q_f_no, q_f_no, q_f_no, q_f_no, q_f_no],
  [q_f_no, q_f_no, q_f_no, q_f_no, q_f_no, q_f_no, q_f_no, q_f_no, q_f_no, q_f_no, q_f_no, q_f_no, q_f_no, q_f_no, q_f_no, q_f_no],
  [q_f_no, q_f_no, q_f_no, q_f_no, q_f_no, q_f_no, q_f_no, q_f_no, q_f_no, q_f_no, q_f_no, q_f_no, q_f_no, q_f_no, q_f_no, q_f_no],
  [q_f_no, q_f_no, q_f_no, q_f_no, q_f_no, q_f_no, q_f_no, q_f_no, q_f_no, q_f_no, q_f_no, q_f_no, q_f_no, q_f_no, q_f_no, q_f_no],
  [q_f_no, q_f_no, q_f_no, q_f_no, q_f_no, q_f_no, q_f_no, q_f_no, q_f_no, q_f_no, q_f_no, q_f_no, q_f_no, q_f_no, q_f_no, q_f_no],
  [q_f_no, q_f_no, q_f_no, q_f_no, q_f_no, q_f_no, q_f_no, q_f_no, q_f_no, q_f_no, q_f_no, q_f_no, q_f_no, q_f_no, q_f_no, q_f_no],
  [q_f_no, q_f_no, q_f_no, q_f_no, q_f_ld 1 1 1, q_f_ld 1 0 1, q_f_ld 0 3 1, q_f_k (Int32.ofInt 1) 1, q_f_b2 0 1, q_f_ald 100 0 1, q_f_ld 1 0 1, q_f_ld 0 3 1, q_f_k (Int32.ofInt 2) 1, q_f_b2 0 1, q_f_ald 100 0 1, q_f_ld 1 0 1],
  [q_f_ld 0 3 1, q_f_k (Int32.ofInt 3) 1, q_f_b2 0 1, q_f_ald 100 0 1, q_f_ld 1 0 1, q_f_ld 0 3 1, q_f_k (Int32.ofInt 4) 1, q_f_b2 0 1, q_f_ald 100 0 1, q_f_ld 1 0 1, q_f_ld 0 3 1, q_f_k (Int32.ofInt 5) 1, q_f_b2 0 1, q_f_ald 100 0 1, q_f_inv 1 [19, 6, 6, 10] 3, q_f_no],
  [q_f_no, q_f_ld 1 2 1, q_f_ld 1 0 1, q_f_ld 0 3 1, q_f_k (Int32.ofInt 1) 1, q_f_b2 0 1, q_f_ald 100 0 1, q_f_ld 1 0 1, q_f_ld 0 3 1, q_f_k (Int32.ofInt 2) 1, q_f_b2 0 1, q_f_ald 100 0 1, q_f_ld 1 0 1, q_f_ld 0 3 1, q_f_k (Int32.ofInt 3) 1, q_f_b2 0 1],
  [q_f_ald 100 0 1, q_f_ld 1 0 1, q_f_ld 0 3 1, q_f_k (Int32.ofInt 4) 1, q_f_b2 0 1, q_f_ald 100 0 1, q_f_ld 1 0 1, q_f_ld 0 3 1, q_f_k (Int32.ofInt 5) 1, q_f_b2 0 1, q_f_ald 100 0 1, q_f_inv 1 [130, 6, 6, 11] 3, q_f_no, q_f_no, q_f_ic 0 [1613] 3, q_f_no],
  [q_f_no, q_f_k (Int32.ofInt 0) 1, q_f_iret [1], q_f_ld 1 1 1, q_f_ld 1 0 1, q_f_ld 0 3 1, q_f_k (Int32.ofInt 1) 1, q_f_b2 0 1, q_f_ald 100 0 1, q_f_inv 1 [17, 2, 2, 10] 3, q_f_no, q_f_no, q_f_ld 1 2 1, q_f_ld 1 0 1, q_f_ld 0 3 1, q_f_k (Int32.ofInt 1) 1],
  [q_f_b2 0 1, q_f_ald 100 0 1, q_f_inv 1 [128, 2, 2, 11] 3, q_f_no, q_f_no, q_f_ic 0 [1613] 3, q_f_no, q_f_no, q_f_k (Int32.ofInt 0) 1, q_f_iret [1], q_f_ld 1 1 1, q_f_inv 1 [50, 1, 3, 10] 3, q_f_no, q_f_no, q_f_ld 1 2 1, q_f_inv 1 [173, 1, 2, 11] 3],
  [q_f_no, q_f_no, q_f_ic 0 [1613] 3, q_f_no, q_f_no, q_f_k (Int32.ofInt 0) 1, q_f_iret [1], q_f_ld 1 1 1, q_f_ld 1 0 1, q_f_ld 0 3 1, q_f_k (Int32.ofInt 1) 1, q_f_b2 0 1, q_f_ald 100 0 1, q_f_inv 1 [18, 2, 2, 10] 3, q_f_no, q_f_no],
  [q_f_ld 1 2 1, q_f_ld 1 0 1, q_f_ld 0 3 1, q_f_k (Int32.ofInt 1) 1, q_f_b2 0 1, q_f_ald 100 0 1, q_f_inv 1 [129, 2, 2, 11] 3, q_f_no, q_f_no, q_f_ic 0 [1613] 3, q_f_no, q_f_no, q_f_k (Int32.ofInt 0) 1, q_f_iret [1], q_f_ld 1 1 1, q_f_ld 1 0 1],
  [q_f_ld 0 3 1, q_f_k (Int32.ofInt 1) 1, q_f_b2 0 1, q_f_ald 100 0 1, q_f_ld 1 0 1, q_f_ld 0 3 1, q_f_k (Int32.ofInt 2) 1, q_f_b2 0 1, q_f_ald 100 0 1, q_f_inv 1 [60, 3, 3, 10] 3, q_f_no, q_f_no, q_f_ld 1 2 1, q_f_ld 1 0 1, q_f_ld 0 3 1, q_f_k (Int32.ofInt 1) 1],
  [q_f_b2 0 1, q_f_ald 100 0 1, q_f_ld 1 0 1, q_f_ld 0 3 1, q_f_k (Int32.ofInt 2) 1, q_f_b2 0 1, q_f_ald 100 0 1, q_f_inv 1 [187, 3, 5, 11] 3, q_f_no, q_f_no, q_f_ic 0 [1613] 3, q_f_no, q_f_no, q_f_k (Int32.ofInt 0) 1, q_f_iret [1], q_f_ld 1 1 1],
  [q_f_ld 1 0 1, q_f_ld 0 3 1, q_f_k (Int32.ofInt 1) 1, q_f_b2 0 1, q_f_ald 100 0 1, q_f_ld 1 0 1, q_f_ld 0 3 1, q_f_k (Int32.ofInt 2) 1, q_f_b2 0 1, q_f_ald 100 0 1, q_f_inv 1 [48, 3, 3, 10] 3, q_f_no, q_f_no, q_f_ld 1 2 1, q_f_ld 1 0 1, q_f_ld 0 3 1],
  [q_f_k (Int32.ofInt 1) 1, q_f_b2 0 1, q_f_ald 100 0 1, q_f_ld 1 0 1, q_f_ld 0 3 1, q_f_k (Int32.ofInt 2) 1, q_f_b2 0 1, q_f_ald 100 0 1, q_f_inv 1 [171, 3, 3, 11] 3, q_f_no, q_f_no, q_f_ic 0 [1613] 3, q_f_no, q_f_no, q_f_k (Int32.ofInt 0) 1, q_f_iret [1]],
  [q_f_ld 1 1 1, q_f_ld 1 0 1, q_f_ld 0 3 1, q_f_k (Int32.ofInt 1) 1, q_f_b2 0 1, q_f_ald 100 0 1, q_f_inv 1 [51, 2, 2, 10] 3, q_f_no, q_f_no, q_f_ld 1 2 1, q_f_ld 1 0 1, q_f_ld 0 3 1, q_f_k (Int32.ofInt 1) 1, q_f_b2 0 1, q_f_ald 100 0 1, q_f_inv 1 [174, 2, 2, 11] 3],
  [q_f_no, q_f_no, q_f_ic 0 [1613] 3, q_f_no, q_f_no, q_f_k (Int32.ofInt 0) 1, q_f_iret [1], q_f_ld 1 1 1, q_f_ld 1 0 1, q_f_ld 0 3 1, q_f_k (Int32.ofInt 1) 1, q_f_b2 0 1, q_f_ald 100 0 1, q_f_ld 1 0 1, q_f_ld 0 3 1, q_f_k (Int32.ofInt 2) 1],
  [q_f_b2 0 1, q_f_ald 100 0 1, q_f_inv 1 [52, 3, 3, 10] 3, q_f_no, q_f_no, q_f_ld 1 2 1, q_f_ld 1 0 1, q_f_ld 0 3 1, q_f_k (Int32.ofInt 1) 1, q_f_b2 0 1, q_f_ald 100 0 1, q_f_ld 1 0 1, q_f_ld 0 3 1, q_f_k (Int32.ofInt 2) 1, q_f_b2 0 1, q_f_ald 100 0 1],
  [q_f_inv 1 [177, 3, 3, 11] 3, q_f_no, q_f_no, q_f_ic 0 [1613] 3, q_f_no, q_f_no, q_f_k (Int32.ofInt 0) 1, q_f_iret [1], q_f_ld 1 1 1, q_f_ld 1 0 1, q_f_ld 0 3 1, q_f_k (Int32.ofInt 1) 1, q_f_b2 0 1, q_f_ald 100 0 1, q_f_inv 1 [37, 2, 2, 10] 3, q_f_no],
  [q_f_no, q_f_ld 1 2 1, q_f_ld 1 0 1, q_f_ld 0 3 1, q_f_k (Int32.ofInt 1) 1, q_f_b2 0 1, q_f_ald 100 0 1, q_f_inv 1 [158, 2, 2, 11] 3, q_f_no, q_f_no, q_f_ic 0 [1613] 3, q_f_no, q_f_no, q_f_k (Int32.ofInt 0) 1, q_f_iret [1], q_f_ld 1 1 1],
  [q_f_inv 1 [43, 1, 2, 10] 3, q_f_no, q_f_no, q_f_ld 1 2 1, q_f_inv 1 [166, 1, 2, 11] 3, q_f_no, q_f_no, q_f_ic 0 [1613] 3, q_f_no, q_f_no, q_f_k (Int32.ofInt 0) 1, q_f_iret [1], q_f_ld 1 1 1, q_f_ld 1 0 1, q_f_ld 0 3 1, q_f_k (Int32.ofInt 1) 1],
  [q_f_b2 0 1, q_f_ald 100 0 1, q_f_ld 1 0 1, q_f_ld 0 3 1, q_f_k (Int32.ofInt 2) 1, q_f_b2 0 1, q_f_ald 100 0 1, q_f_inv 1 [10, 3, 5, 10] 3, q_f_no, q_f_no, q_f_ld 1 2 1, q_f_ld 1 0 1, q_f_ld 0 3 1, q_f_k (Int32.ofInt 1) 1, q_f_b2 0 1, q_f_ald 100 0 1],
  [q_f_ld 1 0 1, q_f_ld 0 3 1, q_f_k (Int32.ofInt 2) 1, q_f_b2 0 1, q_f_ald 100 0 1, q_f_inv 1 [120, 3, 3, 11] 3, q_f_no, q_f_no, q_f_ic 0 [1613] 3, q_f_no, q_f_no, q_f_k (Int32.ofInt 0) 1, q_f_iret [1], q_f_ld 1 1 1, q_f_ld 1 0 1, q_f_ld 0 3 1],
  [q_f_k (Int32.ofInt 1) 1, q_f_b2 0 1, q_f_ald 100 0 1, q_f_inv 1 [61, 2, 2, 10] 3, q_f_no, q_f_no, q_f_ld 1 2 1, q_f_ld 1 0 1, q_f_ld 0 3 1, q_f_k (Int32.ofInt 1) 1, q_f_b2 0 1, q_f_ald 100 0 1, q_f_inv 1 [188, 2, 2, 11] 3, q_f_no, q_f_no, q_f_ic 0 [1613] 3],
  [q_f_no, q_f_no, q_f_k (Int32.ofInt 0) 1, q_f_iret [1], q_f_ld 1 1 1, q_f_ld 1 0 1, q_f_ld 0 3 1, q_f_k (Int32.ofInt 1) 1, q_f_b2 0 1, q_f_ald 100 0 1, q_f_inv 1 [28, 2, 2, 10] 3, q_f_no, q_f_no, q_f_ld 1 2 1, q_f_ld 1 0 1, q_f_ld 0 3 1],
  [q_f_k (Int32.ofInt 1) 1, q_f_b2 0 1, q_f_ald 100 0 1, q_f_inv 1 [142, 2, 2, 11] 3, q_f_no, q_f_no, q_f_ic 0 [1613] 3, q_f_no, q_f_no, q_f_k (Int32.ofInt 0) 1, q_f_iret [1], q_f_ld 1 1 1, q_f_ld 1 0 1, q_f_ld 0 3 1, q_f_k (Int32.ofInt 1) 1, q_f_b2 0 1],
  [q_f_ald 100 0 1, q_f_inv 1 [22, 2, 2, 10] 3, q_f_no, q_f_no, q_f_ld 1 2 1, q_f_ld 1 0 1, q_f_ld 0 3 1, q_f_k (Int32.ofInt 1) 1, q_f_b2 0 1, q_f_ald 100 0 1, q_f_inv 1 [135, 2, 2, 11] 3, q_f_no, q_f_no, q_f_ic 0 [1613] 3, q_f_no, q_f_no],
  [q_f_k (Int32.ofInt 0) 1, q_f_iret [1], q_f_ld 1 1 1, q_f_ld 1 0 1, q_f_ld 0 3 1, q_f_k (Int32.ofInt 1) 1, q_f_b2 0 1, q_f_ald 100 0 1, q_f_inv 1 [32, 2, 2, 10] 3, q_f_no, q_f_no, q_f_ld 1 2 1, q_f_ld 1 0 1, q_f_ld 0 3 1, q_f_k (Int32.ofInt 1) 1, q_f_b2 0 1],
  [q_f_ald 100 0 1, q_f_inv 1 [150, 2, 2, 11] 3, q_f_no, q_f_no, q_f_ic 0 [1613] 3, q_f_no, q_f_no, q_f_k (Int32.ofInt 0) 1, q_f_iret [1], q_f_ld 1 1 1, q_f_ld 1 0 1, q_f_ld 0 3 1, q_f_k (Int32.ofInt 1) 1, q_f_b2 0 1, q_f_ald 100 0 1, q_f_inv 1 [6, 2, 2, 10] 3],
  [q_f_no, q_f_no, q_f_ld 1 2 1, q_f_ld 1 0 1, q_f_ld 0 3 1, q_f_k (Int32.ofInt 1) 1, q_f_b2 0 1, q_f_ald 100 0 1, q_f_inv 1 [116, 2, 2, 11] 3, q_f_no, q_f_no, q_f_ic 0 [1613] 3, q_f_no, q_f_no, q_f_k (Int32.ofInt 0) 1, q_f_iret [1]],
  [q_f_ld 1 1 1, q_f_inv 1 [70, 1, 1, 10] 3, q_f_no, q_f_no, q_f_ld 1 2 1, q_f_inv 1 [198, 1, 1, 11] 3, q_f_no, q_f_no, q_f_ic 0 [1613] 3, q_f_no, q_f_no, q_f_k (Int32.ofInt 0) 1, q_f_iret [1], q_f_ld 1 1 1, q_f_inv 1 [53, 1, 1, 10] 3, q_f_no],
  [q_f_no, q_f_ld 1 2 1, q_f_inv 1 [180, 1, 1, 11] 3, q_f_no, q_f_no, q_f_ic 0 [1613] 3, q_f_no, q_f_no, q_f_k (Int32.ofInt 0) 1, q_f_iret [1], q_f_ld 1 1 1, q_f_ld 1 0 1, q_f_ld 0 3 1, q_f_k (Int32.ofInt 1) 1, q_f_b2 0 1, q_f_ald 100 0 1],
  [q_f_ld 1 0 1, q_f_ld 0 3 1, q_f_k (Int32.ofInt 2) 1, q_f_b2 0 1, q_f_ald 100 0 1, q_f_ld 1 0 1, q_f_ld 0 3 1, q_f_k (Int32.ofInt 3) 1, q_f_b2 0 1, q_f_ald 100 0 1, q_f_inv 1 [73, 4, 4, 10] 3, q_f_no, q_f_no, q_f_ld 1 2 1, q_f_ld 1 0 1, q_f_ld 0 3 1],
  [q_f_k (Int32.ofInt 1) 1, q_f_b2 0 1, q_f_ald 100 0 1, q_f_ld 1 0 1, q_f_ld 0 3 1, q_f_k (Int32.ofInt 2) 1, q_f_b2 0 1, q_f_ald 100 0 1, q_f_ld 1 0 1, q_f_ld 0 3 1, q_f_k (Int32.ofInt 3) 1, q_f_b2 0 1, q_f_ald 100 0 1, q_f_inv 1 [201, 4, 5, 11] 3, q_f_no, q_f_no],
  [q_f_ic 0 [1613] 3, q_f_no, q_f_no, q_f_k (Int32.ofInt 0) 1, q_f_iret [1], q_f_ld 1 1 1, q_f_ld 1 0 1, q_f_ld 0 3 1, q_f_k (Int32.ofInt 1) 1, q_f_b2 0 1, q_f_ald 100 0 1, q_f_inv 1 [56, 2, 2, 10] 3, q_f_no, q_f_no, q_f_ld 1 2 1, q_f_ld 1 0 1],
  [q_f_ld 0 3 1, q_f_k (Int32.ofInt 1) 1, q_f_b2 0 1, q_f_ald 100 0 1, q_f_inv 1 [184, 2, 2, 11] 3, q_f_no, q_f_no, q_f_ic 0 [1613] 3, q_f_no, q_f_no, q_f_k (Int32.ofInt 0) 1, q_f_iret [1], q_f_ld 1 1 1, q_f_ld 1 0 1, q_f_ld 0 3 1, q_f_k (Int32.ofInt 1) 1],
  [q_f_b2 0 1, q_f_ald 100 0 1, q_f_inv 1 [65, 2, 2, 10] 3, q_f_no, q_f_no, q_f_ld 1 2 1, q_f_ld 1 0 1, q_f_ld 0 3 1, q_f_k (Int32.ofInt 1) 1, q_f_b2 0 1, q_f_ald 100 0 1, q_f_inv 1 [192, 2, 2, 11] 3, q_f_no, q_f_no, q_f_ic 0 [1613] 3, q_f_no],
  [q_f_no, q_f_k (Int32.ofInt 0) 1, q_f_iret [1], q_f_ld 1 1 1, q_f_inv 1 [44, 1, 1, 10] 3, q_f_no, q_f_no, q_f_ld 1 2 1, q_f_inv 1 [167, 1, 3, 11] 3, q_f_no, q_f_no, q_f_ic 0 [1613] 3, q_f_no, q_f_no, q_f_k (Int32.ofInt 0) 1, q_f_iret [1]],
  [q_f_ld 1 1 1, q_f_inv 1 [16, 1, 1, 10] 3, q_f_no, q_f_no, q_f_ld 1 2 1, q_f_inv 1 [127, 1, 1, 11] 3, q_f_no, q_f_no, q_f_ic 0 [1613] 3, q_f_no, q_f_no, q_f_k (Int32.ofInt 0) 1, q_f_iret [1], q_f_ld 1 1 1, q_f_inv 1 [12, 1, 1, 10] 3, q_f_no],
  [q_f_no, q_f_ld 1 2 1, q_f_inv 1 [121, 1, 1, 11] 3, q_f_no, q_f_no, q_f_ic 0 [1613] 3, q_f_no, q_f_no, q_f_k (Int32.ofInt 0) 1, q_f_iret [1], q_f_ld 1 1 1, q_f_inv 1 [41, 1, 1, 10] 3, q_f_no, q_f_no, q_f_ld 1 2 1, q_f_inv 1 [163, 1, 1, 11] 3],
  [q_f_no, q_f_no, q_f_ic 0 [1613] 3, q_f_no, q_f_no, q_f_k (Int32.ofInt 0) 1, q_f_iret [1], q_f_ld 1 1 1, q_f_inv 1 [47, 1, 2, 10] 3, q_f_no, q_f_no, q_f_ld 1 2 1, q_f_inv 1 [170, 1, 1, 11] 3, q_f_no, q_f_no, q_f_ic 0 [1613] 3],
  [q_f_no, q_f_no, q_f_k (Int32.ofInt 0) 1, q_f_iret [1], q_f_ld 1 1 1, q_f_inv 1 [14, 1, 2, 10] 3, q_f_no, q_f_no, q_f_ld 1 2 1, q_f_inv 1 [123, 1, 1, 11] 3, q_f_no, q_f_no, q_f_ic 0 [1613] 3, q_f_no, q_f_no, q_f_k (Int32.ofInt 0) 1],
  [q_f_iret [1], q_f_ld 1 1 1, q_f_ld 1 0 1, q_f_ld 0 3 1, q_f_k (Int32.ofInt 1) 1, q_f_b2 0 1, q_f_ald 100 0 1, q_f_inv 1 [62, 2, 6, 10] 3, q_f_no, q_f_no, q_f_ld 1 2 1, q_f_ld 1 0 1, q_f_ld 0 3 1, q_f_k (Int32.ofInt 1) 1, q_f_b2 0 1, q_f_ald 100 0 1],
  [q_f_inv 1 [189, 2, 5, 11] 3, q_f_no, q_f_no, q_f_ic 0 [1613] 3, q_f_no, q_f_no, q_f_k (Int32.ofInt 0) 1, q_f_iret [1], q_f_ld 1 1 1, q_f_ld 1 0 1, q_f_ld 0 3 1, q_f_k (Int32.ofInt 1) 1, q_f_b2 0 1, q_f_ald 100 0 1, q_f_inv 1 [64, 2, 7, 10] 3, q_f_no],
  [q_f_no, q_f_ld 1 2 1, q_f_ld 1 0 1, q_f_ld 0 3 1, q_f_k (Int32.ofInt 1) 1, q_f_b2 0 1, q_f_ald 100 0 1, q_f_inv 1 [191, 2, 5, 11] 3, q_f_no, q_f_no, q_f_ic 0 [1613] 3, q_f_no, q_f_no, q_f_k (Int32.ofInt 0) 1, q_f_iret [1], q_f_ld 1 1 1],
  [q_f_ld 1 0 1, q_f_ld 0 3 1, q_f_k (Int32.ofInt 1) 1, q_f_b2 0 1, q_f_ald 100 0 1, q_f_inv 1 [24, 2, 5, 10] 3, q_f_no, q_f_no, q_f_ld 1 2 1, q_f_ld 1 0 1, q_f_ld 0 3 1, q_f_k (Int32.ofInt 1) 1, q_f_b2 0 1, q_f_ald 100 0 1, q_f_inv 1 [139, 2, 4, 11] 3, q_f_no],
  [q_f_no, q_f_ic 0 [1613] 3, q_f_no, q_f_no, q_f_k (Int32.ofInt 0) 1, q_f_iret [1], q_f_ld 1 1 1, q_f_ld 1 0 1, q_f_ld 0 3 1, q_f_k (Int32.ofInt 1) 1, q_f_b2 0 1, q_f_ald 100 0 1, q_f_inv 1 [67, 2, 8, 10] 3, q_f_no, q_f_no, q_f_ld 1 2 1],
  [q_f_ld 1 0 1, q_f_ld 0 3 1, q_f_k (Int32.ofInt 1) 1, q_f_b2 0 1, q_f_ald 100 0 1, q_f_inv 1 [194, 2, 8, 11] 3, q_f_no, q_f_no, q_f_ic 0 [1613] 3, q_f_no, q_f_no, q_f_k (Int32.ofInt 0) 1, q_f_iret [1], q_f_ld 1 1 1, q_f_ld 1 0 1, q_f_ld 0 3 1],
  [q_f_k (Int32.ofInt 1) 1, q_f_b2 0 1, q_f_ald 100 0 1, q_f_inv 1 [74, 2, 3, 10] 3, q_f_no, q_f_no, q_f_ld 1 2 1, q_f_ld 1 0 1, q_f_ld 0 3 1, q_f_k (Int32.ofInt 1) 1, q_f_b2 0 1, q_f_ald 100 0 1, q_f_inv 1 [202, 2, 2, 11] 3, q_f_no, q_f_no, q_f_ic 0 [1613] 3],
  [q_f_no, q_f_no, q_f_k (Int32.ofInt 0) 1, q_f_iret [1], q_f_ld 1 1 1, q_f_inv 1 [68, 1, 3, 10] 3, q_f_no, q_f_no, q_f_ld 1 2 1, q_f_inv 1 [196, 1, 6, 11] 3, q_f_no, q_f_no, q_f_ic 0 [1613] 3, q_f_no, q_f_no, q_f_k (Int32.ofInt 0) 1],
  [q_f_iret [1], q_f_ld 1 1 1, q_f_ld 1 0 1, q_f_ld 0 3 1, q_f_k (Int32.ofInt 1) 1, q_f_b2 0 1, q_f_ald 100 0 1, q_f_ld 1 0 1, q_f_ld 0 3 1, q_f_k (Int32.ofInt 2) 1, q_f_b2 0 1, q_f_ald 100 0 1, q_f_inv 1 [15, 3, 5, 10] 3, q_f_no, q_f_no, q_f_ld 1 2 1],
  [q_f_ld 1 0 1, q_f_ld 0 3 1, q_f_k (Int32.ofInt 1) 1, q_f_b2 0 1, q_f_ald 100 0 1, q_f_ld 1 0 1, q_f_ld 0 3 1, q_f_k (Int32.ofInt 2) 1, q_f_b2 0 1, q_f_ald 100 0 1, q_f_inv 1 [124, 3, 5, 11] 3, q_f_no, q_f_no, q_f_ic 0 [1613] 3, q_f_no, q_f_no],
  [q_f_k (Int32.ofInt 0) 1, q_f_iret [1], q_f_ld 1 1 1, q_f_ld 1 0 1, q_f_ld 0 3 1, q_f_k (Int32.ofInt 1) 1, q_f_b2 0 1, q_f_ald 100 0 1, q_f_inv 1 [23, 2, 5, 10] 3, q_f_no, q_f_no, q_f_ld 1 2 1, q_f_ld 1 0 1, q_f_ld 0 3 1, q_f_k (Int32.ofInt 1) 1, q_f_b2 0 1],
  [q_f_ald 100 0 1, q_f_inv 1 [137, 2, 4, 11] 3, q_f_no, q_f_no, q_f_ic 0 [1613] 3, q_f_no, q_f_no, q_f_k (Int32.ofInt 0) 1, q_f_iret [1], q_f_ld 1 1 1, q_f_ld 1 0 1, q_f_ld 0 3 1, q_f_k (Int32.ofInt 1) 1, q_f_b2 0 1, q_f_ald 100 0 1, q_f_ld 1 0 1],
  [q_f_ld 0 3 1, q_f_k (Int32.ofInt 2) 1, q_f_b2 0 1, q_f_ald 100 0 1, q_f_inv 1 [9, 3, 9, 10] 3, q_f_no, q_f_no, q_f_ld 1 2 1, q_f_ld 1 0 1, q_f_ld 0 3 1, q_f_k (Int32.ofInt 1) 1, q_f_b2 0 1, q_f_ald 100 0 1, q_f_ld 1 0 1, q_f_ld 0 3 1, q_f_k (Int32.ofInt 2) 1],
  [q_f_b2 0 1, q_f_ald 100 0 1, q_f_inv 1 [119, 3, 7, 11] 3, q_f_no, q_f_no, q_f_ic 0 [1613] 3, q_f_no, q_f_no, q_f_k (Int32.ofInt 0) 1, q_f_iret [1], q_f_ld 1 1 1, q_f_inv 1 [54, 1, 3, 10] 3, q_f_no, q_f_no, q_f_ld 1 2 1, q_f_inv 1 [181, 1, 4, 11] 3],
  [q_f_no, q_f_no, q_f_ic 0 [1613] 3, q_f_no, q_f_no, q_f_k (Int32.ofInt 0) 1, q_f_iret [1], q_f_ld 1 1 1, q_f_ld 1 0 1, q_f_ld 0 3 1, q_f_k (Int32.ofInt 1) 1, q_f_b2 0 1, q_f_ald 100 0 1, q_f_inv 1 [38, 2, 2, 10] 3, q_f_no, q_f_no],
  [q_f_ld 1 2 1, q_f_ld 1 0 1, q_f_ld 0 3 1, q_f_k (Int32.ofInt 1) 1, q_f_b2 0 1, q_f_ald 100 0 1, q_f_inv 1 [160, 2, 2, 11] 3, q_f_no, q_f_no, q_f_ic 0 [1613] 3, q_f_no, q_f_no, q_f_k (Int32.ofInt 0) 1, q_f_iret [1], q_f_ld 1 1 1, q_f_ld 1 0 1],
  [q_f_ld 0 3 1, q_f_k (Int32.ofInt 1) 1, q_f_b2 0 1, q_f_ald 100 0 1, q_f_ld 1 0 1, q_f_ld 0 3 1, q_f_k (Int32.ofInt 2) 1, q_f_b2 0 1, q_f_ald 100 0 1, q_f_inv 1 [33, 3, 4, 10] 3, q_f_no, q_f_no, q_f_ld 1 2 1, q_f_ld 1 0 1, q_f_ld 0 3 1, q_f_k (Int32.ofInt 1) 1],
  [q_f_b2 0 1, q_f_ald 100 0 1, q_f_ld 1 0 1, q_f_ld 0 3 1, q_f_k (Int32.ofInt 2) 1, q_f_b2 0 1, q_f_ald 100 0 1, q_f_inv 1 [152, 3, 5, 11] 3, q_f_no, q_f_no, q_f_ic 0 [1613] 3, q_f_no, q_f_no, q_f_k (Int32.ofInt 0) 1, q_f_iret [1], q_f_ld 1 1 1],
  [q_f_inv 1 [57, 1, 1, 10] 3, q_f_no, q_f_no, q_f_ld 1 2 1, q_f_inv 1 [185, 1, 1, 11] 3, q_f_no, q_f_no, q_f_ic 0 [1613] 3, q_f_no, q_f_no, q_f_k (Int32.ofInt 0) 1, q_f_iret [1], q_f_ld 1 1 1, q_f_ld 1 0 1, q_f_ld 0 3 1, q_f_k (Int32.ofInt 1) 1],
  [q_f_b2 0 1, q_f_ald 100 0 1, q_f_inv 1 [4, 2, 6, 10] 3, q_f_no, q_f_no, q_f_ld 1 2 1, q_f_ld 1 0 1, q_f_ld 0 3 1, q_f_k (Int32.ofInt 1) 1, q_f_b2 0 1, q_f_ald 100 0 1, q_f_inv 1 [114, 2, 6, 11] 3, q_f_no, q_f_no, q_f_ic 0 [1613] 3, q_f_no],
  [q_f_no, q_f_k (Int32.ofInt 0) 1, q_f_iret [1], q_f_ld 1 1 1, q_f_inv 1 [63, 1, 4, 10] 3, q_f_no, q_f_no, q_f_ld 1 2 1, q_f_inv 1 [190, 1, 3, 11] 3, q_f_no, q_f_no, q_f_ic 0 [1613] 3, q_f_no, q_f_no, q_f_k (Int32.ofInt 0) 1, q_f_iret [1]],
  [q_f_ld 1 1 1, q_f_inv 1 [21, 1, 4, 10] 3, q_f_no, q_f_no, q_f_ld 1 2 1, q_f_inv 1 [133, 1, 3, 11] 3, q_f_no, q_f_no, q_f_ic 0 [1613] 3, q_f_no, q_f_no, q_f_k (Int32.ofInt 0) 1, q_f_iret [1], q_f_ld 1 1 1, q_f_inv 1 [72, 1, 1, 10] 3, q_f_no],
  [q_f_no, q_f_ld 1 2 1, q_f_inv 1 [200, 1, 1, 11] 3, q_f_no, q_f_no, q_f_ic 0 [1613] 3, q_f_no, q_f_no, q_f_k (Int32.ofInt 0) 1, q_f_iret [1], q_f_ld 1 1 1, q_f_inv 1 [40, 1, 1, 10] 3, q_f_no, q_f_no, q_f_ld 1 2 1, q_f_inv 1 [162, 1, 1, 11] 3],
  [q_f_no, q_f_no, q_f_ic 0 [1613] 3, q_f_no, q_f_no, q_f_k (Int32.ofInt 0) 1, q_f_iret [1], q_f_ld 1 1 1, q_f_ld 1 0 1, q_f_ld 0 3 1, q_f_k (Int32.ofInt 1) 1, q_f_b2 0 1, q_f_ald 100 0 1, q_f_inv 1 [35, 2, 2, 10] 3, q_f_no, q_f_no],
  [q_f_ld 1 2 1, q_f_ld 1 0 1, q_f_ld 0 3 1, q_f_k (Int32.ofInt 1) 1, q_f_b2 0 1, q_f_ald 100 0 1, q_f_inv 1 [154, 2, 2, 11] 3, q_f_no, q_f_no, q_f_ic 0 [1613] 3, q_f_no, q_f_no, q_f_k (Int32.ofInt 0) 1, q_f_iret [1], q_f_ld 1 1 1, q_f_ld 1 0 1],
  [q_f_ld 0 3 1, q_f_k (Int32.ofInt 1) 1, q_f_b2 0 1, q_f_ald 100 0 1, q_f_ld 1 0 1, q_f_ld 0 3 1, q_f_k (Int32.ofInt 2) 1, q_f_b2 0 1, q_f_ald 100 0 1, q_f_inv 1 [45, 3, 6, 10] 3, q_f_no, q_f_no, q_f_ld 1 2 1, q_f_ld 1 0 1, q_f_ld 0 3 1, q_f_k (Int32.ofInt 1) 1],
  [q_f_b2 0 1, q_f_ald 100 0 1, q_f_ld 1 0 1, q_f_ld 0 3 1, q_f_k (Int32.ofInt 2) 1, q_f_b2 0 1, q_f_ald 100 0 1, q_f_inv 1 [169, 3, 6, 11] 3, q_f_no, q_f_no, q_f_ic 0 [1613] 3, q_f_no, q_f_no, q_f_k (Int32.ofInt 0) 1, q_f_iret [1], q_f_ld 1 1 1],
  [q_f_ld 1 0 1, q_f_ld 0 3 1, q_f_k (Int32.ofInt 1) 1, q_f_b2 0 1, q_f_ald 100 0 1, q_f_inv 1 [39, 2, 2, 10] 3, q_f_no, q_f_no, q_f_ld 1 2 1, q_f_ld 1 0 1, q_f_ld 0 3 1, q_f_k (Int32.ofInt 1) 1, q_f_b2 0 1, q_f_ald 100 0 1, q_f_inv 1 [161, 2, 2, 11] 3, q_f_no],
  [q_f_no, q_f_ic 0 [1613] 3, q_f_no, q_f_no, q_f_k (Int32.ofInt 0) 1, q_f_iret [1], q_f_ld 1 1 1, q_f_ld 1 0 1, q_f_ld 0 3 1, q_f_k (Int32.ofInt 1) 1, q_f_b2 0 1, q_f_ald 100 0 1, q_f_ld 1 0 1, q_f_ld 0 3 1, q_f_k (Int32.ofInt 2) 1, q_f_b2 0 1],
  [q_f_ald 100 0 1, q_f_ld 1 0 1, q_f_ld 0 3 1, q_f_k (Int32.ofInt 3) 1, q_f_b2 0 1, q_f_ald 100 0 1, q_f_if 0 [1373] 3, q_f_no, q_f_no, q_f_k (Int32.ofInt 1) 1, q_f_goto 1374, q_f_no, q_f_no, q_f_k (Int32.ofInt 0) 1, q_f_inv 1 [58, 4, 4, 10] 3, q_f_no],
  [q_f_no, q_f_ld 1 2 1, q_f_ld 1 0 1, q_f_ld 0 3 1, q_f_k (Int32.ofInt 1) 1, q_f_b2 0 1, q_f_ald 100 0 1, q_f_ld 1 0 1, q_f_ld 0 3 1, q_f_k (Int32.ofInt 2) 1, q_f_b2 0 1, q_f_ald 100 0 1, q_f_ld 1 0 1, q_f_ld 0 3 1, q_f_k (Int32.ofInt 3) 1, q_f_b2 0 1],
  [q_f_ald 100 0 1, q_f_if 0 [1400] 3, q_f_no, q_f_no, q_f_k (Int32.ofInt 1) 1, q_f_goto 1401, q_f_no, q_f_no, q_f_k (Int32.ofInt 0) 1, q_f_inv 1 [186, 4, 4, 11] 3, q_f_no, q_f_no, q_f_ic 0 [1613] 3, q_f_no, q_f_no, q_f_k (Int32.ofInt 0) 1],
  [q_f_iret [1], q_f_ld 1 1 1, q_f_ld 1 0 1, q_f_ld 0 3 1, q_f_k (Int32.ofInt 1) 1, q_f_b2 0 1, q_f_ald 100 0 1, q_f_inv 1 [71, 2, 2, 10] 3, q_f_no, q_f_no, q_f_ld 1 2 1, q_f_ld 1 0 1, q_f_ld 0 3 1, q_f_k (Int32.ofInt 1) 1, q_f_b2 0 1, q_f_ald 100 0 1],
  [q_f_inv 1 [199, 2, 2, 11] 3, q_f_no, q_f_no, q_f_ic 0 [1613] 3, q_f_no, q_f_no, q_f_k (Int32.ofInt 0) 1, q_f_iret [1], q_f_ld 1 1 1, q_f_ld 1 0 1, q_f_ld 0 3 1, q_f_k (Int32.ofInt 1) 1, q_f_b2 0 1, q_f_ald 100 0 1, q_f_inv 1 [34, 2, 2, 10] 3, q_f_no],
  [q_f_no, q_f_ld 1 2 1, q_f_ld 1 0 1, q_f_ld 0 3 1, q_f_k (Int32.ofInt 1) 1, q_f_b2 0 1, q_f_ald 100 0 1, q_f_inv 1 [153, 2, 2, 11] 3, q_f_no, q_f_no, q_f_ic 0 [1613] 3, q_f_no, q_f_no, q_f_k (Int32.ofInt 0) 1, q_f_iret [1], q_f_ld 1 1 1],
  [q_f_ld 1 0 1, q_f_ld 0 3 1, q_f_k (Int32.ofInt 1) 1, q_f_b2 0 1, q_f_ald 100 0 1, q_f_inv 1 [20, 2, 2, 10] 3, q_f_no, q_f_no, q_f_ld 1 2 1, q_f_ld 1 0 1, q_f_ld 0 3 1, q_f_k (Int32.ofInt 1) 1, q_f_b2 0 1, q_f_ald 100 0 1, q_f_inv 1 [132, 2, 2, 11] 3, q_f_no],
  [q_f_no, q_f_ic 0 [1613] 3, q_f_no, q_f_no, q_f_k (Int32.ofInt 0) 1, q_f_iret [1], q_f_ld 1 1 1, q_f_ld 1 0 1, q_f_ld 0 3 1, q_f_k (Int32.ofInt 1) 1, q_f_b2 0 1, q_f_ald 100 0 1, q_f_ld 1 0 1, q_f_ld 0 3 1, q_f_k (Int32.ofInt 2) 1, q_f_b2 0 1],
  [q_f_ald 100 0 1, q_f_inv 1 [66, 3, 7, 10] 3, q_f_no, q_f_no, q_f_ld 1 2 1, q_f_ld 1 0 1, q_f_ld 0 3 1, q_f_k (Int32.ofInt 1) 1, q_f_b2 0 1, q_f_ald 100 0 1, q_f_ld 1 0 1, q_f_ld 0 3 1, q_f_k (Int32.ofInt 2) 1, q_f_b2 0 1, q_f_ald 100 0 1, q_f_inv 1 [193, 3, 5, 11] 3],
  [q_f_no, q_f_no, q_f_ic 0 [1613] 3, q_f_no, q_f_no, q_f_k (Int32.ofInt 0) 1, q_f_iret [1], q_f_ld 1 1 1, q_f_ld 1 0 1, q_f_ld 0 3 1, q_f_k (Int32.ofInt 1) 1, q_f_b2 0 1, q_f_ald 100 0 1, q_f_ld 1 0 1, q_f_ld 0 3 1, q_f_k (Int32.ofInt 2) 1],
  [q_f_b2 0 1, q_f_ald 100 0 1, q_f_inv 1 [5, 3, 8, 10] 3, q_f_no, q_f_no, q_f_ld 1 2 1, q_f_ld 1 0 1, q_f_ld 0 3 1, q_f_k (Int32.ofInt 1) 1, q_f_b2 0 1, q_f_ald 100 0 1, q_f_ld 1 0 1, q_f_ld 0 3 1, q_f_k (Int32.ofInt 2) 1, q_f_b2 0 1, q_f_ald 100 0 1],
  [q_f_inv 1 [115, 3, 5, 11] 3, q_f_no, q_f_no, q_f_ic 0 [1613] 3, q_f_no, q_f_no, q_f_k (Int32.ofInt 0) 1, q_f_iret [1], q_f_ld 1 1 1, q_f_ld 1 0 1, q_f_ld 0 3 1, q_f_k (Int32.ofInt 1) 1, q_f_b2 0 1, q_f_ald 100 0 1, q_f_inv 1 [26, 2, 2, 10] 3, q_f_no],
  [q_f_no, q_f_ld 1 2 1, q_f_ld 1 0 1, q_f_ld 0 3 1, q_f_k (Int32.ofInt 1) 1, q_f_b2 0 1, q_f_ald 100 0 1, q_f_inv 1 [141, 2, 3, 11] 3, q_f_no, q_f_no, q_f_ic 0 [1613] 3, q_f_no, q_f_no, q_f_k (Int32.ofInt 0) 1, q_f_iret [1], q_f_ld 1 1 1],
  [q_f_ld 1 0 1, q_f_ld 0 3 1, q_f_k (Int32.ofInt 1) 1, q_f_b2 0 1, q_f_ald 100 0 1, q_f_inv 1 [7, 2, 2, 10] 3, q_f_no, q_f_no, q_f_ld 1 2 1, q_f_ld 1 0 1, q_f_ld 0 3 1, q_f_k (Int32.ofInt 1) 1, q_f_b2 0 1, q_f_ald 100 0 1, q_f_inv 1 [117, 2, 3, 11] 3, q_f_no],
  [q_f_no, q_f_ic 0 [1613] 3, q_f_no, q_f_no, q_f_k (Int32.ofInt 0) 1, q_f_iret [1], q_f_ld 1 1 1, q_f_ld 1 0 1, q_f_ld 0 3 1, q_f_k (Int32.ofInt 1) 1, q_f_b2 0 1, q_f_ald 100 0 1, q_f_inv 1 [1, 2, 2, 10] 3, q_f_no, q_f_no, q_f_ld 1 2 1],
  [q_f_ld 1 0 1, q_f_ld 0 3 1, q_f_k (Int32.ofInt 1) 1, q_f_b2 0 1, q_f_ald 100 0 1, q_f_inv 1 [112, 2, 2, 11] 3, q_f_no, q_f_no, q_f_ic 0 [1613] 3, q_f_no, q_f_no, q_f_k (Int32.ofInt 0) 1, q_f_iret [1], q_f_iinc 3 6 3, q_f_no, q_f_no],
  [q_f_goto 18, q_f_no, q_f_no, q_f_k (Int32.ofInt 1) 1, q_f_iret [1]]]
set_option maxRecDepth 100000 in
theorem g_el : g_fl = q_yt g_tl := rfl
noncomputable def g_fs : List (q_YT q_A (q_Rf q_A)) := [g_f0, g_f1, g_f2, g_f3, g_f4, g_f5, g_f6, g_f7, g_f8, g_f9, g_f10, g_f11, g_f12, g_f13, g_f14, g_f15, g_f16, g_f17, g_f18, g_f19, g_f20, g_f21, g_f22, g_f23, g_f24, g_f25, g_f26, g_f27, g_f28, g_f29, g_f30, g_f31, g_f32, g_f33, g_f34, g_f35, g_f36, g_f37, g_f38, g_f39, g_f40, g_f41, g_f42, g_f43, g_f44, g_f45, g_f46, g_f47, g_f48, g_f49, g_f50, g_f51, g_f52, g_f53, g_f54, g_f55, g_f56, g_f57, g_f58, g_f59, g_f60, g_f61, g_f62, g_f63, g_f64, g_f65, g_f66, g_f67, g_f68, g_f69, g_f70, g_f71, g_f72, g_f73, g_f74, g_f75, g_f76, g_f77, g_f78, g_f79, g_f80, g_f81, g_f82, g_f83, g_f84, g_f85, g_f86, g_f87, g_f88, g_f89, g_f90, g_f91, g_f92, g_f93, g_f94, g_f95, g_f96, g_f97, g_f98, g_f99, g_f100, g_f101, g_f102, g_f103, g_f104, g_f105, g_f106, g_f107, g_f108, g_f109, g_f110, g_f111, g_f112, g_f113, g_f114, g_f115, g_f116, g_f117, g_f118, g_f119, g_f120, g_f121, g_f122, g_f123, g_f124, g_f125, g_f126, g_f127, g_f128, g_f129, g_f130, g_f131, g_f132, g_f133, g_f134, g_f135, g_f136, g_f137, g_f138, g_f139, g_f140, g_f141, g_f142, g_f143, g_f144, g_f145, g_f146, g_f147, g_f148, g_f149, g_f150, g_f151, g_f152, g_f153, g_f154, g_f155, g_f156, g_f157, g_f158, g_f159, g_f160, g_f161, g_f162, g_f163, g_f164, g_f165, g_f166, g_f167, g_f168, g_f169, g_f170, g_f171, g_f172, g_f173, g_f174, g_f175, g_f176, g_f177, g_f178, g_f179, g_f180, g_f181, g_f182, g_f183, g_f184, g_f185, g_f186, g_f187, g_f188, g_f189, g_f190, g_f191, g_f192, g_f193, g_f194, g_f195, g_f196, g_f197, g_f198, g_f199, g_f200, g_f201, g_f202, g_f203, g_f204]
end
section
def g_end (s : Option (q_Sf q_A)) : Bool := match s with
  | some s => (match s.2.2.1 with
    | [.inl (.inl x)] => Nat.beq x 1 && (Nat.ble s.2.2.2.1.1 600000 && Nat.ble s.2.2.2.2 7302250)
    | _ => false)
  | none => false
set_option maxRecDepth 100000 in
theorem g_test1 : g_end (q_ftill (q_OA q_K0) (some [.inl 25, .inl 0, .inl 0, .inl 0, .inl 0, .inl 0]) g_fs 100000 8 g_fl 1620 100 0 [(0, .inr (.inr 1))] [] (0, q_m0) 0) = true := by decide +kernel
end
