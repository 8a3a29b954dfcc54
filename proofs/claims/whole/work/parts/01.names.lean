-- ===== PART A: goes FIRST, ahead of the names: the tables' words, and 'selects' of the private methods out of them =====
/-- a private method of a class that the tables say can be made, by its rows of tables_1 -/
def lw_okq (q : MethodName × Nat) : Prop := (q.1.cls ≠ "java/lang/invoke/MethodHandle" ∧ q.1.cls ≠ "java/lang/invoke/VarHandle") ∧ Cond.instantiable q.1.cls q.2 ∈ tables_1 ∧ Cond.privateMethod q.1 ∈ tables_1 ∧ Cond.instanceMethod q.1 ∈ tables_1
theorem lw_p0 : lw_okq (⟨"CountyCream$Lab", "isKnown", "(II)Z"⟩, 3) := ⟨⟨by decide +kernel, by decide +kernel⟩, List.mem_of_getElem? (i := 158) (by decide +kernel), List.mem_of_getElem? (i := 463) (by decide +kernel), List.mem_of_getElem? (i := 464) (by decide +kernel)⟩
theorem lw_p1 : lw_okq (⟨"CountyCream$Lab", "numberKnown", "(II)I"⟩, 3) := ⟨⟨by decide +kernel, by decide +kernel⟩, List.mem_of_getElem? (i := 158) (by decide +kernel), List.mem_of_getElem? (i := 468) (by decide +kernel), List.mem_of_getElem? (i := 469) (by decide +kernel)⟩
theorem lw_p2 : lw_okq (⟨"CountyCream$Lab", "latestAheadOf", "(II)I"⟩, 3) := ⟨⟨by decide +kernel, by decide +kernel⟩, List.mem_of_getElem? (i := 158) (by decide +kernel), List.mem_of_getElem? (i := 472) (by decide +kernel), List.mem_of_getElem? (i := 473) (by decide +kernel)⟩
theorem lw_p3 : lw_okq (⟨"CountyCream$Lab", "isAhead", "(II)Z"⟩, 3) := ⟨⟨by decide +kernel, by decide +kernel⟩, List.mem_of_getElem? (i := 158) (by decide +kernel), List.mem_of_getElem? (i := 476) (by decide +kernel), List.mem_of_getElem? (i := 477) (by decide +kernel)⟩
theorem lw_p4 : lw_okq (⟨"CountyCream$Reader", "signAt", "(I)I"⟩, 14) := ⟨⟨by decide +kernel, by decide +kernel⟩, List.mem_of_getElem? (i := 188) (by decide +kernel), List.mem_of_getElem? (i := 644) (by decide +kernel), List.mem_of_getElem? (i := 645) (by decide +kernel)⟩
theorem lw_p5 : lw_okq (⟨"CountyCream$Reader", "readNumber", "(I)I"⟩, 14) := ⟨⟨by decide +kernel, by decide +kernel⟩, List.mem_of_getElem? (i := 188) (by decide +kernel), List.mem_of_getElem? (i := 651) (by decide +kernel), List.mem_of_getElem? (i := 652) (by decide +kernel)⟩
theorem lw_p6 : lw_okq (⟨"CountyCream$Reader", "stop", "(II)V"⟩, 14) := ⟨⟨by decide +kernel, by decide +kernel⟩, List.mem_of_getElem? (i := 188) (by decide +kernel), List.mem_of_getElem? (i := 657) (by decide +kernel), List.mem_of_getElem? (i := 658) (by decide +kernel)⟩
theorem lw_p7 : lw_okq (⟨"CountyCream$Reader", "endUnit", "(J)V"⟩, 14) := ⟨⟨by decide +kernel, by decide +kernel⟩, List.mem_of_getElem? (i := 188) (by decide +kernel), List.mem_of_getElem? (i := 661) (by decide +kernel), List.mem_of_getElem? (i := 662) (by decide +kernel)⟩
theorem lw_p8 : lw_okq (⟨"CountyCream$Reader", "topMark", "()I"⟩, 14) := ⟨⟨by decide +kernel, by decide +kernel⟩, List.mem_of_getElem? (i := 188) (by decide +kernel), List.mem_of_getElem? (i := 665) (by decide +kernel), List.mem_of_getElem? (i := 666) (by decide +kernel)⟩
theorem lw_p9 : lw_okq (⟨"CountyCream$Reader", "popMark", "()Z"⟩, 14) := ⟨⟨by decide +kernel, by decide +kernel⟩, List.mem_of_getElem? (i := 188) (by decide +kernel), List.mem_of_getElem? (i := 670) (by decide +kernel), List.mem_of_getElem? (i := 671) (by decide +kernel)⟩
theorem lw_p10 : lw_okq (⟨"CountyCream$Reader", "pushValue", "(J)V"⟩, 14) := ⟨⟨by decide +kernel, by decide +kernel⟩, List.mem_of_getElem? (i := 188) (by decide +kernel), List.mem_of_getElem? (i := 674) (by decide +kernel), List.mem_of_getElem? (i := 675) (by decide +kernel)⟩
theorem lw_p11 : lw_okq (⟨"CountyCream$Reader", "readUnit", "(II)V"⟩, 14) := ⟨⟨by decide +kernel, by decide +kernel⟩, List.mem_of_getElem? (i := 188) (by decide +kernel), List.mem_of_getElem? (i := 678) (by decide +kernel), List.mem_of_getElem? (i := 679) (by decide +kernel)⟩
theorem lw_p12 : lw_okq (⟨"CountyCream$Reader", "pushMark", "(IZ)V"⟩, 14) := ⟨⟨by decide +kernel, by decide +kernel⟩, List.mem_of_getElem? (i := 188) (by decide +kernel), List.mem_of_getElem? (i := 682) (by decide +kernel), List.mem_of_getElem? (i := 683) (by decide +kernel)⟩
theorem lw_p13 : lw_okq (⟨"CountyCream$Reader", "readQuestion", "()V"⟩, 14) := ⟨⟨by decide +kernel, by decide +kernel⟩, List.mem_of_getElem? (i := 188) (by decide +kernel), List.mem_of_getElem? (i := 689) (by decide +kernel), List.mem_of_getElem? (i := 690) (by decide +kernel)⟩
theorem lw_p14 : lw_okq (⟨"CountyCream$Reader", "settle", "(I)V"⟩, 14) := ⟨⟨by decide +kernel, by decide +kernel⟩, List.mem_of_getElem? (i := 188) (by decide +kernel), List.mem_of_getElem? (i := 693) (by decide +kernel), List.mem_of_getElem? (i := 694) (by decide +kernel)⟩
theorem lw_p15 : lw_okq (⟨"CountyCream$Reader", "popValue", "()J"⟩, 14) := ⟨⟨by decide +kernel, by decide +kernel⟩, List.mem_of_getElem? (i := 188) (by decide +kernel), List.mem_of_getElem? (i := 700) (by decide +kernel), List.mem_of_getElem? (i := 701) (by decide +kernel)⟩
def lw_privs_1 : List (MethodName × Nat) := [(⟨"CountyCream$Lab", "isKnown", "(II)Z"⟩, 3), (⟨"CountyCream$Lab", "numberKnown", "(II)I"⟩, 3), (⟨"CountyCream$Lab", "latestAheadOf", "(II)I"⟩, 3), (⟨"CountyCream$Lab", "isAhead", "(II)Z"⟩, 3), (⟨"CountyCream$Reader", "signAt", "(I)I"⟩, 14), (⟨"CountyCream$Reader", "readNumber", "(I)I"⟩, 14), (⟨"CountyCream$Reader", "stop", "(II)V"⟩, 14), (⟨"CountyCream$Reader", "endUnit", "(J)V"⟩, 14), (⟨"CountyCream$Reader", "topMark", "()I"⟩, 14), (⟨"CountyCream$Reader", "popMark", "()Z"⟩, 14), (⟨"CountyCream$Reader", "pushValue", "(J)V"⟩, 14), (⟨"CountyCream$Reader", "readUnit", "(II)V"⟩, 14), (⟨"CountyCream$Reader", "pushMark", "(IZ)V"⟩, 14), (⟨"CountyCream$Reader", "readQuestion", "()V"⟩, 14), (⟨"CountyCream$Reader", "settle", "(I)V"⟩, 14), (⟨"CountyCream$Reader", "popValue", "()J"⟩, 14)]
theorem lw_r1 : ∀ q ∈ lw_privs_1, lw_okq q := List.forall_mem_cons.mpr ⟨lw_p0, List.forall_mem_cons.mpr ⟨lw_p1, List.forall_mem_cons.mpr ⟨lw_p2, List.forall_mem_cons.mpr ⟨lw_p3, List.forall_mem_cons.mpr ⟨lw_p4, List.forall_mem_cons.mpr ⟨lw_p5, List.forall_mem_cons.mpr ⟨lw_p6, List.forall_mem_cons.mpr ⟨lw_p7, List.forall_mem_cons.mpr ⟨lw_p8, List.forall_mem_cons.mpr ⟨lw_p9, List.forall_mem_cons.mpr ⟨lw_p10, List.forall_mem_cons.mpr ⟨lw_p11, List.forall_mem_cons.mpr ⟨lw_p12, List.forall_mem_cons.mpr ⟨lw_p13, List.forall_mem_cons.mpr ⟨lw_p14, List.forall_mem_cons.mpr ⟨lw_p15, fun _ h => absurd h List.not_mem_nil⟩⟩⟩⟩⟩⟩⟩⟩⟩⟩⟩⟩⟩⟩⟩⟩
theorem lw_p16 : lw_okq (⟨"CountyCream$Reader", "made", "(IJJ)J"⟩, 14) := ⟨⟨by decide +kernel, by decide +kernel⟩, List.mem_of_getElem? (i := 188) (by decide +kernel), List.mem_of_getElem? (i := 704) (by decide +kernel), List.mem_of_getElem? (i := 705) (by decide +kernel)⟩
theorem lw_p17 : lw_okq (⟨"CountyCream$Reader", "readElse", "(I)V"⟩, 14) := ⟨⟨by decide +kernel, by decide +kernel⟩, List.mem_of_getElem? (i := 188) (by decide +kernel), List.mem_of_getElem? (i := 708) (by decide +kernel), List.mem_of_getElem? (i := 709) (by decide +kernel)⟩
theorem lw_p18 : lw_okq (⟨"CountyCream$Reader", "endChoices", "()V"⟩, 14) := ⟨⟨by decide +kernel, by decide +kernel⟩, List.mem_of_getElem? (i := 188) (by decide +kernel), List.mem_of_getElem? (i := 712) (by decide +kernel), List.mem_of_getElem? (i := 713) (by decide +kernel)⟩
theorem lw_p19 : lw_okq (⟨"CountyCream$Reader", "readClose", "(I)V"⟩, 14) := ⟨⟨by decide +kernel, by decide +kernel⟩, List.mem_of_getElem? (i := 188) (by decide +kernel), List.mem_of_getElem? (i := 716) (by decide +kernel), List.mem_of_getElem? (i := 717) (by decide +kernel)⟩
theorem lw_p20 : lw_okq (⟨"CountyCream$Reader", "readJoin", "(II)V"⟩, 14) := ⟨⟨by decide +kernel, by decide +kernel⟩, List.mem_of_getElem? (i := 188) (by decide +kernel), List.mem_of_getElem? (i := 720) (by decide +kernel), List.mem_of_getElem? (i := 721) (by decide +kernel)⟩
theorem lw_p21 : lw_okq (⟨"CountyCream$Reader", "topValue", "()J"⟩, 14) := ⟨⟨by decide +kernel, by decide +kernel⟩, List.mem_of_getElem? (i := 188) (by decide +kernel), List.mem_of_getElem? (i := 724) (by decide +kernel), List.mem_of_getElem? (i := 725) (by decide +kernel)⟩
theorem lw_p22 : lw_okq (⟨"CountyCream$Reader", "readEnd", "()V"⟩, 14) := ⟨⟨by decide +kernel, by decide +kernel⟩, List.mem_of_getElem? (i := 188) (by decide +kernel), List.mem_of_getElem? (i := 728) (by decide +kernel), List.mem_of_getElem? (i := 729) (by decide +kernel)⟩
theorem lw_p23 : lw_okq (⟨"CountyCream$Payday", "gatherCan", "(II)V"⟩, 10) := ⟨⟨by decide +kernel, by decide +kernel⟩, List.mem_of_getElem? (i := 255) (by decide +kernel), List.mem_of_getElem? (i := 748) (by decide +kernel), List.mem_of_getElem? (i := 749) (by decide +kernel)⟩
theorem lw_p24 : lw_okq (⟨"CountyCream$Payday", "rankOfWeight", "(I)I"⟩, 10) := ⟨⟨by decide +kernel, by decide +kernel⟩, List.mem_of_getElem? (i := 255) (by decide +kernel), List.mem_of_getElem? (i := 764) (by decide +kernel), List.mem_of_getElem? (i := 765) (by decide +kernel)⟩
theorem lw_p25 : lw_okq (⟨"CountyCream$Ballot", "votesOf", "(II)I"⟩, 2) := ⟨⟨by decide +kernel, by decide +kernel⟩, List.mem_of_getElem? (i := 242) (by decide +kernel), List.mem_of_getElem? (i := 797) (by decide +kernel), List.mem_of_getElem? (i := 798) (by decide +kernel)⟩
theorem lw_p26 : lw_okq (⟨"CountyCream$Ballot", "isPassed", "(I)Z"⟩, 2) := ⟨⟨by decide +kernel, by decide +kernel⟩, List.mem_of_getElem? (i := 242) (by decide +kernel), List.mem_of_getElem? (i := 801) (by decide +kernel), List.mem_of_getElem? (i := 802) (by decide +kernel)⟩
theorem lw_p27 : lw_okq (⟨"CountyCream$Lab", "meanBefore", "(II)I"⟩, 3) := ⟨⟨by decide +kernel, by decide +kernel⟩, List.mem_of_getElem? (i := 158) (by decide +kernel), List.mem_of_getElem? (i := 858) (by decide +kernel), List.mem_of_getElem? (i := 859) (by decide +kernel)⟩
theorem lw_p28 : lw_okq (⟨"CountyCream$Cart", "takeStops", "(I)V"⟩, 8) := ⟨⟨by decide +kernel, by decide +kernel⟩, List.mem_of_getElem? (i := 293) (by decide +kernel), List.mem_of_getElem? (i := 883) (by decide +kernel), List.mem_of_getElem? (i := 884) (by decide +kernel)⟩
theorem lw_p29 : lw_okq (⟨"CountyCream$Cart", "findRests", "()V"⟩, 8) := ⟨⟨by decide +kernel, by decide +kernel⟩, List.mem_of_getElem? (i := 293) (by decide +kernel), List.mem_of_getElem? (i := 896) (by decide +kernel), List.mem_of_getElem? (i := 897) (by decide +kernel)⟩
theorem lw_p30 : lw_okq (⟨"CountyCream$Cart", "fewestFrom", "(II)I"⟩, 8) := ⟨⟨by decide +kernel, by decide +kernel⟩, List.mem_of_getElem? (i := 293) (by decide +kernel), List.mem_of_getElem? (i := 900) (by decide +kernel), List.mem_of_getElem? (i := 901) (by decide +kernel)⟩
theorem lw_p31 : lw_okq (⟨"CountyCream$Cart", "homeOf", "(I)I"⟩, 8) := ⟨⟨by decide +kernel, by decide +kernel⟩, List.mem_of_getElem? (i := 293) (by decide +kernel), List.mem_of_getElem? (i := 904) (by decide +kernel), List.mem_of_getElem? (i := 905) (by decide +kernel)⟩
def lw_privs_2 : List (MethodName × Nat) := [(⟨"CountyCream$Reader", "made", "(IJJ)J"⟩, 14), (⟨"CountyCream$Reader", "readElse", "(I)V"⟩, 14), (⟨"CountyCream$Reader", "endChoices", "()V"⟩, 14), (⟨"CountyCream$Reader", "readClose", "(I)V"⟩, 14), (⟨"CountyCream$Reader", "readJoin", "(II)V"⟩, 14), (⟨"CountyCream$Reader", "topValue", "()J"⟩, 14), (⟨"CountyCream$Reader", "readEnd", "()V"⟩, 14), (⟨"CountyCream$Payday", "gatherCan", "(II)V"⟩, 10), (⟨"CountyCream$Payday", "rankOfWeight", "(I)I"⟩, 10), (⟨"CountyCream$Ballot", "votesOf", "(II)I"⟩, 2), (⟨"CountyCream$Ballot", "isPassed", "(I)Z"⟩, 2), (⟨"CountyCream$Lab", "meanBefore", "(II)I"⟩, 3), (⟨"CountyCream$Cart", "takeStops", "(I)V"⟩, 8), (⟨"CountyCream$Cart", "findRests", "()V"⟩, 8), (⟨"CountyCream$Cart", "fewestFrom", "(II)I"⟩, 8), (⟨"CountyCream$Cart", "homeOf", "(I)I"⟩, 8)]
theorem lw_r2 : ∀ q ∈ lw_privs_2, lw_okq q := List.forall_mem_cons.mpr ⟨lw_p16, List.forall_mem_cons.mpr ⟨lw_p17, List.forall_mem_cons.mpr ⟨lw_p18, List.forall_mem_cons.mpr ⟨lw_p19, List.forall_mem_cons.mpr ⟨lw_p20, List.forall_mem_cons.mpr ⟨lw_p21, List.forall_mem_cons.mpr ⟨lw_p22, List.forall_mem_cons.mpr ⟨lw_p23, List.forall_mem_cons.mpr ⟨lw_p24, List.forall_mem_cons.mpr ⟨lw_p25, List.forall_mem_cons.mpr ⟨lw_p26, List.forall_mem_cons.mpr ⟨lw_p27, List.forall_mem_cons.mpr ⟨lw_p28, List.forall_mem_cons.mpr ⟨lw_p29, List.forall_mem_cons.mpr ⟨lw_p30, List.forall_mem_cons.mpr ⟨lw_p31, fun _ h => absurd h List.not_mem_nil⟩⟩⟩⟩⟩⟩⟩⟩⟩⟩⟩⟩⟩⟩⟩⟩
theorem lw_p32 : lw_okq (⟨"CountyCream$Cart", "milesBy", "(III)I"⟩, 8) := ⟨⟨by decide +kernel, by decide +kernel⟩, List.mem_of_getElem? (i := 293) (by decide +kernel), List.mem_of_getElem? (i := 909) (by decide +kernel), List.mem_of_getElem? (i := 910) (by decide +kernel)⟩
theorem lw_p33 : lw_okq (⟨"CountyCream$Cart", "restOf", "(II)I"⟩, 8) := ⟨⟨by decide +kernel, by decide +kernel⟩, List.mem_of_getElem? (i := 293) (by decide +kernel), List.mem_of_getElem? (i := 913) (by decide +kernel), List.mem_of_getElem? (i := 914) (by decide +kernel)⟩
theorem lw_p34 : lw_okq (⟨"CountyCream$Cart", "firstStop", "()I"⟩, 8) := ⟨⟨by decide +kernel, by decide +kernel⟩, List.mem_of_getElem? (i := 293) (by decide +kernel), List.mem_of_getElem? (i := 918) (by decide +kernel), List.mem_of_getElem? (i := 919) (by decide +kernel)⟩
theorem lw_p35 : lw_okq (⟨"CountyCream$Cart", "allBut", "(I)I"⟩, 8) := ⟨⟨by decide +kernel, by decide +kernel⟩, List.mem_of_getElem? (i := 293) (by decide +kernel), List.mem_of_getElem? (i := 922) (by decide +kernel), List.mem_of_getElem? (i := 923) (by decide +kernel)⟩
theorem lw_p36 : lw_okq (⟨"CountyCream$Cart", "findOrder", "(I)V"⟩, 8) := ⟨⟨by decide +kernel, by decide +kernel⟩, List.mem_of_getElem? (i := 293) (by decide +kernel), List.mem_of_getElem? (i := 926) (by decide +kernel), List.mem_of_getElem? (i := 927) (by decide +kernel)⟩
theorem lw_p37 : lw_okq (⟨"CountyCream$Cart", "nextStop", "(II)I"⟩, 8) := ⟨⟨by decide +kernel, by decide +kernel⟩, List.mem_of_getElem? (i := 293) (by decide +kernel), List.mem_of_getElem? (i := 931) (by decide +kernel), List.mem_of_getElem? (i := 932) (by decide +kernel)⟩
theorem lw_p38 : lw_okq (⟨"CountyCream$Blend", "allCreams", "()I"⟩, 6) := ⟨⟨by decide +kernel, by decide +kernel⟩, List.mem_of_getElem? (i := 325) (by decide +kernel), List.mem_of_getElem? (i := 959) (by decide +kernel), List.mem_of_getElem? (i := 960) (by decide +kernel)⟩
theorem lw_p39 : lw_okq (⟨"CountyCream$Blend", "lossAsHeap", "(I)J"⟩, 6) := ⟨⟨by decide +kernel, by decide +kernel⟩, List.mem_of_getElem? (i := 325) (by decide +kernel), List.mem_of_getElem? (i := 972) (by decide +kernel), List.mem_of_getElem? (i := 973) (by decide +kernel)⟩
theorem lw_p40 : lw_okq (⟨"CountyCream$Blend", "planSet", "(II)V"⟩, 6) := ⟨⟨by decide +kernel, by decide +kernel⟩, List.mem_of_getElem? (i := 325) (by decide +kernel), List.mem_of_getElem? (i := 982) (by decide +kernel), List.mem_of_getElem? (i := 983) (by decide +kernel)⟩
theorem lw_p41 : lw_okq (⟨"CountyCream$Blend", "tryHeap", "(II)V"⟩, 6) := ⟨⟨by decide +kernel, by decide +kernel⟩, List.mem_of_getElem? (i := 325) (by decide +kernel), List.mem_of_getElem? (i := 986) (by decide +kernel), List.mem_of_getElem? (i := 987) (by decide +kernel)⟩
theorem lw_p42 : lw_okq (⟨"CountyCream$Blend", "isBetter", "(IJIJ)Z"⟩, 6) := ⟨⟨by decide +kernel, by decide +kernel⟩, List.mem_of_getElem? (i := 325) (by decide +kernel), List.mem_of_getElem? (i := 990) (by decide +kernel), List.mem_of_getElem? (i := 991) (by decide +kernel)⟩
theorem lw_p43 : lw_okq (⟨"CountyCream$Yard", "costOf", "(I)J"⟩, 3) := ⟨⟨by decide +kernel, by decide +kernel⟩, List.mem_of_getElem? (i := 350) (by decide +kernel), List.mem_of_getElem? (i := 1035) (by decide +kernel), List.mem_of_getElem? (i := 1036) (by decide +kernel)⟩
theorem lw_p44 : lw_okq (⟨"CountyCream", "digestOfTexts", "(J)J"⟩, 11) := ⟨⟨by decide +kernel, by decide +kernel⟩, List.mem_of_getElem? (i := 19) (by decide +kernel), List.mem_of_getElem? (i := 1108) (by decide +kernel), List.mem_of_getElem? (i := 1109) (by decide +kernel)⟩
theorem lw_p45 : lw_okq (⟨"CountyCreamModel", "more", "(I)I"⟩, 31) := ⟨⟨by decide +kernel, by decide +kernel⟩, List.mem_of_getElem? (i := 1112) (by decide +kernel), List.mem_of_getElem? (i := 1218) (by decide +kernel), List.mem_of_getElem? (i := 1219) (by decide +kernel)⟩
theorem lw_p46 : lw_okq (⟨"CountyCreamModel", "is", "(II)Z"⟩, 31) := ⟨⟨by decide +kernel, by decide +kernel⟩, List.mem_of_getElem? (i := 1112) (by decide +kernel), List.mem_of_getElem? (i := 1226) (by decide +kernel), List.mem_of_getElem? (i := 1227) (by decide +kernel)⟩
theorem lw_p47 : lw_okq (⟨"CountyCreamModel", "rateOf", "(II)I"⟩, 31) := ⟨⟨by decide +kernel, by decide +kernel⟩, List.mem_of_getElem? (i := 1112) (by decide +kernel), List.mem_of_getElem? (i := 1257) (by decide +kernel), List.mem_of_getElem? (i := 1258) (by decide +kernel)⟩
def lw_privs_3 : List (MethodName × Nat) := [(⟨"CountyCream$Cart", "milesBy", "(III)I"⟩, 8), (⟨"CountyCream$Cart", "restOf", "(II)I"⟩, 8), (⟨"CountyCream$Cart", "firstStop", "()I"⟩, 8), (⟨"CountyCream$Cart", "allBut", "(I)I"⟩, 8), (⟨"CountyCream$Cart", "findOrder", "(I)V"⟩, 8), (⟨"CountyCream$Cart", "nextStop", "(II)I"⟩, 8), (⟨"CountyCream$Blend", "allCreams", "()I"⟩, 6), (⟨"CountyCream$Blend", "lossAsHeap", "(I)J"⟩, 6), (⟨"CountyCream$Blend", "planSet", "(II)V"⟩, 6), (⟨"CountyCream$Blend", "tryHeap", "(II)V"⟩, 6), (⟨"CountyCream$Blend", "isBetter", "(IJIJ)Z"⟩, 6), (⟨"CountyCream$Yard", "costOf", "(I)J"⟩, 3), (⟨"CountyCream", "digestOfTexts", "(J)J"⟩, 11), (⟨"CountyCreamModel", "more", "(I)I"⟩, 31), (⟨"CountyCreamModel", "is", "(II)Z"⟩, 31), (⟨"CountyCreamModel", "rateOf", "(II)I"⟩, 31)]
theorem lw_r3 : ∀ q ∈ lw_privs_3, lw_okq q := List.forall_mem_cons.mpr ⟨lw_p32, List.forall_mem_cons.mpr ⟨lw_p33, List.forall_mem_cons.mpr ⟨lw_p34, List.forall_mem_cons.mpr ⟨lw_p35, List.forall_mem_cons.mpr ⟨lw_p36, List.forall_mem_cons.mpr ⟨lw_p37, List.forall_mem_cons.mpr ⟨lw_p38, List.forall_mem_cons.mpr ⟨lw_p39, List.forall_mem_cons.mpr ⟨lw_p40, List.forall_mem_cons.mpr ⟨lw_p41, List.forall_mem_cons.mpr ⟨lw_p42, List.forall_mem_cons.mpr ⟨lw_p43, List.forall_mem_cons.mpr ⟨lw_p44, List.forall_mem_cons.mpr ⟨lw_p45, List.forall_mem_cons.mpr ⟨lw_p46, List.forall_mem_cons.mpr ⟨lw_p47, fun _ h => absurd h List.not_mem_nil⟩⟩⟩⟩⟩⟩⟩⟩⟩⟩⟩⟩⟩⟩⟩⟩
theorem lw_p48 : lw_okq (⟨"CountyCreamModel", "isKnown", "(II)Z"⟩, 31) := ⟨⟨by decide +kernel, by decide +kernel⟩, List.mem_of_getElem? (i := 1112) (by decide +kernel), List.mem_of_getElem? (i := 1261) (by decide +kernel), List.mem_of_getElem? (i := 1262) (by decide +kernel)⟩
theorem lw_p49 : lw_okq (⟨"CountyCreamModel", "numberOf", "(II)I"⟩, 31) := ⟨⟨by decide +kernel, by decide +kernel⟩, List.mem_of_getElem? (i := 1112) (by decide +kernel), List.mem_of_getElem? (i := 1265) (by decide +kernel), List.mem_of_getElem? (i := 1266) (by decide +kernel)⟩
theorem lw_p50 : lw_okq (⟨"CountyCreamModel", "leant", "(II)I"⟩, 31) := ⟨⟨by decide +kernel, by decide +kernel⟩, List.mem_of_getElem? (i := 1112) (by decide +kernel), List.mem_of_getElem? (i := 1269) (by decide +kernel), List.mem_of_getElem? (i := 1270) (by decide +kernel)⟩
theorem lw_p51 : lw_okq (⟨"CountyCreamModel", "isAhead", "(II)Z"⟩, 31) := ⟨⟨by decide +kernel, by decide +kernel⟩, List.mem_of_getElem? (i := 1112) (by decide +kernel), List.mem_of_getElem? (i := 1273) (by decide +kernel), List.mem_of_getElem? (i := 1274) (by decide +kernel)⟩
theorem lw_p52 : lw_okq (⟨"CountyCreamModel", "findRates", "(I)V"⟩, 31) := ⟨⟨by decide +kernel, by decide +kernel⟩, List.mem_of_getElem? (i := 1112) (by decide +kernel), List.mem_of_getElem? (i := 1281) (by decide +kernel), List.mem_of_getElem? (i := 1282) (by decide +kernel)⟩
theorem lw_p53 : lw_okq (⟨"CountyCreamModel", "rateOfCan", "(I)I"⟩, 31) := ⟨⟨by decide +kernel, by decide +kernel⟩, List.mem_of_getElem? (i := 1112) (by decide +kernel), List.mem_of_getElem? (i := 1285) (by decide +kernel), List.mem_of_getElem? (i := 1286) (by decide +kernel)⟩
theorem lw_p54 : lw_okq (⟨"CountyCreamModel", "farmRate", "(II)I"⟩, 31) := ⟨⟨by decide +kernel, by decide +kernel⟩, List.mem_of_getElem? (i := 1112) (by decide +kernel), List.mem_of_getElem? (i := 1289) (by decide +kernel), List.mem_of_getElem? (i := 1290) (by decide +kernel)⟩
theorem lw_p55 : lw_okq (⟨"CountyCreamModel", "fatOf", "(I)J"⟩, 31) := ⟨⟨by decide +kernel, by decide +kernel⟩, List.mem_of_getElem? (i := 1112) (by decide +kernel), List.mem_of_getElem? (i := 1301) (by decide +kernel), List.mem_of_getElem? (i := 1302) (by decide +kernel)⟩
theorem lw_p56 : lw_okq (⟨"CountyCreamModel", "cansOf", "(I)I"⟩, 31) := ⟨⟨by decide +kernel, by decide +kernel⟩, List.mem_of_getElem? (i := 1112) (by decide +kernel), List.mem_of_getElem? (i := 1317) (by decide +kernel), List.mem_of_getElem? (i := 1318) (by decide +kernel)⟩
theorem lw_p57 : lw_okq (⟨"CountyCreamModel", "lossOf", "(I)I"⟩, 31) := ⟨⟨by decide +kernel, by decide +kernel⟩, List.mem_of_getElem? (i := 1112) (by decide +kernel), List.mem_of_getElem? (i := 1321) (by decide +kernel), List.mem_of_getElem? (i := 1322) (by decide +kernel)⟩
theorem lw_p58 : lw_okq (⟨"CountyCreamModel", "churnFat", "(II)J"⟩, 31) := ⟨⟨by decide +kernel, by decide +kernel⟩, List.mem_of_getElem? (i := 1112) (by decide +kernel), List.mem_of_getElem? (i := 1328) (by decide +kernel), List.mem_of_getElem? (i := 1329) (by decide +kernel)⟩
theorem lw_p59 : lw_okq (⟨"CountyCreamModel", "butter", "(I)J"⟩, 31) := ⟨⟨by decide +kernel, by decide +kernel⟩, List.mem_of_getElem? (i := 1112) (by decide +kernel), List.mem_of_getElem? (i := 1332) (by decide +kernel), List.mem_of_getElem? (i := 1333) (by decide +kernel)⟩
theorem lw_p60 : lw_okq (⟨"CountyCreamModel", "agrees", "(I)I"⟩, 31) := ⟨⟨by decide +kernel, by decide +kernel⟩, List.mem_of_getElem? (i := 1112) (by decide +kernel), List.mem_of_getElem? (i := 1337) (by decide +kernel), List.mem_of_getElem? (i := 1338) (by decide +kernel)⟩
theorem lw_p61 : lw_okq (⟨"CountyCreamModel", "boxesOf", "(I)I"⟩, 31) := ⟨⟨by decide +kernel, by decide +kernel⟩, List.mem_of_getElem? (i := 1112) (by decide +kernel), List.mem_of_getElem? (i := 1342) (by decide +kernel), List.mem_of_getElem? (i := 1343) (by decide +kernel)⟩
theorem lw_p62 : lw_okq (⟨"CountyCreamModel", "penceOf", "(II)J"⟩, 31) := ⟨⟨by decide +kernel, by decide +kernel⟩, List.mem_of_getElem? (i := 1112) (by decide +kernel), List.mem_of_getElem? (i := 1346) (by decide +kernel), List.mem_of_getElem? (i := 1347) (by decide +kernel)⟩
theorem lw_p63 : lw_okq (⟨"CountyCreamModel", "reads", "(I)I"⟩, 31) := ⟨⟨by decide +kernel, by decide +kernel⟩, List.mem_of_getElem? (i := 1112) (by decide +kernel), List.mem_of_getElem? (i := 1396) (by decide +kernel), List.mem_of_getElem? (i := 1397) (by decide +kernel)⟩
def lw_privs_4 : List (MethodName × Nat) := [(⟨"CountyCreamModel", "isKnown", "(II)Z"⟩, 31), (⟨"CountyCreamModel", "numberOf", "(II)I"⟩, 31), (⟨"CountyCreamModel", "leant", "(II)I"⟩, 31), (⟨"CountyCreamModel", "isAhead", "(II)Z"⟩, 31), (⟨"CountyCreamModel", "findRates", "(I)V"⟩, 31), (⟨"CountyCreamModel", "rateOfCan", "(I)I"⟩, 31), (⟨"CountyCreamModel", "farmRate", "(II)I"⟩, 31), (⟨"CountyCreamModel", "fatOf", "(I)J"⟩, 31), (⟨"CountyCreamModel", "cansOf", "(I)I"⟩, 31), (⟨"CountyCreamModel", "lossOf", "(I)I"⟩, 31), (⟨"CountyCreamModel", "churnFat", "(II)J"⟩, 31), (⟨"CountyCreamModel", "butter", "(I)J"⟩, 31), (⟨"CountyCreamModel", "agrees", "(I)I"⟩, 31), (⟨"CountyCreamModel", "boxesOf", "(I)I"⟩, 31), (⟨"CountyCreamModel", "penceOf", "(II)J"⟩, 31), (⟨"CountyCreamModel", "reads", "(I)I"⟩, 31)]
theorem lw_r4 : ∀ q ∈ lw_privs_4, lw_okq q := List.forall_mem_cons.mpr ⟨lw_p48, List.forall_mem_cons.mpr ⟨lw_p49, List.forall_mem_cons.mpr ⟨lw_p50, List.forall_mem_cons.mpr ⟨lw_p51, List.forall_mem_cons.mpr ⟨lw_p52, List.forall_mem_cons.mpr ⟨lw_p53, List.forall_mem_cons.mpr ⟨lw_p54, List.forall_mem_cons.mpr ⟨lw_p55, List.forall_mem_cons.mpr ⟨lw_p56, List.forall_mem_cons.mpr ⟨lw_p57, List.forall_mem_cons.mpr ⟨lw_p58, List.forall_mem_cons.mpr ⟨lw_p59, List.forall_mem_cons.mpr ⟨lw_p60, List.forall_mem_cons.mpr ⟨lw_p61, List.forall_mem_cons.mpr ⟨lw_p62, List.forall_mem_cons.mpr ⟨lw_p63, fun _ h => absurd h List.not_mem_nil⟩⟩⟩⟩⟩⟩⟩⟩⟩⟩⟩⟩⟩⟩⟩⟩
theorem lw_p64 : lw_okq (⟨"CountyCreamModel", "goesOn", "(I)Z"⟩, 31) := ⟨⟨by decide +kernel, by decide +kernel⟩, List.mem_of_getElem? (i := 1112) (by decide +kernel), List.mem_of_getElem? (i := 1400) (by decide +kernel), List.mem_of_getElem? (i := 1401) (by decide +kernel)⟩
theorem lw_p65 : lw_okq (⟨"CountyCreamModel", "settlesChosen", "()V"⟩, 31) := ⟨⟨by decide +kernel, by decide +kernel⟩, List.mem_of_getElem? (i := 1112) (by decide +kernel), List.mem_of_getElem? (i := 1407) (by decide +kernel), List.mem_of_getElem? (i := 1408) (by decide +kernel)⟩
theorem lw_p66 : lw_okq (⟨"CountyCreamModel", "settles", "(I)V"⟩, 31) := ⟨⟨by decide +kernel, by decide +kernel⟩, List.mem_of_getElem? (i := 1112) (by decide +kernel), List.mem_of_getElem? (i := 1411) (by decide +kernel), List.mem_of_getElem? (i := 1412) (by decide +kernel)⟩
theorem lw_p67 : lw_okq (⟨"CountyCreamModel", "emits", "(II)I"⟩, 31) := ⟨⟨by decide +kernel, by decide +kernel⟩, List.mem_of_getElem? (i := 1112) (by decide +kernel), List.mem_of_getElem? (i := 1415) (by decide +kernel), List.mem_of_getElem? (i := 1416) (by decide +kernel)⟩
theorem lw_p68 : lw_okq (⟨"CountyCreamModel", "top", "()I"⟩, 31) := ⟨⟨by decide +kernel, by decide +kernel⟩, List.mem_of_getElem? (i := 1112) (by decide +kernel), List.mem_of_getElem? (i := 1422) (by decide +kernel), List.mem_of_getElem? (i := 1423) (by decide +kernel)⟩
theorem lw_p69 : lw_okq (⟨"CountyCreamModel", "waitsWith", "(III)V"⟩, 31) := ⟨⟨by decide +kernel, by decide +kernel⟩, List.mem_of_getElem? (i := 1112) (by decide +kernel), List.mem_of_getElem? (i := 1426) (by decide +kernel), List.mem_of_getElem? (i := 1427) (by decide +kernel)⟩
theorem lw_p70 : lw_okq (⟨"CountyCreamModel", "findNames", "(II)V"⟩, 31) := ⟨⟨by decide +kernel, by decide +kernel⟩, List.mem_of_getElem? (i := 1112) (by decide +kernel), List.mem_of_getElem? (i := 1439) (by decide +kernel), List.mem_of_getElem? (i := 1440) (by decide +kernel)⟩
theorem lw_p71 : lw_okq (⟨"CountyCreamModel", "isIn", "(III)Z"⟩, 31) := ⟨⟨by decide +kernel, by decide +kernel⟩, List.mem_of_getElem? (i := 1112) (by decide +kernel), List.mem_of_getElem? (i := 1443) (by decide +kernel), List.mem_of_getElem? (i := 1444) (by decide +kernel)⟩
theorem lw_p72 : lw_okq (⟨"CountyCreamModel", "isMember", "(I)Z"⟩, 31) := ⟨⟨by decide +kernel, by decide +kernel⟩, List.mem_of_getElem? (i := 1112) (by decide +kernel), List.mem_of_getElem? (i := 1448) (by decide +kernel), List.mem_of_getElem? (i := 1449) (by decide +kernel)⟩
theorem lw_p73 : lw_okq (⟨"CountyCreamModel", "cows", "(I)I"⟩, 31) := ⟨⟨by decide +kernel, by decide +kernel⟩, List.mem_of_getElem? (i := 1112) (by decide +kernel), List.mem_of_getElem? (i := 1452) (by decide +kernel), List.mem_of_getElem? (i := 1453) (by decide +kernel)⟩
theorem lw_p74 : lw_okq (⟨"CountyCreamModel", "weightOf", "(II)I"⟩, 31) := ⟨⟨by decide +kernel, by decide +kernel⟩, List.mem_of_getElem? (i := 1112) (by decide +kernel), List.mem_of_getElem? (i := 1456) (by decide +kernel), List.mem_of_getElem? (i := 1457) (by decide +kernel)⟩
theorem lw_p75 : lw_okq (⟨"CountyCreamModel", "goes", "()Z"⟩, 31) := ⟨⟨by decide +kernel, by decide +kernel⟩, List.mem_of_getElem? (i := 1112) (by decide +kernel), List.mem_of_getElem? (i := 1460) (by decide +kernel), List.mem_of_getElem? (i := 1461) (by decide +kernel)⟩
theorem lw_p76 : lw_okq (⟨"CountyCreamModel", "puts", "(JZ)V"⟩, 31) := ⟨⟨by decide +kernel, by decide +kernel⟩, List.mem_of_getElem? (i := 1112) (by decide +kernel), List.mem_of_getElem? (i := 1464) (by decide +kernel), List.mem_of_getElem? (i := 1465) (by decide +kernel)⟩
theorem lw_p77 : lw_okq (⟨"CountyCreamModel", "works", "(I)V"⟩, 31) := ⟨⟨by decide +kernel, by decide +kernel⟩, List.mem_of_getElem? (i := 1112) (by decide +kernel), List.mem_of_getElem? (i := 1468) (by decide +kernel), List.mem_of_getElem? (i := 1469) (by decide +kernel)⟩
theorem lw_p78 : lw_okq (⟨"CountyCreamModel", "jumps", "(I)I"⟩, 31) := ⟨⟨by decide +kernel, by decide +kernel⟩, List.mem_of_getElem? (i := 1112) (by decide +kernel), List.mem_of_getElem? (i := 1475) (by decide +kernel), List.mem_of_getElem? (i := 1476) (by decide +kernel)⟩
theorem lw_p79 : lw_okq (⟨"CountyCreamModel", "motionOf", "(II)I"⟩, 31) := ⟨⟨by decide +kernel, by decide +kernel⟩, List.mem_of_getElem? (i := 1112) (by decide +kernel), List.mem_of_getElem? (i := 1496) (by decide +kernel), List.mem_of_getElem? (i := 1497) (by decide +kernel)⟩
def lw_privs_5 : List (MethodName × Nat) := [(⟨"CountyCreamModel", "goesOn", "(I)Z"⟩, 31), (⟨"CountyCreamModel", "settlesChosen", "()V"⟩, 31), (⟨"CountyCreamModel", "settles", "(I)V"⟩, 31), (⟨"CountyCreamModel", "emits", "(II)I"⟩, 31), (⟨"CountyCreamModel", "top", "()I"⟩, 31), (⟨"CountyCreamModel", "waitsWith", "(III)V"⟩, 31), (⟨"CountyCreamModel", "findNames", "(II)V"⟩, 31), (⟨"CountyCreamModel", "isIn", "(III)Z"⟩, 31), (⟨"CountyCreamModel", "isMember", "(I)Z"⟩, 31), (⟨"CountyCreamModel", "cows", "(I)I"⟩, 31), (⟨"CountyCreamModel", "weightOf", "(II)I"⟩, 31), (⟨"CountyCreamModel", "goes", "()Z"⟩, 31), (⟨"CountyCreamModel", "puts", "(JZ)V"⟩, 31), (⟨"CountyCreamModel", "works", "(I)V"⟩, 31), (⟨"CountyCreamModel", "jumps", "(I)I"⟩, 31), (⟨"CountyCreamModel", "motionOf", "(II)I"⟩, 31)]
theorem lw_r5 : ∀ q ∈ lw_privs_5, lw_okq q := List.forall_mem_cons.mpr ⟨lw_p64, List.forall_mem_cons.mpr ⟨lw_p65, List.forall_mem_cons.mpr ⟨lw_p66, List.forall_mem_cons.mpr ⟨lw_p67, List.forall_mem_cons.mpr ⟨lw_p68, List.forall_mem_cons.mpr ⟨lw_p69, List.forall_mem_cons.mpr ⟨lw_p70, List.forall_mem_cons.mpr ⟨lw_p71, List.forall_mem_cons.mpr ⟨lw_p72, List.forall_mem_cons.mpr ⟨lw_p73, List.forall_mem_cons.mpr ⟨lw_p74, List.forall_mem_cons.mpr ⟨lw_p75, List.forall_mem_cons.mpr ⟨lw_p76, List.forall_mem_cons.mpr ⟨lw_p77, List.forall_mem_cons.mpr ⟨lw_p78, List.forall_mem_cons.mpr ⟨lw_p79, fun _ h => absurd h List.not_mem_nil⟩⟩⟩⟩⟩⟩⟩⟩⟩⟩⟩⟩⟩⟩⟩⟩
theorem lw_p80 : lw_okq (⟨"CountyCreamModel", "voted", "(II)I"⟩, 31) := ⟨⟨by decide +kernel, by decide +kernel⟩, List.mem_of_getElem? (i := 1112) (by decide +kernel), List.mem_of_getElem? (i := 1500) (by decide +kernel), List.mem_of_getElem? (i := 1501) (by decide +kernel)⟩
theorem lw_p81 : lw_okq (⟨"CountyCreamModel", "isPassed", "(I)Z"⟩, 31) := ⟨⟨by decide +kernel, by decide +kernel⟩, List.mem_of_getElem? (i := 1112) (by decide +kernel), List.mem_of_getElem? (i := 1504) (by decide +kernel), List.mem_of_getElem? (i := 1505) (by decide +kernel)⟩
theorem lw_p82 : lw_okq (⟨"CountyCreamModel", "forceOf", "(I)I"⟩, 31) := ⟨⟨by decide +kernel, by decide +kernel⟩, List.mem_of_getElem? (i := 1112) (by decide +kernel), List.mem_of_getElem? (i := 1512) (by decide +kernel), List.mem_of_getElem? (i := 1513) (by decide +kernel)⟩
theorem lw_p83 : lw_okq (⟨"CountyCreamModel", "moneyOf", "(II)J"⟩, 31) := ⟨⟨by decide +kernel, by decide +kernel⟩, List.mem_of_getElem? (i := 1112) (by decide +kernel), List.mem_of_getElem? (i := 1520) (by decide +kernel), List.mem_of_getElem? (i := 1521) (by decide +kernel)⟩
theorem lw_p84 : lw_okq (⟨"CountyCreamModel", "findShares", "(II)V"⟩, 31) := ⟨⟨by decide +kernel, by decide +kernel⟩, List.mem_of_getElem? (i := 1112) (by decide +kernel), List.mem_of_getElem? (i := 1528) (by decide +kernel), List.mem_of_getElem? (i := 1529) (by decide +kernel)⟩
theorem lw_p85 : lw_okq (⟨"CountyCreamModel", "whyRoute", "(IZ)I"⟩, 31) := ⟨⟨by decide +kernel, by decide +kernel⟩, List.mem_of_getElem? (i := 1112) (by decide +kernel), List.mem_of_getElem? (i := 1549) (by decide +kernel), List.mem_of_getElem? (i := 1550) (by decide +kernel)⟩
theorem lw_p86 : lw_okq (⟨"CountyCreamModel", "findRoute", "(I)V"⟩, 31) := ⟨⟨by decide +kernel, by decide +kernel⟩, List.mem_of_getElem? (i := 1112) (by decide +kernel), List.mem_of_getElem? (i := 1556) (by decide +kernel), List.mem_of_getElem? (i := 1557) (by decide +kernel)⟩
theorem lw_p87 : lw_okq (⟨"CountyCreamModel", "milesBack", "()I"⟩, 31) := ⟨⟨by decide +kernel, by decide +kernel⟩, List.mem_of_getElem? (i := 1112) (by decide +kernel), List.mem_of_getElem? (i := 1560) (by decide +kernel), List.mem_of_getElem? (i := 1561) (by decide +kernel)⟩
theorem lw_p88 : lw_okq (⟨"CountyCreamModel", "farmMiles", "(III)I"⟩, 31) := ⟨⟨by decide +kernel, by decide +kernel⟩, List.mem_of_getElem? (i := 1112) (by decide +kernel), List.mem_of_getElem? (i := 1564) (by decide +kernel), List.mem_of_getElem? (i := 1565) (by decide +kernel)⟩
theorem lw_p89 : lw_okq (⟨"CountyCreamModel", "nextOrder", "()Z"⟩, 31) := ⟨⟨by decide +kernel, by decide +kernel⟩, List.mem_of_getElem? (i := 1112) (by decide +kernel), List.mem_of_getElem? (i := 1571) (by decide +kernel), List.mem_of_getElem? (i := 1572) (by decide +kernel)⟩
theorem lw_p90 : lw_okq (⟨"CountyCreamModel", "findHeaps", "(I)V"⟩, 31) := ⟨⟨by decide +kernel, by decide +kernel⟩, List.mem_of_getElem? (i := 1112) (by decide +kernel), List.mem_of_getElem? (i := 1591) (by decide +kernel), List.mem_of_getElem? (i := 1592) (by decide +kernel)⟩
theorem lw_p91 : lw_okq (⟨"CountyCreamModel", "lossOfHeap", "(I)J"⟩, 31) := ⟨⟨by decide +kernel, by decide +kernel⟩, List.mem_of_getElem? (i := 1112) (by decide +kernel), List.mem_of_getElem? (i := 1595) (by decide +kernel), List.mem_of_getElem? (i := 1596) (by decide +kernel)⟩
theorem lw_p92 : lw_okq (⟨"CountyCreamModel", "weighs", "(II)V"⟩, 31) := ⟨⟨by decide +kernel, by decide +kernel⟩, List.mem_of_getElem? (i := 1112) (by decide +kernel), List.mem_of_getElem? (i := 1600) (by decide +kernel), List.mem_of_getElem? (i := 1601) (by decide +kernel)⟩
theorem lw_p93 : lw_okq (⟨"CountyCreamModel", "nextHeaps", "(I)Z"⟩, 31) := ⟨⟨by decide +kernel, by decide +kernel⟩, List.mem_of_getElem? (i := 1112) (by decide +kernel), List.mem_of_getElem? (i := 1604) (by decide +kernel), List.mem_of_getElem? (i := 1605) (by decide +kernel)⟩
theorem lw_p94 : lw_okq (⟨"CountyCreamModel", "costOf", "(I)J"⟩, 31) := ⟨⟨by decide +kernel, by decide +kernel⟩, List.mem_of_getElem? (i := 1112) (by decide +kernel), List.mem_of_getElem? (i := 1637) (by decide +kernel), List.mem_of_getElem? (i := 1638) (by decide +kernel)⟩
theorem lw_p95 : lw_okq (⟨"CountyCreamModel", "nearestOf", "(II)I"⟩, 31) := ⟨⟨by decide +kernel, by decide +kernel⟩, List.mem_of_getElem? (i := 1112) (by decide +kernel), List.mem_of_getElem? (i := 1641) (by decide +kernel), List.mem_of_getElem? (i := 1642) (by decide +kernel)⟩
def lw_privs_6 : List (MethodName × Nat) := [(⟨"CountyCreamModel", "voted", "(II)I"⟩, 31), (⟨"CountyCreamModel", "isPassed", "(I)Z"⟩, 31), (⟨"CountyCreamModel", "forceOf", "(I)I"⟩, 31), (⟨"CountyCreamModel", "moneyOf", "(II)J"⟩, 31), (⟨"CountyCreamModel", "findShares", "(II)V"⟩, 31), (⟨"CountyCreamModel", "whyRoute", "(IZ)I"⟩, 31), (⟨"CountyCreamModel", "findRoute", "(I)V"⟩, 31), (⟨"CountyCreamModel", "milesBack", "()I"⟩, 31), (⟨"CountyCreamModel", "farmMiles", "(III)I"⟩, 31), (⟨"CountyCreamModel", "nextOrder", "()Z"⟩, 31), (⟨"CountyCreamModel", "findHeaps", "(I)V"⟩, 31), (⟨"CountyCreamModel", "lossOfHeap", "(I)J"⟩, 31), (⟨"CountyCreamModel", "weighs", "(II)V"⟩, 31), (⟨"CountyCreamModel", "nextHeaps", "(I)Z"⟩, 31), (⟨"CountyCreamModel", "costOf", "(I)J"⟩, 31), (⟨"CountyCreamModel", "nearestOf", "(II)I"⟩, 31)]
theorem lw_r6 : ∀ q ∈ lw_privs_6, lw_okq q := List.forall_mem_cons.mpr ⟨lw_p80, List.forall_mem_cons.mpr ⟨lw_p81, List.forall_mem_cons.mpr ⟨lw_p82, List.forall_mem_cons.mpr ⟨lw_p83, List.forall_mem_cons.mpr ⟨lw_p84, List.forall_mem_cons.mpr ⟨lw_p85, List.forall_mem_cons.mpr ⟨lw_p86, List.forall_mem_cons.mpr ⟨lw_p87, List.forall_mem_cons.mpr ⟨lw_p88, List.forall_mem_cons.mpr ⟨lw_p89, List.forall_mem_cons.mpr ⟨lw_p90, List.forall_mem_cons.mpr ⟨lw_p91, List.forall_mem_cons.mpr ⟨lw_p92, List.forall_mem_cons.mpr ⟨lw_p93, List.forall_mem_cons.mpr ⟨lw_p94, List.forall_mem_cons.mpr ⟨lw_p95, fun _ h => absurd h List.not_mem_nil⟩⟩⟩⟩⟩⟩⟩⟩⟩⟩⟩⟩⟩⟩⟩⟩
theorem lw_p96 : lw_okq (⟨"CountyCreamModel", "toSite", "(II)I"⟩, 31) := ⟨⟨by decide +kernel, by decide +kernel⟩, List.mem_of_getElem? (i := 1112) (by decide +kernel), List.mem_of_getElem? (i := 1645) (by decide +kernel), List.mem_of_getElem? (i := 1646) (by decide +kernel)⟩
theorem lw_p97 : lw_okq (⟨"CountyCreamModel", "weekOn", "(IJ)J"⟩, 31) := ⟨⟨by decide +kernel, by decide +kernel⟩, List.mem_of_getElem? (i := 1112) (by decide +kernel), List.mem_of_getElem? (i := 1662) (by decide +kernel), List.mem_of_getElem? (i := 1663) (by decide +kernel)⟩
theorem lw_p98 : lw_okq (⟨"CountyCreamModel", "mixed", "(JII)J"⟩, 31) := ⟨⟨by decide +kernel, by decide +kernel⟩, List.mem_of_getElem? (i := 1112) (by decide +kernel), List.mem_of_getElem? (i := 1689) (by decide +kernel), List.mem_of_getElem? (i := 1690) (by decide +kernel)⟩
def lw_privs_7 : List (MethodName × Nat) := [(⟨"CountyCreamModel", "toSite", "(II)I"⟩, 31), (⟨"CountyCreamModel", "weekOn", "(IJ)J"⟩, 31), (⟨"CountyCreamModel", "mixed", "(JII)J"⟩, 31)]
theorem lw_r7 : ∀ q ∈ lw_privs_7, lw_okq q := List.forall_mem_cons.mpr ⟨lw_p96, List.forall_mem_cons.mpr ⟨lw_p97, List.forall_mem_cons.mpr ⟨lw_p98, fun _ h => absurd h List.not_mem_nil⟩⟩⟩
def lw_privs : List (MethodName × Nat) := lw_privs_1 ++ (lw_privs_2 ++ (lw_privs_3 ++ (lw_privs_4 ++ (lw_privs_5 ++ (lw_privs_6 ++ (lw_privs_7))))))
def lw_tbl : List Cond := k2_sels lw_privs ++ tables_1
theorem lw_privs_ok : ∀ q ∈ lw_privs, lw_okq q := by
  show ∀ q ∈ lw_privs_1 ++ (lw_privs_2 ++ (lw_privs_3 ++ (lw_privs_4 ++ (lw_privs_5 ++ (lw_privs_6 ++ (lw_privs_7)))))), lw_okq q
  exact List.forall_mem_append.mpr ⟨lw_r1, List.forall_mem_append.mpr ⟨lw_r2, List.forall_mem_append.mpr ⟨lw_r3, List.forall_mem_append.mpr ⟨lw_r4, List.forall_mem_append.mpr ⟨lw_r5, List.forall_mem_append.mpr ⟨lw_r6, lw_r7⟩⟩⟩⟩⟩⟩
def RX0 : String := "CountyCream$Ballot"
def TX0 : u_T := fun k => match k with
  | 0 => ("CountyCream$Ballot", "house", "LCountyCream$House;", true)
  | _ => ("CountyCream$Ballot", "motions", "LCountyCream$Rows;", true)
def tyX0 : Nat → FieldType := fun k => match k with
  | 0 => .object "CountyCream$House"
  | _ => .object "CountyCream$Rows"
abbrev wsX00 : List Cond := u_ws RX0 TX0 2
theorem nmX0 : ∀ a, a < 2 → ∀ b, b < 2 → a ≠ b → (TX0 a).2.1 ≠ (TX0 b).2.1 := by decide +kernel
theorem tyX0_ok : ∀ k, k < 2 → parseFieldDescriptor (TX0 k).2.2.1 = some (tyX0 k) := by decide +kernel
abbrev cX0_init : ByteArray := prog_2_method_1_code
def yX0_init : MethodName := ⟨RX0, "<init>", "(LCountyCream$House;)V"⟩
abbrev cX0_propose : ByteArray := prog_2_method_2_code
def yX0_propose : MethodName := ⟨RX0, "propose", "(III)I"⟩
abbrev cX0_tellOf : ByteArray := prog_2_method_3_code
def yX0_tellOf : MethodName := ⟨RX0, "tellOf", "(II)I"⟩
abbrev cX0_votesOf : ByteArray := prog_2_method_4_code
def yX0_votesOf : MethodName := ⟨RX0, "votesOf", "(II)I"⟩
abbrev cX0_isPassed : ByteArray := prog_2_method_5_code
def yX0_isPassed : MethodName := ⟨RX0, "isPassed", "(I)Z"⟩
abbrev cX0_inForce : ByteArray := prog_2_method_6_code
def yX0_inForce : MethodName := ⟨RX0, "inForce", "(I)I"⟩
def RX1 : String := "CountyCream$Bank"
def TX1 : u_T := fun k => match k with
  | _ => ("", "", "", false)
def tyX1 : Nat → FieldType := fun k => match k with
  | _ => .int
abbrev wsX10 : List Cond := u_ws RX1 TX1 0
theorem nmX1 : ∀ a, a < 0 → ∀ b, b < 0 → a ≠ b → (TX1 a).2.1 ≠ (TX1 b).2.1 := by decide +kernel
theorem tyX1_ok : ∀ k, k < 0 → parseFieldDescriptor (TX1 k).2.2.1 = some (tyX1 k) := by decide +kernel
abbrev cX1_behindAWeek : ByteArray := prog_3_method_2_code
def yX1_behindAWeek : MethodName := ⟨RX1, "behindAWeek", "(LCountyCream$Rows;IJ)J"⟩
def RX2 : String := "CountyCream$Blend"
def TX2 : u_T := fun k => match k with
  | 0 => ("CountyCream$Blend", "creams", "LCountyCream$Rows;", true)
  | 1 => ("CountyCream$Blend", "asHeap", "[J", true)
  | 2 => ("CountyCream$Blend", "least", "[J", true)
  | 3 => ("CountyCream$Blend", "heaps", "[I", true)
  | 4 => ("CountyCream$Blend", "rows", "[J", true)
  | _ => ("CountyCream$Blend", "ones", "[J", true)
def tyX2 : Nat → FieldType := fun k => match k with
  | 0 => .object "CountyCream$Rows"
  | 1 => .array .long
  | 2 => .array .long
  | 3 => .array .int
  | 4 => .array .long
  | _ => .array .long
abbrev wsX20 : List Cond := u_ws RX2 TX2 6
theorem nmX2 : ∀ a, a < 6 → ∀ b, b < 6 → a ≠ b → (TX2 a).2.1 ≠ (TX2 b).2.1 := by decide +kernel
theorem tyX2_ok : ∀ k, k < 6 → parseFieldDescriptor (TX2 k).2.2.1 = some (tyX2 k) := by decide +kernel
abbrev cX2_init : ByteArray := prog_4_method_1_code
def yX2_init : MethodName := ⟨RX2, "<init>", "(LCountyCream$Rows;)V"⟩
abbrev cX2_allCreams : ByteArray := prog_4_method_2_code
def yX2_allCreams : MethodName := ⟨RX2, "allCreams", "()I"⟩
abbrev cX2_plan : ByteArray := prog_4_method_3_code
def yX2_plan : MethodName := ⟨RX2, "plan", "(I)V"⟩
abbrev cX2_shiftOf : ByteArray := prog_4_method_4_code
def yX2_shiftOf : MethodName := ⟨RX2, "shiftOf", "(I)I"⟩
abbrev cX2_lossAsHeap : ByteArray := prog_4_method_5_code
def yX2_lossAsHeap : MethodName := ⟨RX2, "lossAsHeap", "(I)J"⟩
abbrev cX2_planSet : ByteArray := prog_4_method_6_code
def yX2_planSet : MethodName := ⟨RX2, "planSet", "(II)V"⟩
abbrev cX2_tryHeap : ByteArray := prog_4_method_7_code
def yX2_tryHeap : MethodName := ⟨RX2, "tryHeap", "(II)V"⟩
abbrev cX2_isBetter : ByteArray := prog_4_method_8_code
def yX2_isBetter : MethodName := ⟨RX2, "isBetter", "(IJIJ)Z"⟩
abbrev cX2_lost : ByteArray := prog_4_method_9_code
def yX2_lost : MethodName := ⟨RX2, "lost", "()J"⟩
abbrev cX2_leastOfHeap : ByteArray := prog_4_method_10_code
def yX2_leastOfHeap : MethodName := ⟨RX2, "leastOfHeap", "(I)I"⟩
def RX3 : String := "CountyCream$Cart"
def TX3 : u_T := fun k => match k with
  | 0 => ("CountyCream$Cart", "house", "LCountyCream$House;", true)
  | 1 => ("CountyCream$Cart", "stops", "[I", true)
  | 2 => ("CountyCream$Cart", "many", "I", false)
  | 3 => ("CountyCream$Cart", "miles", "[I", true)
  | 4 => ("CountyCream$Cart", "home", "[I", true)
  | 5 => ("CountyCream$Cart", "rest", "[I", true)
  | 6 => ("CountyCream$Cart", "order", "[I", true)
  | _ => ("CountyCream$Cart", "total", "I", false)
def tyX3 : Nat → FieldType := fun k => match k with
  | 0 => .object "CountyCream$House"
  | 1 => .array .int
  | 2 => .int
  | 3 => .array .int
  | 4 => .array .int
  | 5 => .array .int
  | 6 => .array .int
  | _ => .int
abbrev wsX30 : List Cond := u_ws RX3 TX3 8
theorem nmX3 : ∀ a, a < 8 → ∀ b, b < 8 → a ≠ b → (TX3 a).2.1 ≠ (TX3 b).2.1 := by decide +kernel
theorem tyX3_ok : ∀ k, k < 8 → parseFieldDescriptor (TX3 k).2.2.1 = some (tyX3 k) := by decide +kernel
abbrev cX3_init : ByteArray := prog_5_method_1_code
def yX3_init : MethodName := ⟨RX3, "<init>", "(LCountyCream$House;)V"⟩
abbrev cX3_plan : ByteArray := prog_5_method_2_code
def yX3_plan : MethodName := ⟨RX3, "plan", "(I)V"⟩
abbrev cX3_stopAt : ByteArray := prog_5_method_3_code
def yX3_stopAt : MethodName := ⟨RX3, "stopAt", "(I)I"⟩
abbrev cX3_takeStops : ByteArray := prog_5_method_4_code
def yX3_takeStops : MethodName := ⟨RX3, "takeStops", "(I)V"⟩
abbrev cX3_allBut : ByteArray := prog_5_method_5_code
def yX3_allBut : MethodName := ⟨RX3, "allBut", "(I)I"⟩
abbrev cX3_homeOf : ByteArray := prog_5_method_6_code
def yX3_homeOf : MethodName := ⟨RX3, "homeOf", "(I)I"⟩
abbrev cX3_restOf : ByteArray := prog_5_method_7_code
def yX3_restOf : MethodName := ⟨RX3, "restOf", "(II)I"⟩
abbrev cX3_findRests : ByteArray := prog_5_method_8_code
def yX3_findRests : MethodName := ⟨RX3, "findRests", "()V"⟩
abbrev cX3_fewestFrom : ByteArray := prog_5_method_9_code
def yX3_fewestFrom : MethodName := ⟨RX3, "fewestFrom", "(II)I"⟩
abbrev cX3_milesBy : ByteArray := prog_5_method_10_code
def yX3_milesBy : MethodName := ⟨RX3, "milesBy", "(III)I"⟩
abbrev cX3_firstStop : ByteArray := prog_5_method_11_code
def yX3_firstStop : MethodName := ⟨RX3, "firstStop", "()I"⟩
abbrev cX3_findOrder : ByteArray := prog_5_method_12_code
def yX3_findOrder : MethodName := ⟨RX3, "findOrder", "(I)V"⟩
abbrev cX3_nextStop : ByteArray := prog_5_method_13_code
def yX3_nextStop : MethodName := ⟨RX3, "nextStop", "(II)I"⟩
def RX4 : String := "CountyCream$Dairy"
def TX4 : u_T := fun k => match k with
  | 0 => ("CountyCream$Dairy", "house", "LCountyCream$House;", true)
  | _ => ("CountyCream$Dairy", "lab", "LCountyCream$Lab;", true)
def tyX4 : Nat → FieldType := fun k => match k with
  | 0 => .object "CountyCream$House"
  | _ => .object "CountyCream$Lab"
abbrev wsX40 : List Cond := u_ws RX4 TX4 2
theorem nmX4 : ∀ a, a < 2 → ∀ b, b < 2 → a ≠ b → (TX4 a).2.1 ≠ (TX4 b).2.1 := by decide +kernel
theorem tyX4_ok : ∀ k, k < 2 → parseFieldDescriptor (TX4 k).2.2.1 = some (tyX4 k) := by decide +kernel
abbrev cX4_init : ByteArray := prog_6_method_1_code
def yX4_init : MethodName := ⟨RX4, "<init>", "(LCountyCream$House;LCountyCream$Lab;)V"⟩
abbrev cX4_howManyCans : ByteArray := prog_6_method_2_code
def yX4_howManyCans : MethodName := ⟨RX4, "howManyCans", "(I)I"⟩
abbrev cX4_lossOf : ByteArray := prog_6_method_3_code
def yX4_lossOf : MethodName := ⟨RX4, "lossOf", "(I)I"⟩
abbrev cX4_fatOf : ByteArray := prog_6_method_4_code
def yX4_fatOf : MethodName := ⟨RX4, "fatOf", "(II)J"⟩
abbrev cX4_butterOf : ByteArray := prog_6_method_5_code
def yX4_butterOf : MethodName := ⟨RX4, "butterOf", "(I)J"⟩
abbrev cX4_agrees : ByteArray := prog_6_method_6_code
def yX4_agrees : MethodName := ⟨RX4, "agrees", "(I)I"⟩
abbrev cX4_howManyBoxes : ByteArray := prog_6_method_7_code
def yX4_howManyBoxes : MethodName := ⟨RX4, "howManyBoxes", "(I)I"⟩
abbrev cX4_penceOf : ByteArray := prog_6_method_8_code
def yX4_penceOf : MethodName := ⟨RX4, "penceOf", "(II)J"⟩
abbrev cX4_leanOfGraders : ByteArray := prog_6_method_9_code
def yX4_leanOfGraders : MethodName := ⟨RX4, "leanOfGraders", "()I"⟩
abbrev cX4_lotOf : ByteArray := prog_6_method_10_code
def yX4_lotOf : MethodName := ⟨RX4, "lotOf", "(II)I"⟩
def RX5 : String := "CountyCream$House"
def TX5 : u_T := fun k => match k with
  | 0 => ("CountyCream$House", "farms", "LCountyCream$Rows;", true)
  | 1 => ("CountyCream$House", "cans", "LCountyCream$Rows;", true)
  | 2 => ("CountyCream$House", "tests", "LCountyCream$Rows;", true)
  | 3 => ("CountyCream$House", "churns", "LCountyCream$Rows;", true)
  | 4 => ("CountyCream$House", "boxes", "LCountyCream$Rows;", true)
  | 5 => ("CountyCream$House", "texts", "LCountyCream$Rows;", true)
  | 6 => ("CountyCream$House", "motions", "LCountyCream$Rows;", true)
  | 7 => ("CountyCream$House", "creams", "LCountyCream$Rows;", true)
  | 8 => ("CountyCream$House", "calvings", "LCountyCream$Rows;", true)
  | 9 => ("CountyCream$House", "sites", "LCountyCream$Rows;", true)
  | 10 => ("CountyCream$House", "loans", "LCountyCream$Rows;", true)
  | 11 => ("CountyCream$House", "bias", "[I", true)
  | 12 => ("CountyCream$House", "yields", "[I", true)
  | 13 => ("CountyCream$House", "periodDays", "I", false)
  | 14 => ("CountyCream$House", "sourMinutes", "I", false)
  | _ => ("CountyCream$House", "freightRate", "I", false)
def tyX5 : Nat → FieldType := fun k => match k with
  | 0 => .object "CountyCream$Rows"
  | 1 => .object "CountyCream$Rows"
  | 2 => .object "CountyCream$Rows"
  | 3 => .object "CountyCream$Rows"
  | 4 => .object "CountyCream$Rows"
  | 5 => .object "CountyCream$Rows"
  | 6 => .object "CountyCream$Rows"
  | 7 => .object "CountyCream$Rows"
  | 8 => .object "CountyCream$Rows"
  | 9 => .object "CountyCream$Rows"
  | 10 => .object "CountyCream$Rows"
  | 11 => .array .int
  | 12 => .array .int
  | 13 => .int
  | 14 => .int
  | _ => .int
abbrev wsX50 : List Cond := u_ws RX5 TX5 16
theorem nmX5 : ∀ a, a < 16 → ∀ b, b < 16 → a ≠ b → (TX5 a).2.1 ≠ (TX5 b).2.1 := by decide +kernel
theorem tyX5_ok : ∀ k, k < 16 → parseFieldDescriptor (TX5 k).2.2.1 = some (tyX5 k) := by decide +kernel
abbrev cX5_init : ByteArray := prog_7_method_1_code
def yX5_init : MethodName := ⟨RX5, "<init>", "()V"⟩
abbrev cX5_become : ByteArray := prog_7_method_2_code
def yX5_become : MethodName := ⟨RX5, "become", "(LCountyCream$House;)V"⟩
abbrev cX5_biasOf : ByteArray := prog_7_method_3_code
def yX5_biasOf : MethodName := ⟨RX5, "biasOf", "(I)I"⟩
def RX6 : String := "CountyCream$Lab"
def TX6 : u_T := fun k => match k with
  | 0 => ("CountyCream$Lab", "house", "LCountyCream$House;", true)
  | 1 => ("CountyCream$Lab", "tests", "LCountyCream$Rows;", true)
  | _ => ("CountyCream$Lab", "rates", "[I", true)
def tyX6 : Nat → FieldType := fun k => match k with
  | 0 => .object "CountyCream$House"
  | 1 => .object "CountyCream$Rows"
  | _ => .array .int
abbrev wsX60 : List Cond := u_ws RX6 TX6 3
theorem nmX6 : ∀ a, a < 3 → ∀ b, b < 3 → a ≠ b → (TX6 a).2.1 ≠ (TX6 b).2.1 := by decide +kernel
theorem tyX6_ok : ∀ k, k < 3 → parseFieldDescriptor (TX6 k).2.2.1 = some (tyX6 k) := by decide +kernel
abbrev cX6_init : ByteArray := prog_8_method_1_code
def yX6_init : MethodName := ⟨RX6, "<init>", "(LCountyCream$House;)V"⟩
abbrev cX6_learn : ByteArray := prog_8_method_2_code
def yX6_learn : MethodName := ⟨RX6, "learn", "(I)V"⟩
abbrev cX6_rateLearned : ByteArray := prog_8_method_3_code
def yX6_rateLearned : MethodName := ⟨RX6, "rateLearned", "(I)I"⟩
abbrev cX6_isKnown : ByteArray := prog_8_method_4_code
def yX6_isKnown : MethodName := ⟨RX6, "isKnown", "(II)Z"⟩
abbrev cX6_numberKnown : ByteArray := prog_8_method_5_code
def yX6_numberKnown : MethodName := ⟨RX6, "numberKnown", "(II)I"⟩
abbrev cX6_rateAsKnown : ByteArray := prog_8_method_6_code
def yX6_rateAsKnown : MethodName := ⟨RX6, "rateAsKnown", "(II)I"⟩
abbrev cX6_latestAheadOf : ByteArray := prog_8_method_7_code
def yX6_latestAheadOf : MethodName := ⟨RX6, "latestAheadOf", "(II)I"⟩
abbrev cX6_isAhead : ByteArray := prog_8_method_8_code
def yX6_isAhead : MethodName := ⟨RX6, "isAhead", "(II)Z"⟩
abbrev cX6_rateOfCan : ByteArray := prog_8_method_9_code
def yX6_rateOfCan : MethodName := ⟨RX6, "rateOfCan", "(I)I"⟩
abbrev cX6_fatOfCan : ByteArray := prog_8_method_10_code
def yX6_fatOfCan : MethodName := ⟨RX6, "fatOfCan", "(I)J"⟩
abbrev cX6_fatOfWeek : ByteArray := prog_8_method_11_code
def yX6_fatOfWeek : MethodName := ⟨RX6, "fatOfWeek", "(II)J"⟩
abbrev cX6_signsOfWater : ByteArray := prog_8_method_12_code
def yX6_signsOfWater : MethodName := ⟨RX6, "signsOfWater", "(II)I"⟩
abbrev cX6_meanBefore : ByteArray := prog_8_method_13_code
def yX6_meanBefore : MethodName := ⟨RX6, "meanBefore", "(II)I"⟩
def RX7 : String := "CountyCream$Payday"
def TX7 : u_T := fun k => match k with
  | 0 => ("CountyCream$Payday", "house", "LCountyCream$House;", true)
  | 1 => ("CountyCream$Payday", "lab", "LCountyCream$Lab;", true)
  | 2 => ("CountyCream$Payday", "reader", "LCountyCream$Reader;", true)
  | 3 => ("CountyCream$Payday", "ballot", "LCountyCream$Ballot;", true)
  | 4 => ("CountyCream$Payday", "weights", "[I", true)
  | 5 => ("CountyCream$Payday", "fats", "[J", true)
  | 6 => ("CountyCream$Payday", "cans", "[I", true)
  | 7 => ("CountyCream$Payday", "olderDays", "[I", true)
  | 8 => ("CountyCream$Payday", "tests", "[I", true)
  | _ => ("CountyCream$Payday", "shares", "[J", true)
def tyX7 : Nat → FieldType := fun k => match k with
  | 0 => .object "CountyCream$House"
  | 1 => .object "CountyCream$Lab"
  | 2 => .object "CountyCream$Reader"
  | 3 => .object "CountyCream$Ballot"
  | 4 => .array .int
  | 5 => .array .long
  | 6 => .array .int
  | 7 => .array .int
  | 8 => .array .int
  | _ => .array .long
abbrev wsX70 : List Cond := u_ws RX7 TX7 10
theorem nmX7 : ∀ a, a < 10 → ∀ b, b < 10 → a ≠ b → (TX7 a).2.1 ≠ (TX7 b).2.1 := by decide +kernel
theorem tyX7_ok : ∀ k, k < 10 → parseFieldDescriptor (TX7 k).2.2.1 = some (tyX7 k) := by decide +kernel
abbrev cX7_init : ByteArray := prog_9_method_1_code
def yX7_init : MethodName := ⟨RX7, "<init>", "(LCountyCream$House;LCountyCream$Lab;LCountyCream$Reader;LCountyCream$Ballot;)V"⟩
abbrev cX7_gather : ByteArray := prog_9_method_2_code
def yX7_gather : MethodName := ⟨RX7, "gather", "(II)V"⟩
abbrev cX7_gatherCan : ByteArray := prog_9_method_3_code
def yX7_gatherCan : MethodName := ⟨RX7, "gatherCan", "(II)V"⟩
abbrev cX7_nameFor : ByteArray := prog_9_method_4_code
def yX7_nameFor : MethodName := ⟨RX7, "nameFor", "(I)V"⟩
abbrev cX7_rankOfWeight : ByteArray := prog_9_method_5_code
def yX7_rankOfWeight : MethodName := ⟨RX7, "rankOfWeight", "(I)I"⟩
abbrev cX7_findShares : ByteArray := prog_9_method_6_code
def yX7_findShares : MethodName := ⟨RX7, "findShares", "(I)V"⟩
abbrev cX7_penceOfWeek : ByteArray := prog_9_method_7_code
def yX7_penceOfWeek : MethodName := ⟨RX7, "penceOfWeek", "(II)J"⟩
abbrev cX7_partOf : ByteArray := prog_9_method_8_code
def yX7_partOf : MethodName := ⟨RX7, "partOf", "(IJ)J"⟩
def RX8 : String := "CountyCream$Reader"
def TX8 : u_T := fun k => match k with
  | 0 => ("CountyCream$Reader", "signs", "[I", true)
  | 1 => ("CountyCream$Reader", "length", "I", false)
  | 2 => ("CountyCream$Reader", "names", "[J", true)
  | 3 => ("CountyCream$Reader", "values", "[J", true)
  | 4 => ("CountyCream$Reader", "valuesWait", "I", false)
  | 5 => ("CountyCream$Reader", "marks", "[I", true)
  | 6 => ("CountyCream$Reader", "needless", "[Z", true)
  | 7 => ("CountyCream$Reader", "marksWait", "I", false)
  | 8 => ("CountyCream$Reader", "openNow", "I", false)
  | 9 => ("CountyCream$Reader", "needlessNow", "I", false)
  | 10 => ("CountyCream$Reader", "unitWanted", "Z", false)
  | 11 => ("CountyCream$Reader", "faultFound", "I", false)
  | 12 => ("CountyCream$Reader", "none", "Z", false)
  | _ => ("CountyCream$Reader", "told", "J", false)
def tyX8 : Nat → FieldType := fun k => match k with
  | 0 => .array .int
  | 1 => .int
  | 2 => .array .long
  | 3 => .array .long
  | 4 => .int
  | 5 => .array .int
  | 6 => .array .boolean
  | 7 => .int
  | 8 => .int
  | 9 => .int
  | 10 => .boolean
  | 11 => .int
  | 12 => .boolean
  | _ => .long
abbrev wsX80 : List Cond := u_ws RX8 TX8 14
theorem nmX8 : ∀ a, a < 14 → ∀ b, b < 14 → a ≠ b → (TX8 a).2.1 ≠ (TX8 b).2.1 := by decide +kernel
theorem tyX8_ok : ∀ k, k < 14 → parseFieldDescriptor (TX8 k).2.2.1 = some (tyX8 k) := by decide +kernel
abbrev cX8_init : ByteArray := prog_10_method_1_code
def yX8_init : MethodName := ⟨RX8, "<init>", "()V"⟩
abbrev cX8_load : ByteArray := prog_10_method_2_code
def yX8_load : MethodName := ⟨RX8, "load", "(LCountyCream$Rows;II)V"⟩
abbrev cX8_tellName : ByteArray := prog_10_method_3_code
def yX8_tellName : MethodName := ⟨RX8, "tellName", "(IJ)V"⟩
abbrev cX8_read : ByteArray := prog_10_method_4_code
def yX8_read : MethodName := ⟨RX8, "read", "()I"⟩
abbrev cX8_signAt : ByteArray := prog_10_method_5_code
def yX8_signAt : MethodName := ⟨RX8, "signAt", "(I)I"⟩
abbrev cX8_isDigit : ByteArray := prog_10_method_6_code
def yX8_isDigit : MethodName := ⟨RX8, "isDigit", "(I)Z"⟩
abbrev cX8_stop : ByteArray := prog_10_method_7_code
def yX8_stop : MethodName := ⟨RX8, "stop", "(II)V"⟩
abbrev cX8_readEnd : ByteArray := prog_10_method_8_code
def yX8_readEnd : MethodName := ⟨RX8, "readEnd", "()V"⟩
abbrev cX8_readNumber : ByteArray := prog_10_method_9_code
def yX8_readNumber : MethodName := ⟨RX8, "readNumber", "(I)I"⟩
abbrev cX8_readUnit : ByteArray := prog_10_method_10_code
def yX8_readUnit : MethodName := ⟨RX8, "readUnit", "(II)V"⟩
abbrev cX8_nameOf : ByteArray := prog_10_method_11_code
def yX8_nameOf : MethodName := ⟨RX8, "nameOf", "(I)I"⟩
abbrev cX8_endUnit : ByteArray := prog_10_method_12_code
def yX8_endUnit : MethodName := ⟨RX8, "endUnit", "(J)V"⟩
abbrev cX8_rankOf : ByteArray := prog_10_method_13_code
def yX8_rankOf : MethodName := ⟨RX8, "rankOf", "(I)I"⟩
abbrev cX8_readJoin : ByteArray := prog_10_method_14_code
def yX8_readJoin : MethodName := ⟨RX8, "readJoin", "(II)V"⟩
abbrev cX8_readQuestion : ByteArray := prog_10_method_15_code
def yX8_readQuestion : MethodName := ⟨RX8, "readQuestion", "()V"⟩
abbrev cX8_readElse : ByteArray := prog_10_method_16_code
def yX8_readElse : MethodName := ⟨RX8, "readElse", "(I)V"⟩
abbrev cX8_readClose : ByteArray := prog_10_method_17_code
def yX8_readClose : MethodName := ⟨RX8, "readClose", "(I)V"⟩
abbrev cX8_settle : ByteArray := prog_10_method_18_code
def yX8_settle : MethodName := ⟨RX8, "settle", "(I)V"⟩
abbrev cX8_endChoices : ByteArray := prog_10_method_19_code
def yX8_endChoices : MethodName := ⟨RX8, "endChoices", "()V"⟩
abbrev cX8_made : ByteArray := prog_10_method_20_code
def yX8_made : MethodName := ⟨RX8, "made", "(IJJ)J"⟩
abbrev cX8_topMark : ByteArray := prog_10_method_21_code
def yX8_topMark : MethodName := ⟨RX8, "topMark", "()I"⟩
abbrev cX8_pushMark : ByteArray := prog_10_method_22_code
def yX8_pushMark : MethodName := ⟨RX8, "pushMark", "(IZ)V"⟩
abbrev cX8_popMark : ByteArray := prog_10_method_23_code
def yX8_popMark : MethodName := ⟨RX8, "popMark", "()Z"⟩
abbrev cX8_topValue : ByteArray := prog_10_method_24_code
def yX8_topValue : MethodName := ⟨RX8, "topValue", "()J"⟩
abbrev cX8_pushValue : ByteArray := prog_10_method_25_code
def yX8_pushValue : MethodName := ⟨RX8, "pushValue", "(J)V"⟩
abbrev cX8_popValue : ByteArray := prog_10_method_26_code
def yX8_popValue : MethodName := ⟨RX8, "popValue", "()J"⟩
def RX9 : String := "CountyCream$Rows"
def TX9 : u_T := fun k => match k with
  | 0 => ("CountyCream$Rows", "most", "I", true)
  | 1 => ("CountyCream$Rows", "width", "I", true)
  | 2 => ("CountyCream$Rows", "cells", "[I", true)
  | _ => ("CountyCream$Rows", "many", "I", false)
def tyX9 : Nat → FieldType := fun k => match k with
  | 0 => .int
  | 1 => .int
  | 2 => .array .int
  | _ => .int
abbrev wsX90 : List Cond := u_ws RX9 TX9 4
theorem nmX9 : ∀ a, a < 4 → ∀ b, b < 4 → a ≠ b → (TX9 a).2.1 ≠ (TX9 b).2.1 := by decide +kernel
theorem tyX9_ok : ∀ k, k < 4 → parseFieldDescriptor (TX9 k).2.2.1 = some (tyX9 k) := by decide +kernel
abbrev cX9_init : ByteArray := prog_11_method_1_code
def yX9_init : MethodName := ⟨RX9, "<init>", "(II)V"⟩
abbrev cX9_has : ByteArray := prog_11_method_2_code
def yX9_has : MethodName := ⟨RX9, "has", "(I)Z"⟩
abbrev cX9_come : ByteArray := prog_11_method_3_code
def yX9_come : MethodName := ⟨RX9, "come", "(III)I"⟩
abbrev cX9_at : ByteArray := prog_11_method_4_code
def yX9_at : MethodName := ⟨RX9, "at", "(II)I"⟩
abbrev cX9_put : ByteArray := prog_11_method_5_code
def yX9_put : MethodName := ⟨RX9, "put", "(III)V"⟩
abbrev cX9_become : ByteArray := prog_11_method_6_code
def yX9_become : MethodName := ⟨RX9, "become", "(LCountyCream$Rows;)V"⟩
abbrev cX9_digestOn : ByteArray := prog_11_method_7_code
def yX9_digestOn : MethodName := ⟨RX9, "digestOn", "(J)J"⟩
def RX10 : String := "CountyCream$Yard"
def TX10 : u_T := fun k => match k with
  | 0 => ("CountyCream$Yard", "house", "LCountyCream$House;", true)
  | 1 => ("CountyCream$Yard", "bestSet", "I", false)
  | _ => ("CountyCream$Yard", "bestCost", "J", false)
def tyX10 : Nat → FieldType := fun k => match k with
  | 0 => .object "CountyCream$House"
  | 1 => .int
  | _ => .long
abbrev wsX100 : List Cond := u_ws RX10 TX10 3
theorem nmX10 : ∀ a, a < 3 → ∀ b, b < 3 → a ≠ b → (TX10 a).2.1 ≠ (TX10 b).2.1 := by decide +kernel
theorem tyX10_ok : ∀ k, k < 3 → parseFieldDescriptor (TX10 k).2.2.1 = some (tyX10 k) := by decide +kernel
abbrev cX10_init : ByteArray := prog_12_method_1_code
def yX10_init : MethodName := ⟨RX10, "<init>", "(LCountyCream$House;)V"⟩
abbrev cX10_plan : ByteArray := prog_12_method_2_code
def yX10_plan : MethodName := ⟨RX10, "plan", "()V"⟩
abbrev cX10_costOf : ByteArray := prog_12_method_3_code
def yX10_costOf : MethodName := ⟨RX10, "costOf", "(I)J"⟩
abbrev cX10_nearestOf : ByteArray := prog_12_method_4_code
def yX10_nearestOf : MethodName := ⟨RX10, "nearestOf", "(II)I"⟩
def RX11 : String := "CountyCream"
def TX11 : u_T := fun k => match k with
  | 0 => ("CountyCream", "house", "LCountyCream$House;", true)
  | 1 => ("CountyCream", "images", "[LCountyCream$House;", true)
  | 2 => ("CountyCream", "kept", "[Z", true)
  | 3 => ("CountyCream", "lab", "LCountyCream$Lab;", true)
  | 4 => ("CountyCream", "dairy", "LCountyCream$Dairy;", true)
  | 5 => ("CountyCream", "reader", "LCountyCream$Reader;", true)
  | 6 => ("CountyCream", "ballot", "LCountyCream$Ballot;", true)
  | 7 => ("CountyCream", "payday", "LCountyCream$Payday;", true)
  | 8 => ("CountyCream", "cart", "LCountyCream$Cart;", true)
  | 9 => ("CountyCream", "blend", "LCountyCream$Blend;", true)
  | _ => ("CountyCream", "yard", "LCountyCream$Yard;", true)
def tyX11 : Nat → FieldType := fun k => match k with
  | 0 => .object "CountyCream$House"
  | 1 => .array (.object "CountyCream$House")
  | 2 => .array .boolean
  | 3 => .object "CountyCream$Lab"
  | 4 => .object "CountyCream$Dairy"
  | 5 => .object "CountyCream$Reader"
  | 6 => .object "CountyCream$Ballot"
  | 7 => .object "CountyCream$Payday"
  | 8 => .object "CountyCream$Cart"
  | 9 => .object "CountyCream$Blend"
  | _ => .object "CountyCream$Yard"
abbrev wsX110 : List Cond := u_ws RX11 TX11 11
theorem nmX11 : ∀ a, a < 11 → ∀ b, b < 11 → a ≠ b → (TX11 a).2.1 ≠ (TX11 b).2.1 := by decide +kernel
theorem tyX11_ok : ∀ k, k < 11 → parseFieldDescriptor (TX11 k).2.2.1 = some (tyX11 k) := by decide +kernel
abbrev cX11_init : ByteArray := prog_1_method_1_code
def yX11_init : MethodName := ⟨RX11, "<init>", "()V"⟩
abbrev cX11_farm : ByteArray := prog_1_method_2_code
def yX11_farm : MethodName := ⟨RX11, "farm", "(IIIZ)I"⟩
abbrev cX11_change : ByteArray := prog_1_method_3_code
def yX11_change : MethodName := ⟨RX11, "change", "(IIZ)I"⟩
abbrev cX11_can : ByteArray := prog_1_method_4_code
def yX11_can : MethodName := ⟨RX11, "can", "(III)I"⟩
abbrev cX11_test : ByteArray := prog_1_method_5_code
def yX11_test : MethodName := ⟨RX11, "test", "(IIIII)I"⟩
abbrev cX11_right : ByteArray := prog_1_method_6_code
def yX11_right : MethodName := ⟨RX11, "right", "(III)I"⟩
abbrev cX11_bias : ByteArray := prog_1_method_7_code
def yX11_bias : MethodName := ⟨RX11, "bias", "(II)I"⟩
abbrev cX11_period : ByteArray := prog_1_method_8_code
def yX11_period : MethodName := ⟨RX11, "period", "(I)I"⟩
abbrev cX11_rate : ByteArray := prog_1_method_9_code
def yX11_rate : MethodName := ⟨RX11, "rate", "(II)I"⟩
abbrev cX11_canRate : ByteArray := prog_1_method_10_code
def yX11_canRate : MethodName := ⟨RX11, "canRate", "(II)I"⟩
abbrev cX11_fat : ByteArray := prog_1_method_11_code
def yX11_fat : MethodName := ⟨RX11, "fat", "(III)J"⟩
abbrev cX11_churn : ByteArray := prog_1_method_12_code
def yX11_churn : MethodName := ⟨RX11, "churn", "(II)I"⟩
abbrev cX11_fill : ByteArray := prog_1_method_13_code
def yX11_fill : MethodName := ⟨RX11, "fill", "(II)I"⟩
abbrev cX11_about : ByteArray := prog_1_method_14_code
def yX11_about : MethodName := ⟨RX11, "about", "(III)J"⟩
abbrev cX11_out : ByteArray := prog_1_method_15_code
def yX11_out : MethodName := ⟨RX11, "out", "(II)I"⟩
abbrev cX11_box : ByteArray := prog_1_method_16_code
def yX11_box : MethodName := ⟨RX11, "box", "(I)I"⟩
abbrev cX11_sell : ByteArray := prog_1_method_17_code
def yX11_sell : MethodName := ⟨RX11, "sell", "(III)I"⟩
abbrev cX11_grade : ByteArray := prog_1_method_18_code
def yX11_grade : MethodName := ⟨RX11, "grade", "(III)I"⟩
abbrev cX11_lean : ByteArray := prog_1_method_19_code
def yX11_lean : MethodName := ⟨RX11, "lean", "()I"⟩
abbrev cX11_lot : ByteArray := prog_1_method_20_code
def yX11_lot : MethodName := ⟨RX11, "lot", "(II)I"⟩
abbrev cX11_lead : ByteArray := prog_1_method_21_code
def yX11_lead : MethodName := ⟨RX11, "lead", "(III)J"⟩
abbrev cX11_write : ByteArray := prog_1_method_22_code
def yX11_write : MethodName := ⟨RX11, "write", "(II)I"⟩
abbrev cX11_erase : ByteArray := prog_1_method_23_code
def yX11_erase : MethodName := ⟨RX11, "erase", "(I)I"⟩
abbrev cX11_fault : ByteArray := prog_1_method_24_code
def yX11_fault : MethodName := ⟨RX11, "fault", "(I)I"⟩
abbrev cX11_tells : ByteArray := prog_1_method_25_code
def yX11_tells : MethodName := ⟨RX11, "tells", "(IIII)J"⟩
abbrev cX11_motion : ByteArray := prog_1_method_26_code
def yX11_motion : MethodName := ⟨RX11, "motion", "(IIZ)I"⟩
abbrev cX11_vote : ByteArray := prog_1_method_27_code
def yX11_vote : MethodName := ⟨RX11, "vote", "(III)I"⟩
abbrev cX11_tear : ByteArray := prog_1_method_28_code
def yX11_tear : MethodName := ⟨RX11, "tear", "(IZ)I"⟩
abbrev cX11_motionAt : ByteArray := prog_1_method_29_code
def yX11_motionAt : MethodName := ⟨RX11, "motionAt", "(II)I"⟩
abbrev cX11_force : ByteArray := prog_1_method_30_code
def yX11_force : MethodName := ⟨RX11, "force", "(I)I"⟩
abbrev cX11_money : ByteArray := prog_1_method_31_code
def yX11_money : MethodName := ⟨RX11, "money", "(II)J"⟩
abbrev cX11_pay : ByteArray := prog_1_method_32_code
def yX11_pay : MethodName := ⟨RX11, "pay", "(III)J"⟩
abbrev cX11_share : ByteArray := prog_1_method_33_code
def yX11_share : MethodName := ⟨RX11, "share", "(III)J"⟩
abbrev cX11_watered : ByteArray := prog_1_method_34_code
def yX11_watered : MethodName := ⟨RX11, "watered", "(III)I"⟩
abbrev cX11_sour : ByteArray := prog_1_method_35_code
def yX11_sour : MethodName := ⟨RX11, "sour", "(I)I"⟩
abbrev cX11_route : ByteArray := prog_1_method_36_code
def yX11_route : MethodName := ⟨RX11, "route", "(I)I"⟩
abbrev cX11_routeAt : ByteArray := prog_1_method_37_code
def yX11_routeAt : MethodName := ⟨RX11, "routeAt", "(II)I"⟩
abbrev cX11_cream : ByteArray := prog_1_method_38_code
def yX11_cream : MethodName := ⟨RX11, "cream", "(III)I"⟩
abbrev cX11_drain : ByteArray := prog_1_method_39_code
def yX11_drain : MethodName := ⟨RX11, "drain", "()I"⟩
abbrev cX11_together : ByteArray := prog_1_method_40_code
def yX11_together : MethodName := ⟨RX11, "together", "(I)J"⟩
abbrev cX11_heap : ByteArray := prog_1_method_41_code
def yX11_heap : MethodName := ⟨RX11, "heap", "(II)I"⟩
abbrev cX11_gives : ByteArray := prog_1_method_42_code
def yX11_gives : MethodName := ⟨RX11, "gives", "(II)I"⟩
abbrev cX11_calved : ByteArray := prog_1_method_43_code
def yX11_calved : MethodName := ⟨RX11, "calved", "(III)I"⟩
abbrev cX11_foretold : ByteArray := prog_1_method_44_code
def yX11_foretold : MethodName := ⟨RX11, "foretold", "(II)I"⟩
abbrev cX11_site : ByteArray := prog_1_method_45_code
def yX11_site : MethodName := ⟨RX11, "site", "(III)I"⟩
abbrev cX11_freight : ByteArray := prog_1_method_46_code
def yX11_freight : MethodName := ⟨RX11, "freight", "(I)I"⟩
abbrev cX11_open : ByteArray := prog_1_method_47_code
def yX11_open : MethodName := ⟨RX11, "open", "(I)J"⟩
abbrev cX11_nearest : ByteArray := prog_1_method_48_code
def yX11_nearest : MethodName := ⟨RX11, "nearest", "(II)I"⟩
abbrev cX11_loan : ByteArray := prog_1_method_49_code
def yX11_loan : MethodName := ⟨RX11, "loan", "(III)I"⟩
abbrev cX11_owed : ByteArray := prog_1_method_50_code
def yX11_owed : MethodName := ⟨RX11, "owed", "(II)J"⟩
abbrev cX11_ends : ByteArray := prog_1_method_51_code
def yX11_ends : MethodName := ⟨RX11, "ends", "(I)I"⟩
abbrev cX11_image : ByteArray := prog_1_method_52_code
def yX11_image : MethodName := ⟨RX11, "image", "(I)I"⟩
abbrev cX11_from : ByteArray := prog_1_method_53_code
def yX11_from : MethodName := ⟨RX11, "from", "(I)I"⟩
abbrev cX11_count : ByteArray := prog_1_method_54_code
def yX11_count : MethodName := ⟨RX11, "count", "(I)I"⟩
abbrev cX11_digest : ByteArray := prog_1_method_55_code
def yX11_digest : MethodName := ⟨RX11, "digest", "()J"⟩
abbrev cX11_digestOfTexts : ByteArray := prog_1_method_56_code
def yX11_digestOfTexts : MethodName := ⟨RX11, "digestOfTexts", "(J)J"⟩
abbrev cX11_within : ByteArray := prog_1_method_57_code
def yX11_within : MethodName := ⟨RX11, "within", "(III)Z"⟩
abbrev cX11_isDay : ByteArray := prog_1_method_58_code
def yX11_isDay : MethodName := ⟨RX11, "isDay", "(I)Z"⟩
abbrev cX11_isWeek : ByteArray := prog_1_method_59_code
def yX11_isWeek : MethodName := ⟨RX11, "isWeek", "(I)Z"⟩
abbrev cX11_isHand : ByteArray := prog_1_method_60_code
def yX11_isHand : MethodName := ⟨RX11, "isHand", "(I)Z"⟩
abbrev cX11_isPlace : ByteArray := prog_1_method_61_code
def yX11_isPlace : MethodName := ⟨RX11, "isPlace", "(II)Z"⟩
abbrev cX11_isSet : ByteArray := prog_1_method_62_code
def yX11_isSet : MethodName := ⟨RX11, "isSet", "(ILCountyCream$Rows;)Z"⟩
abbrev cX11_asNumber : ByteArray := prog_1_method_63_code
def yX11_asNumber : MethodName := ⟨RX11, "asNumber", "(Z)I"⟩
abbrev cX11_holds : ByteArray := prog_1_method_64_code
def yX11_holds : MethodName := ⟨RX11, "holds", "(II)Z"⟩
abbrev cX11_milesBetween : ByteArray := prog_1_method_65_code
def yX11_milesBetween : MethodName := ⟨RX11, "milesBetween", "(LCountyCream$Rows;ILCountyCream$Rows;I)I"⟩
abbrev cX11_cut : ByteArray := prog_1_method_66_code
def yX11_cut : MethodName := ⟨RX11, "cut", "(JJ)J"⟩
def RX12 : String := "CountyCreamModel"
def TX12 : u_T := fun k => match k with
  | 0 => ("CountyCreamModel", "st", "[I", true)
  | 1 => ("CountyCreamModel", "images", "[I", true)
  | 2 => ("CountyCreamModel", "isKept", "[Z", true)
  | 3 => ("CountyCreamModel", "rates", "[I", true)
  | 4 => ("CountyCreamModel", "steps", "I", false)
  | 5 => ("CountyCreamModel", "step", "[I", true)
  | 6 => ("CountyCreamModel", "with", "[I", true)
  | 7 => ("CountyCreamModel", "other", "[I", true)
  | 8 => ("CountyCreamModel", "waiting", "I", false)
  | 9 => ("CountyCreamModel", "waits", "[I", true)
  | 10 => ("CountyCreamModel", "waitsFor", "[I", true)
  | 11 => ("CountyCreamModel", "waitsToo", "[I", true)
  | 12 => ("CountyCreamModel", "open", "I", false)
  | 13 => ("CountyCreamModel", "fault", "I", false)
  | 14 => ("CountyCreamModel", "name", "[J", true)
  | 15 => ("CountyCreamModel", "sums", "[I", true)
  | 16 => ("CountyCreamModel", "value", "[J", true)
  | 17 => ("CountyCreamModel", "isNone", "[Z", true)
  | 18 => ("CountyCreamModel", "values", "I", false)
  | 19 => ("CountyCreamModel", "shares", "[J", true)
  | 20 => ("CountyCreamModel", "stops", "I", false)
  | 21 => ("CountyCreamModel", "stop", "[I", true)
  | 22 => ("CountyCreamModel", "best", "[I", true)
  | 23 => ("CountyCreamModel", "bestMiles", "I", false)
  | 24 => ("CountyCreamModel", "heapLoss", "[J", true)
  | 25 => ("CountyCreamModel", "inHeap", "[I", true)
  | 26 => ("CountyCreamModel", "heaps", "[I", true)
  | 27 => ("CountyCreamModel", "bestHeap", "[I", true)
  | 28 => ("CountyCreamModel", "heapSet", "[I", true)
  | 29 => ("CountyCreamModel", "bestLoss", "J", false)
  | _ => ("CountyCreamModel", "bestHeaps", "I", false)
def tyX12 : Nat → FieldType := fun k => match k with
  | 0 => .array .int
  | 1 => .array .int
  | 2 => .array .boolean
  | 3 => .array .int
  | 4 => .int
  | 5 => .array .int
  | 6 => .array .int
  | 7 => .array .int
  | 8 => .int
  | 9 => .array .int
  | 10 => .array .int
  | 11 => .array .int
  | 12 => .int
  | 13 => .int
  | 14 => .array .long
  | 15 => .array .int
  | 16 => .array .long
  | 17 => .array .boolean
  | 18 => .int
  | 19 => .array .long
  | 20 => .int
  | 21 => .array .int
  | 22 => .array .int
  | 23 => .int
  | 24 => .array .long
  | 25 => .array .int
  | 26 => .array .int
  | 27 => .array .int
  | 28 => .array .int
  | 29 => .long
  | _ => .int
abbrev wsX120 : List Cond := u_ws RX12 TX12 31
theorem nmX12 : ∀ a, a < 31 → ∀ b, b < 31 → a ≠ b → (TX12 a).2.1 ≠ (TX12 b).2.1 := by decide +kernel
theorem tyX12_ok : ∀ k, k < 31 → parseFieldDescriptor (TX12 k).2.2.1 = some (tyX12 k) := by decide +kernel
abbrev cX12_in : ByteArray := prog_14_method_2_code
def yX12_in : MethodName := ⟨RX12, "in", "(III)Z"⟩
abbrev cX12_init : ByteArray := prog_14_method_3_code
def yX12_init : MethodName := ⟨RX12, "<init>", "()V"⟩
abbrev cX12_is : ByteArray := prog_14_method_4_code
def yX12_is : MethodName := ⟨RX12, "is", "(II)Z"⟩
abbrev cX12_more : ByteArray := prog_14_method_5_code
def yX12_more : MethodName := ⟨RX12, "more", "(I)I"⟩
abbrev cX12_isDay : ByteArray := prog_14_method_6_code
def yX12_isDay : MethodName := ⟨RX12, "isDay", "(I)Z"⟩
abbrev cX12_isWeek : ByteArray := prog_14_method_7_code
def yX12_isWeek : MethodName := ⟨RX12, "isWeek", "(I)Z"⟩
abbrev cX12_farm : ByteArray := prog_14_method_8_code
def yX12_farm : MethodName := ⟨RX12, "farm", "(IIIZ)I"⟩
abbrev cX12_cows : ByteArray := prog_14_method_9_code
def yX12_cows : MethodName := ⟨RX12, "cows", "(I)I"⟩
abbrev cX12_isMember : ByteArray := prog_14_method_10_code
def yX12_isMember : MethodName := ⟨RX12, "isMember", "(I)Z"⟩
abbrev cX12_change : ByteArray := prog_14_method_11_code
def yX12_change : MethodName := ⟨RX12, "change", "(IIZ)I"⟩
abbrev cX12_can : ByteArray := prog_14_method_12_code
def yX12_can : MethodName := ⟨RX12, "can", "(III)I"⟩
abbrev cX12_test : ByteArray := prog_14_method_13_code
def yX12_test : MethodName := ⟨RX12, "test", "(IIIII)I"⟩
abbrev cX12_right : ByteArray := prog_14_method_14_code
def yX12_right : MethodName := ⟨RX12, "right", "(III)I"⟩
abbrev cX12_bias : ByteArray := prog_14_method_15_code
def yX12_bias : MethodName := ⟨RX12, "bias", "(II)I"⟩
abbrev cX12_period : ByteArray := prog_14_method_16_code
def yX12_period : MethodName := ⟨RX12, "period", "(I)I"⟩
abbrev cX12_isKnown : ByteArray := prog_14_method_17_code
def yX12_isKnown : MethodName := ⟨RX12, "isKnown", "(II)Z"⟩
abbrev cX12_numberOf : ByteArray := prog_14_method_18_code
def yX12_numberOf : MethodName := ⟨RX12, "numberOf", "(II)I"⟩
abbrev cX12_leant : ByteArray := prog_14_method_19_code
def yX12_leant : MethodName := ⟨RX12, "leant", "(II)I"⟩
abbrev cX12_isAhead : ByteArray := prog_14_method_20_code
def yX12_isAhead : MethodName := ⟨RX12, "isAhead", "(II)Z"⟩
abbrev cX12_rateOf : ByteArray := prog_14_method_21_code
def yX12_rateOf : MethodName := ⟨RX12, "rateOf", "(II)I"⟩
abbrev cX12_findRates : ByteArray := prog_14_method_22_code
def yX12_findRates : MethodName := ⟨RX12, "findRates", "(I)V"⟩
abbrev cX12_rate : ByteArray := prog_14_method_23_code
def yX12_rate : MethodName := ⟨RX12, "rate", "(II)I"⟩
abbrev cX12_farmRate : ByteArray := prog_14_method_24_code
def yX12_farmRate : MethodName := ⟨RX12, "farmRate", "(II)I"⟩
abbrev cX12_rateOfCan : ByteArray := prog_14_method_25_code
def yX12_rateOfCan : MethodName := ⟨RX12, "rateOfCan", "(I)I"⟩
abbrev cX12_canRate : ByteArray := prog_14_method_26_code
def yX12_canRate : MethodName := ⟨RX12, "canRate", "(II)I"⟩
abbrev cX12_fatOf : ByteArray := prog_14_method_27_code
def yX12_fatOf : MethodName := ⟨RX12, "fatOf", "(I)J"⟩
abbrev cX12_fat : ByteArray := prog_14_method_28_code
def yX12_fat : MethodName := ⟨RX12, "fat", "(III)J"⟩
abbrev cX12_churn : ByteArray := prog_14_method_29_code
def yX12_churn : MethodName := ⟨RX12, "churn", "(II)I"⟩
abbrev cX12_fill : ByteArray := prog_14_method_30_code
def yX12_fill : MethodName := ⟨RX12, "fill", "(II)I"⟩
abbrev cX12_cansOf : ByteArray := prog_14_method_31_code
def yX12_cansOf : MethodName := ⟨RX12, "cansOf", "(I)I"⟩
abbrev cX12_size : ByteArray := prog_14_method_32_code
def yX12_size : MethodName := ⟨RX12, "size", "(I)I"⟩
abbrev cX12_lossOf : ByteArray := prog_14_method_33_code
def yX12_lossOf : MethodName := ⟨RX12, "lossOf", "(I)I"⟩
abbrev cX12_churnFat : ByteArray := prog_14_method_34_code
def yX12_churnFat : MethodName := ⟨RX12, "churnFat", "(II)J"⟩
abbrev cX12_butter : ByteArray := prog_14_method_35_code
def yX12_butter : MethodName := ⟨RX12, "butter", "(I)J"⟩
abbrev cX12_agrees : ByteArray := prog_14_method_36_code
def yX12_agrees : MethodName := ⟨RX12, "agrees", "(I)I"⟩
abbrev cX12_boxesOf : ByteArray := prog_14_method_37_code
def yX12_boxesOf : MethodName := ⟨RX12, "boxesOf", "(I)I"⟩
abbrev cX12_penceOf : ByteArray := prog_14_method_38_code
def yX12_penceOf : MethodName := ⟨RX12, "penceOf", "(II)J"⟩
abbrev cX12_about : ByteArray := prog_14_method_39_code
def yX12_about : MethodName := ⟨RX12, "about", "(III)J"⟩
abbrev cX12_out : ByteArray := prog_14_method_40_code
def yX12_out : MethodName := ⟨RX12, "out", "(II)I"⟩
abbrev cX12_box : ByteArray := prog_14_method_41_code
def yX12_box : MethodName := ⟨RX12, "box", "(I)I"⟩
abbrev cX12_sell : ByteArray := prog_14_method_42_code
def yX12_sell : MethodName := ⟨RX12, "sell", "(III)I"⟩
abbrev cX12_grade : ByteArray := prog_14_method_43_code
def yX12_grade : MethodName := ⟨RX12, "grade", "(III)I"⟩
abbrev cX12_lean : ByteArray := prog_14_method_44_code
def yX12_lean : MethodName := ⟨RX12, "lean", "()I"⟩
abbrev cX12_lot : ByteArray := prog_14_method_45_code
def yX12_lot : MethodName := ⟨RX12, "lot", "(II)I"⟩
abbrev cX12_lead : ByteArray := prog_14_method_46_code
def yX12_lead : MethodName := ⟨RX12, "lead", "(III)J"⟩
abbrev cX12_emits : ByteArray := prog_14_method_47_code
def yX12_emits : MethodName := ⟨RX12, "emits", "(II)I"⟩
abbrev cX12_waitsWith : ByteArray := prog_14_method_48_code
def yX12_waitsWith : MethodName := ⟨RX12, "waitsWith", "(III)V"⟩
abbrev cX12_holds : ByteArray := prog_14_method_49_code
def yX12_holds : MethodName := ⟨RX12, "holds", "(I)I"⟩
abbrev cX12_stepOf : ByteArray := prog_14_method_50_code
def yX12_stepOf : MethodName := ⟨RX12, "stepOf", "(I)I"⟩
abbrev cX12_settles : ByteArray := prog_14_method_51_code
def yX12_settles : MethodName := ⟨RX12, "settles", "(I)V"⟩
abbrev cX12_settlesChosen : ByteArray := prog_14_method_52_code
def yX12_settlesChosen : MethodName := ⟨RX12, "settlesChosen", "()V"⟩
abbrev cX12_top : ByteArray := prog_14_method_53_code
def yX12_top : MethodName := ⟨RX12, "top", "()I"⟩
abbrev cX12_goesOn : ByteArray := prog_14_method_54_code
def yX12_goesOn : MethodName := ⟨RX12, "goesOn", "(I)Z"⟩
abbrev cX12_nameOf : ByteArray := prog_14_method_55_code
def yX12_nameOf : MethodName := ⟨RX12, "nameOf", "(I)I"⟩
abbrev cX12_reads : ByteArray := prog_14_method_56_code
def yX12_reads : MethodName := ⟨RX12, "reads", "(I)I"⟩
abbrev cX12_isIn : ByteArray := prog_14_method_57_code
def yX12_isIn : MethodName := ⟨RX12, "isIn", "(III)Z"⟩
abbrev cX12_weightOf : ByteArray := prog_14_method_58_code
def yX12_weightOf : MethodName := ⟨RX12, "weightOf", "(II)I"⟩
abbrev cX12_findNames : ByteArray := prog_14_method_60_code
def yX12_findNames : MethodName := ⟨RX12, "findNames", "(II)V"⟩
abbrev cX12_puts : ByteArray := prog_14_method_61_code
def yX12_puts : MethodName := ⟨RX12, "puts", "(JZ)V"⟩
abbrev cX12_twoOf : ByteArray := prog_14_method_62_code
def yX12_twoOf : MethodName := ⟨RX12, "twoOf", "(IJJ)J"⟩
abbrev cX12_works : ByteArray := prog_14_method_63_code
def yX12_works : MethodName := ⟨RX12, "works", "(I)V"⟩
abbrev cX12_jumps : ByteArray := prog_14_method_64_code
def yX12_jumps : MethodName := ⟨RX12, "jumps", "(I)I"⟩
abbrev cX12_goes : ByteArray := prog_14_method_65_code
def yX12_goes : MethodName := ⟨RX12, "goes", "()Z"⟩
abbrev cX12_isText : ByteArray := prog_14_method_66_code
def yX12_isText : MethodName := ⟨RX12, "isText", "(I)Z"⟩
abbrev cX12_write : ByteArray := prog_14_method_67_code
def yX12_write : MethodName := ⟨RX12, "write", "(II)I"⟩
abbrev cX12_erase : ByteArray := prog_14_method_68_code
def yX12_erase : MethodName := ⟨RX12, "erase", "(I)I"⟩
abbrev cX12_fault : ByteArray := prog_14_method_69_code
def yX12_fault : MethodName := ⟨RX12, "fault", "(I)I"⟩
abbrev cX12_tells : ByteArray := prog_14_method_70_code
def yX12_tells : MethodName := ⟨RX12, "tells", "(IIII)J"⟩
abbrev cX12_motion : ByteArray := prog_14_method_71_code
def yX12_motion : MethodName := ⟨RX12, "motion", "(IIZ)I"⟩
abbrev cX12_vote : ByteArray := prog_14_method_72_code
def yX12_vote : MethodName := ⟨RX12, "vote", "(III)I"⟩
abbrev cX12_tear : ByteArray := prog_14_method_73_code
def yX12_tear : MethodName := ⟨RX12, "tear", "(IZ)I"⟩
abbrev cX12_voted : ByteArray := prog_14_method_74_code
def yX12_voted : MethodName := ⟨RX12, "voted", "(II)I"⟩
abbrev cX12_isPassed : ByteArray := prog_14_method_75_code
def yX12_isPassed : MethodName := ⟨RX12, "isPassed", "(I)Z"⟩
abbrev cX12_motionOf : ByteArray := prog_14_method_76_code
def yX12_motionOf : MethodName := ⟨RX12, "motionOf", "(II)I"⟩
abbrev cX12_motionAt : ByteArray := prog_14_method_77_code
def yX12_motionAt : MethodName := ⟨RX12, "motionAt", "(II)I"⟩
abbrev cX12_forceOf : ByteArray := prog_14_method_78_code
def yX12_forceOf : MethodName := ⟨RX12, "forceOf", "(I)I"⟩
abbrev cX12_force : ByteArray := prog_14_method_79_code
def yX12_force : MethodName := ⟨RX12, "force", "(I)I"⟩
abbrev cX12_moneyOf : ByteArray := prog_14_method_80_code
def yX12_moneyOf : MethodName := ⟨RX12, "moneyOf", "(II)J"⟩
abbrev cX12_money : ByteArray := prog_14_method_81_code
def yX12_money : MethodName := ⟨RX12, "money", "(II)J"⟩
abbrev cX12_findShares : ByteArray := prog_14_method_82_code
def yX12_findShares : MethodName := ⟨RX12, "findShares", "(II)V"⟩
abbrev cX12_share : ByteArray := prog_14_method_83_code
def yX12_share : MethodName := ⟨RX12, "share", "(III)J"⟩
abbrev cX12_pay : ByteArray := prog_14_method_84_code
def yX12_pay : MethodName := ⟨RX12, "pay", "(III)J"⟩
abbrev cX12_watered : ByteArray := prog_14_method_85_code
def yX12_watered : MethodName := ⟨RX12, "watered", "(III)I"⟩
abbrev cX12_sour : ByteArray := prog_14_method_86_code
def yX12_sour : MethodName := ⟨RX12, "sour", "(I)I"⟩
abbrev cX12_miles : ByteArray := prog_14_method_87_code
def yX12_miles : MethodName := ⟨RX12, "miles", "(IIII)I"⟩
abbrev cX12_farmMiles : ByteArray := prog_14_method_88_code
def yX12_farmMiles : MethodName := ⟨RX12, "farmMiles", "(III)I"⟩
abbrev cX12_milesBack : ByteArray := prog_14_method_89_code
def yX12_milesBack : MethodName := ⟨RX12, "milesBack", "()I"⟩
abbrev cX12_nextOrder : ByteArray := prog_14_method_90_code
def yX12_nextOrder : MethodName := ⟨RX12, "nextOrder", "()Z"⟩
abbrev cX12_findRoute : ByteArray := prog_14_method_91_code
def yX12_findRoute : MethodName := ⟨RX12, "findRoute", "(I)V"⟩
abbrev cX12_sizeOf : ByteArray := prog_14_method_92_code
def yX12_sizeOf : MethodName := ⟨RX12, "sizeOf", "(I)I"⟩
abbrev cX12_whyRoute : ByteArray := prog_14_method_93_code
def yX12_whyRoute : MethodName := ⟨RX12, "whyRoute", "(IZ)I"⟩
abbrev cX12_route : ByteArray := prog_14_method_94_code
def yX12_route : MethodName := ⟨RX12, "route", "(I)I"⟩
abbrev cX12_routeAt : ByteArray := prog_14_method_95_code
def yX12_routeAt : MethodName := ⟨RX12, "routeAt", "(II)I"⟩
abbrev cX12_cream : ByteArray := prog_14_method_96_code
def yX12_cream : MethodName := ⟨RX12, "cream", "(III)I"⟩
abbrev cX12_drain : ByteArray := prog_14_method_97_code
def yX12_drain : MethodName := ⟨RX12, "drain", "()I"⟩
abbrev cX12_lossOfHeap : ByteArray := prog_14_method_98_code
def yX12_lossOfHeap : MethodName := ⟨RX12, "lossOfHeap", "(I)J"⟩
abbrev cX12_findHeaps : ByteArray := prog_14_method_99_code
def yX12_findHeaps : MethodName := ⟨RX12, "findHeaps", "(I)V"⟩
abbrev cX12_weighs : ByteArray := prog_14_method_100_code
def yX12_weighs : MethodName := ⟨RX12, "weighs", "(II)V"⟩
abbrev cX12_nextHeaps : ByteArray := prog_14_method_101_code
def yX12_nextHeaps : MethodName := ⟨RX12, "nextHeaps", "(I)Z"⟩
abbrev cX12_together : ByteArray := prog_14_method_102_code
def yX12_together : MethodName := ⟨RX12, "together", "(I)J"⟩
abbrev cX12_heap : ByteArray := prog_14_method_103_code
def yX12_heap : MethodName := ⟨RX12, "heap", "(II)I"⟩
abbrev cX12_gives : ByteArray := prog_14_method_104_code
def yX12_gives : MethodName := ⟨RX12, "gives", "(II)I"⟩
abbrev cX12_calved : ByteArray := prog_14_method_105_code
def yX12_calved : MethodName := ⟨RX12, "calved", "(III)I"⟩
abbrev cX12_foretold : ByteArray := prog_14_method_106_code
def yX12_foretold : MethodName := ⟨RX12, "foretold", "(II)I"⟩
abbrev cX12_site : ByteArray := prog_14_method_107_code
def yX12_site : MethodName := ⟨RX12, "site", "(III)I"⟩
abbrev cX12_freight : ByteArray := prog_14_method_108_code
def yX12_freight : MethodName := ⟨RX12, "freight", "(I)I"⟩
abbrev cX12_toSite : ByteArray := prog_14_method_109_code
def yX12_toSite : MethodName := ⟨RX12, "toSite", "(II)I"⟩
abbrev cX12_nearestOf : ByteArray := prog_14_method_110_code
def yX12_nearestOf : MethodName := ⟨RX12, "nearestOf", "(II)I"⟩
abbrev cX12_costOf : ByteArray := prog_14_method_111_code
def yX12_costOf : MethodName := ⟨RX12, "costOf", "(I)J"⟩
abbrev cX12_open : ByteArray := prog_14_method_112_code
def yX12_open : MethodName := ⟨RX12, "open", "(I)J"⟩
abbrev cX12_nearest : ByteArray := prog_14_method_113_code
def yX12_nearest : MethodName := ⟨RX12, "nearest", "(II)I"⟩
abbrev cX12_loan : ByteArray := prog_14_method_114_code
def yX12_loan : MethodName := ⟨RX12, "loan", "(III)I"⟩
abbrev cX12_weekOn : ByteArray := prog_14_method_115_code
def yX12_weekOn : MethodName := ⟨RX12, "weekOn", "(IJ)J"⟩
abbrev cX12_owed : ByteArray := prog_14_method_116_code
def yX12_owed : MethodName := ⟨RX12, "owed", "(II)J"⟩
abbrev cX12_ends : ByteArray := prog_14_method_117_code
def yX12_ends : MethodName := ⟨RX12, "ends", "(I)I"⟩
abbrev cX12_image : ByteArray := prog_14_method_118_code
def yX12_image : MethodName := ⟨RX12, "image", "(I)I"⟩
abbrev cX12_from : ByteArray := prog_14_method_119_code
def yX12_from : MethodName := ⟨RX12, "from", "(I)I"⟩
abbrev cX12_count : ByteArray := prog_14_method_120_code
def yX12_count : MethodName := ⟨RX12, "count", "(I)I"⟩
abbrev cX12_mixed : ByteArray := prog_14_method_121_code
def yX12_mixed : MethodName := ⟨RX12, "mixed", "(JII)J"⟩
abbrev cX12_digest : ByteArray := prog_14_method_122_code
def yX12_digest : MethodName := ⟨RX12, "digest", "()J"⟩
def RJ6 : String := "java/lang/Integer"
def TJ6 : u_T := fun k => match k with
  | _ => ("", "", "", false)
def tyJ6 : Nat → FieldType := fun k => match k with
  | _ => .int
abbrev wsJ60 : List Cond := u_ws RJ6 TJ6 0
abbrev cJ6_numberOfTrailingZeros_0f7a4 : ByteArray := prog_15_method_48_code
def yJ6_numberOfTrailingZeros_0f7a4 : MethodName := ⟨RJ6, "numberOfTrailingZeros", "(I)I"⟩
abbrev cJ6_bitCount_0f7a4 : ByteArray := prog_15_method_49_code
def yJ6_bitCount_0f7a4 : MethodName := ⟨RJ6, "bitCount", "(I)I"⟩
def RJ9 : String := "java/lang/Math"
def TJ9 : u_T := fun k => match k with
  | _ => ("", "", "", false)
def tyJ9 : Nat → FieldType := fun k => match k with
  | _ => .int
abbrev wsJ90 : List Cond := u_ws RJ9 TJ9 0
abbrev cJ9_abs_0f7a4 : ByteArray := prog_16_method_59_code
def yJ9_abs_0f7a4 : MethodName := ⟨RJ9, "abs", "(I)I"⟩
abbrev cJ9_abs_067f4 : ByteArray := prog_16_method_61_code
def yJ9_abs_067f4 : MethodName := ⟨RJ9, "abs", "(J)J"⟩
abbrev cJ9_max_7cf53 : ByteArray := prog_16_method_65_code
def yJ9_max_7cf53 : MethodName := ⟨RJ9, "max", "(II)I"⟩
abbrev cJ9_max_f86c9 : ByteArray := prog_16_method_66_code
def yJ9_max_f86c9 : MethodName := ⟨RJ9, "max", "(JJ)J"⟩
abbrev cJ9_min_7cf53 : ByteArray := prog_16_method_69_code
def yJ9_min_7cf53 : MethodName := ⟨RJ9, "min", "(II)I"⟩
abbrev cJ9_min_f86c9 : ByteArray := prog_16_method_70_code
def yJ9_min_f86c9 : MethodName := ⟨RJ9, "min", "(JJ)J"⟩
def RJ10 : String := "java/lang/System"
def TJ10 : u_T := fun k => match k with
  | _ => ("", "", "", false)
def tyJ10 : Nat → FieldType := fun k => match k with
  | _ => .int
abbrev wsJ100 : List Cond := u_ws RJ10 TJ10 0
def RJ7 : String := "java/util/Arrays"
def TJ7 : u_T := fun k => match k with
  | _ => ("", "", "", false)
def tyJ7 : Nat → FieldType := fun k => match k with
  | _ => .int
abbrev wsJ70 : List Cond := u_ws RJ7 TJ7 0
abbrev cJ7_fill_d0a16 : ByteArray := prog_18_method_101_code
def yJ7_fill_d0a16 : MethodName := ⟨RJ7, "fill", "([JJ)V"⟩
abbrev cJ7_fill_53178 : ByteArray := prog_18_method_103_code
def yJ7_fill_53178 : MethodName := ⟨RJ7, "fill", "([II)V"⟩
def RL : String := "CountyCreamLaw"
abbrev cL_law : ByteArray := code
def yL_law : MethodName := ⟨RL, "law", "([I)Z"⟩
abbrev vwCl : List vw_C := [(RX0, TX0, 2), (RX2, TX2, 6), (RX3, TX3, 8), (RX4, TX4, 2), (RX5, TX5, 16), (RX6, TX6, 3), (RX7, TX7, 10), (RX8, TX8, 14), (RX9, TX9, 4), (RX10, TX10, 3), (RX11, TX11, 11), (RX12, TX12, 31)]
