-- ===== PART A: goes FIRST, ahead of the names: the tables' words, and 'selects' of the private methods out of them =====
/-- a private method of a class that the tables say can be made, by its rows of tables_1 -/
def lw_okq (q : MethodName × Nat) : Prop := (q.1.cls ≠ "java/lang/invoke/MethodHandle" ∧ q.1.cls ≠ "java/lang/invoke/VarHandle") ∧ Cond.instantiable q.1.cls q.2 ∈ tables_1 ∧ Cond.privateMethod q.1 ∈ tables_1 ∧ Cond.instanceMethod q.1 ∈ tables_1
theorem lw_p0 : lw_okq (⟨"SofaStair$Way", "measure", "(III)V"⟩, 5) := ⟨⟨by decide +kernel, by decide +kernel⟩, List.mem_of_getElem? (i := 49) (by decide +kernel), List.mem_of_getElem? (i := 55) (by decide +kernel), List.mem_of_getElem? (i := 56) (by decide +kernel)⟩
theorem lw_p1 : lw_okq (⟨"SofaStair$Turns", "turnedAxis", "(III)I"⟩, 2) := ⟨⟨by decide +kernel, by decide +kernel⟩, List.mem_of_getElem? (i := 157) (by decide +kernel), List.mem_of_getElem? (i := 163) (by decide +kernel), List.mem_of_getElem? (i := 164) (by decide +kernel)⟩
theorem lw_p2 : lw_okq (⟨"SofaStair$Turns", "find", "(IIII)I"⟩, 2) := ⟨⟨by decide +kernel, by decide +kernel⟩, List.mem_of_getElem? (i := 157) (by decide +kernel), List.mem_of_getElem? (i := 174) (by decide +kernel), List.mem_of_getElem? (i := 175) (by decide +kernel)⟩
theorem lw_p3 : lw_okq (⟨"SofaStair", "forgetWay", "()V"⟩, 9) := ⟨⟨by decide +kernel, by decide +kernel⟩, List.mem_of_getElem? (i := 19) (by decide +kernel), List.mem_of_getElem? (i := 327) (by decide +kernel), List.mem_of_getElem? (i := 328) (by decide +kernel)⟩
theorem lw_p4 : lw_okq (⟨"SofaStair$Pad", "standsInThing", "(I)Z"⟩, 2) := ⟨⟨by decide +kernel, by decide +kernel⟩, List.mem_of_getElem? (i := 27) (by decide +kernel), List.mem_of_getElem? (i := 395) (by decide +kernel), List.mem_of_getElem? (i := 396) (by decide +kernel)⟩
theorem lw_p5 : lw_okq (⟨"SofaStair$Pad", "isThere", "(I)Z"⟩, 2) := ⟨⟨by decide +kernel, by decide +kernel⟩, List.mem_of_getElem? (i := 27) (by decide +kernel), List.mem_of_getElem? (i := 408) (by decide +kernel), List.mem_of_getElem? (i := 409) (by decide +kernel)⟩
theorem lw_p6 : lw_okq (⟨"SofaStair$Pad", "leastIsZero", "()Z"⟩, 2) := ⟨⟨by decide +kernel, by decide +kernel⟩, List.mem_of_getElem? (i := 27) (by decide +kernel), List.mem_of_getElem? (i := 412) (by decide +kernel), List.mem_of_getElem? (i := 413) (by decide +kernel)⟩
theorem lw_p7 : lw_okq (⟨"SofaStair$Thing", "put", "(IIII)V"⟩, 8) := ⟨⟨by decide +kernel, by decide +kernel⟩, List.mem_of_getElem? (i := 92) (by decide +kernel), List.mem_of_getElem? (i := 523) (by decide +kernel), List.mem_of_getElem? (i := 524) (by decide +kernel)⟩
theorem lw_p8 : lw_okq (⟨"SofaStair", "turnedByPad", "()I"⟩, 9) := ⟨⟨by decide +kernel, by decide +kernel⟩, List.mem_of_getElem? (i := 19) (by decide +kernel), List.mem_of_getElem? (i := 560) (by decide +kernel), List.mem_of_getElem? (i := 561) (by decide +kernel)⟩
theorem lw_p9 : lw_okq (⟨"SofaStair$Search", "drawGrid", "()V"⟩, 11) := ⟨⟨by decide +kernel, by decide +kernel⟩, List.mem_of_getElem? (i := 186) (by decide +kernel), List.mem_of_getElem? (i := 573) (by decide +kernel), List.mem_of_getElem? (i := 574) (by decide +kernel)⟩
theorem lw_p10 : lw_okq (⟨"SofaStair$Search", "lookAt", "(I)I"⟩, 11) := ⟨⟨by decide +kernel, by decide +kernel⟩, List.mem_of_getElem? (i := 186) (by decide +kernel), List.mem_of_getElem? (i := 592) (by decide +kernel), List.mem_of_getElem? (i := 593) (by decide +kernel)⟩
theorem lw_p11 : lw_okq (⟨"SofaStair", "judged", "(LSofaStair$Thing;I)I"⟩, 9) := ⟨⟨by decide +kernel, by decide +kernel⟩, List.mem_of_getElem? (i := 19) (by decide +kernel), List.mem_of_getElem? (i := 610) (by decide +kernel), List.mem_of_getElem? (i := 611) (by decide +kernel)⟩
theorem lw_p12 : lw_okq (⟨"SofaStair", "rowAnswer", "(IIIII)I"⟩, 9) := ⟨⟨by decide +kernel, by decide +kernel⟩, List.mem_of_getElem? (i := 19) (by decide +kernel), List.mem_of_getElem? (i := 635) (by decide +kernel), List.mem_of_getElem? (i := 636) (by decide +kernel)⟩
theorem lw_p13 : lw_okq (⟨"SofaStair", "findGoes", "(LSofaStair$Thing;)V"⟩, 9) := ⟨⟨by decide +kernel, by decide +kernel⟩, List.mem_of_getElem? (i := 19) (by decide +kernel), List.mem_of_getElem? (i := 653) (by decide +kernel), List.mem_of_getElem? (i := 654) (by decide +kernel)⟩
theorem lw_p14 : lw_okq (⟨"SofaStair$Search", "reach", "(II)V"⟩, 11) := ⟨⟨by decide +kernel, by decide +kernel⟩, List.mem_of_getElem? (i := 186) (by decide +kernel), List.mem_of_getElem? (i := 665) (by decide +kernel), List.mem_of_getElem? (i := 666) (by decide +kernel)⟩
theorem lw_p15 : lw_okq (⟨"SofaStair$Cheapest", "come", "(II)V"⟩, 6) := ⟨⟨by decide +kernel, by decide +kernel⟩, List.mem_of_getElem? (i := 235) (by decide +kernel), List.mem_of_getElem? (i := 726) (by decide +kernel), List.mem_of_getElem? (i := 727) (by decide +kernel)⟩
def lw_privs_1 : List (MethodName × Nat) := [(⟨"SofaStair$Way", "measure", "(III)V"⟩, 5), (⟨"SofaStair$Turns", "turnedAxis", "(III)I"⟩, 2), (⟨"SofaStair$Turns", "find", "(IIII)I"⟩, 2), (⟨"SofaStair", "forgetWay", "()V"⟩, 9), (⟨"SofaStair$Pad", "standsInThing", "(I)Z"⟩, 2), (⟨"SofaStair$Pad", "isThere", "(I)Z"⟩, 2), (⟨"SofaStair$Pad", "leastIsZero", "()Z"⟩, 2), (⟨"SofaStair$Thing", "put", "(IIII)V"⟩, 8), (⟨"SofaStair", "turnedByPad", "()I"⟩, 9), (⟨"SofaStair$Search", "drawGrid", "()V"⟩, 11), (⟨"SofaStair$Search", "lookAt", "(I)I"⟩, 11), (⟨"SofaStair", "judged", "(LSofaStair$Thing;I)I"⟩, 9), (⟨"SofaStair", "rowAnswer", "(IIIII)I"⟩, 9), (⟨"SofaStair", "findGoes", "(LSofaStair$Thing;)V"⟩, 9), (⟨"SofaStair$Search", "reach", "(II)V"⟩, 11), (⟨"SofaStair$Cheapest", "come", "(II)V"⟩, 6)]
theorem lw_r1 : ∀ q ∈ lw_privs_1, lw_okq q := List.forall_mem_cons.mpr ⟨lw_p0, List.forall_mem_cons.mpr ⟨lw_p1, List.forall_mem_cons.mpr ⟨lw_p2, List.forall_mem_cons.mpr ⟨lw_p3, List.forall_mem_cons.mpr ⟨lw_p4, List.forall_mem_cons.mpr ⟨lw_p5, List.forall_mem_cons.mpr ⟨lw_p6, List.forall_mem_cons.mpr ⟨lw_p7, List.forall_mem_cons.mpr ⟨lw_p8, List.forall_mem_cons.mpr ⟨lw_p9, List.forall_mem_cons.mpr ⟨lw_p10, List.forall_mem_cons.mpr ⟨lw_p11, List.forall_mem_cons.mpr ⟨lw_p12, List.forall_mem_cons.mpr ⟨lw_p13, List.forall_mem_cons.mpr ⟨lw_p14, List.forall_mem_cons.mpr ⟨lw_p15, fun _ h => absurd h List.not_mem_nil⟩⟩⟩⟩⟩⟩⟩⟩⟩⟩⟩⟩⟩⟩⟩⟩
theorem lw_p16 : lw_okq (⟨"SofaStair$Cheapest", "rise", "(I)V"⟩, 6) := ⟨⟨by decide +kernel, by decide +kernel⟩, List.mem_of_getElem? (i := 235) (by decide +kernel), List.mem_of_getElem? (i := 731) (by decide +kernel), List.mem_of_getElem? (i := 732) (by decide +kernel)⟩
theorem lw_p17 : lw_okq (⟨"SofaStair$Cheapest", "put", "(II)V"⟩, 6) := ⟨⟨by decide +kernel, by decide +kernel⟩, List.mem_of_getElem? (i := 235) (by decide +kernel), List.mem_of_getElem? (i := 735) (by decide +kernel), List.mem_of_getElem? (i := 736) (by decide +kernel)⟩
theorem lw_p18 : lw_okq (⟨"SofaStair$Cheapest", "takeNearest", "()I"⟩, 6) := ⟨⟨by decide +kernel, by decide +kernel⟩, List.mem_of_getElem? (i := 235) (by decide +kernel), List.mem_of_getElem? (i := 739) (by decide +kernel), List.mem_of_getElem? (i := 740) (by decide +kernel)⟩
theorem lw_p19 : lw_okq (⟨"SofaStair$Cheapest", "sink", "(I)V"⟩, 6) := ⟨⟨by decide +kernel, by decide +kernel⟩, List.mem_of_getElem? (i := 235) (by decide +kernel), List.mem_of_getElem? (i := 743) (by decide +kernel), List.mem_of_getElem? (i := 744) (by decide +kernel)⟩
theorem lw_p20 : lw_okq (⟨"SofaStair$Cheapest", "walk", "(ILSofaStair$Answer;)V"⟩, 6) := ⟨⟨by decide +kernel, by decide +kernel⟩, List.mem_of_getElem? (i := 235) (by decide +kernel), List.mem_of_getElem? (i := 747) (by decide +kernel), List.mem_of_getElem? (i := 748) (by decide +kernel)⟩
theorem lw_p21 : lw_okq (⟨"SofaStair$Cheapest", "firstMove", "(I)I"⟩, 6) := ⟨⟨by decide +kernel, by decide +kernel⟩, List.mem_of_getElem? (i := 235) (by decide +kernel), List.mem_of_getElem? (i := 751) (by decide +kernel), List.mem_of_getElem? (i := 752) (by decide +kernel)⟩
theorem lw_p22 : lw_okq (⟨"SofaStair$Cheapest", "comeBackFrom", "(I)V"⟩, 6) := ⟨⟨by decide +kernel, by decide +kernel⟩, List.mem_of_getElem? (i := 235) (by decide +kernel), List.mem_of_getElem? (i := 762) (by decide +kernel), List.mem_of_getElem? (i := 763) (by decide +kernel)⟩
theorem lw_p23 : lw_okq (⟨"SofaStair", "scrapes", "(LSofaStair$Thing;)I"⟩, 9) := ⟨⟨by decide +kernel, by decide +kernel⟩, List.mem_of_getElem? (i := 19) (by decide +kernel), List.mem_of_getElem? (i := 780) (by decide +kernel), List.mem_of_getElem? (i := 781) (by decide +kernel)⟩
theorem lw_p24 : lw_okq (⟨"SofaStair", "scrapesAt", "(LSofaStair$Thing;III)I"⟩, 9) := ⟨⟨by decide +kernel, by decide +kernel⟩, List.mem_of_getElem? (i := 19) (by decide +kernel), List.mem_of_getElem? (i := 784) (by decide +kernel), List.mem_of_getElem? (i := 785) (by decide +kernel)⟩
theorem lw_p25 : lw_okq (⟨"SofaStair", "turnable", "(LSofaStair$Thing;)I"⟩, 9) := ⟨⟨by decide +kernel, by decide +kernel⟩, List.mem_of_getElem? (i := 19) (by decide +kernel), List.mem_of_getElem? (i := 789) (by decide +kernel), List.mem_of_getElem? (i := 790) (by decide +kernel)⟩
theorem lw_p26 : lw_okq (⟨"SofaStair", "fitsAllRound", "(II)Z"⟩, 9) := ⟨⟨by decide +kernel, by decide +kernel⟩, List.mem_of_getElem? (i := 19) (by decide +kernel), List.mem_of_getElem? (i := 794) (by decide +kernel), List.mem_of_getElem? (i := 795) (by decide +kernel)⟩
theorem lw_p27 : lw_okq (⟨"SofaStair", "findLeast", "(LSofaStair$Thing;)V"⟩, 9) := ⟨⟨by decide +kernel, by decide +kernel⟩, List.mem_of_getElem? (i := 19) (by decide +kernel), List.mem_of_getElem? (i := 803) (by decide +kernel), List.mem_of_getElem? (i := 804) (by decide +kernel)⟩
theorem lw_p28 : lw_okq (⟨"SofaStair", "goesWith", "(LSofaStair$Thing;I)Z"⟩, 9) := ⟨⟨by decide +kernel, by decide +kernel⟩, List.mem_of_getElem? (i := 19) (by decide +kernel), List.mem_of_getElem? (i := 815) (by decide +kernel), List.mem_of_getElem? (i := 816) (by decide +kernel)⟩
theorem lw_p29 : lw_okq (⟨"SofaStair", "neededOf", "(LSofaStair$Thing;I)I"⟩, 9) := ⟨⟨by decide +kernel, by decide +kernel⟩, List.mem_of_getElem? (i := 19) (by decide +kernel), List.mem_of_getElem? (i := 819) (by decide +kernel), List.mem_of_getElem? (i := 820) (by decide +kernel)⟩
theorem lw_p30 : lw_okq (⟨"SofaStair", "sumSetCosts", "(LSofaStair$Thing;)V"⟩, 9) := ⟨⟨by decide +kernel, by decide +kernel⟩, List.mem_of_getElem? (i := 19) (by decide +kernel), List.mem_of_getElem? (i := 824) (by decide +kernel), List.mem_of_getElem? (i := 825) (by decide +kernel)⟩
theorem lw_p31 : lw_okq (⟨"SofaStair", "findBar", "(LSofaStair$Thing;I)V"⟩, 9) := ⟨⟨by decide +kernel, by decide +kernel⟩, List.mem_of_getElem? (i := 19) (by decide +kernel), List.mem_of_getElem? (i := 834) (by decide +kernel), List.mem_of_getElem? (i := 835) (by decide +kernel)⟩
def lw_privs_2 : List (MethodName × Nat) := [(⟨"SofaStair$Cheapest", "rise", "(I)V"⟩, 6), (⟨"SofaStair$Cheapest", "put", "(II)V"⟩, 6), (⟨"SofaStair$Cheapest", "takeNearest", "()I"⟩, 6), (⟨"SofaStair$Cheapest", "sink", "(I)V"⟩, 6), (⟨"SofaStair$Cheapest", "walk", "(ILSofaStair$Answer;)V"⟩, 6), (⟨"SofaStair$Cheapest", "firstMove", "(I)I"⟩, 6), (⟨"SofaStair$Cheapest", "comeBackFrom", "(I)V"⟩, 6), (⟨"SofaStair", "scrapes", "(LSofaStair$Thing;)I"⟩, 9), (⟨"SofaStair", "scrapesAt", "(LSofaStair$Thing;III)I"⟩, 9), (⟨"SofaStair", "turnable", "(LSofaStair$Thing;)I"⟩, 9), (⟨"SofaStair", "fitsAllRound", "(II)Z"⟩, 9), (⟨"SofaStair", "findLeast", "(LSofaStair$Thing;)V"⟩, 9), (⟨"SofaStair", "goesWith", "(LSofaStair$Thing;I)Z"⟩, 9), (⟨"SofaStair", "neededOf", "(LSofaStair$Thing;I)I"⟩, 9), (⟨"SofaStair", "sumSetCosts", "(LSofaStair$Thing;)V"⟩, 9), (⟨"SofaStair", "findBar", "(LSofaStair$Thing;I)V"⟩, 9)]
theorem lw_r2 : ∀ q ∈ lw_privs_2, lw_okq q := List.forall_mem_cons.mpr ⟨lw_p16, List.forall_mem_cons.mpr ⟨lw_p17, List.forall_mem_cons.mpr ⟨lw_p18, List.forall_mem_cons.mpr ⟨lw_p19, List.forall_mem_cons.mpr ⟨lw_p20, List.forall_mem_cons.mpr ⟨lw_p21, List.forall_mem_cons.mpr ⟨lw_p22, List.forall_mem_cons.mpr ⟨lw_p23, List.forall_mem_cons.mpr ⟨lw_p24, List.forall_mem_cons.mpr ⟨lw_p25, List.forall_mem_cons.mpr ⟨lw_p26, List.forall_mem_cons.mpr ⟨lw_p27, List.forall_mem_cons.mpr ⟨lw_p28, List.forall_mem_cons.mpr ⟨lw_p29, List.forall_mem_cons.mpr ⟨lw_p30, List.forall_mem_cons.mpr ⟨lw_p31, fun _ h => absurd h List.not_mem_nil⟩⟩⟩⟩⟩⟩⟩⟩⟩⟩⟩⟩⟩⟩⟩⟩
theorem lw_p32 : lw_okq (⟨"SofaStair", "barGoes", "(LSofaStair$Thing;II)Z"⟩, 9) := ⟨⟨by decide +kernel, by decide +kernel⟩, List.mem_of_getElem? (i := 19) (by decide +kernel), List.mem_of_getElem? (i := 838) (by decide +kernel), List.mem_of_getElem? (i := 839) (by decide +kernel)⟩
theorem lw_p33 : lw_okq (⟨"SofaStair", "findOrder", "(I)V"⟩, 9) := ⟨⟨by decide +kernel, by decide +kernel⟩, List.mem_of_getElem? (i := 19) (by decide +kernel), List.mem_of_getElem? (i := 850) (by decide +kernel), List.mem_of_getElem? (i := 851) (by decide +kernel)⟩
theorem lw_p34 : lw_okq (⟨"SofaStair", "firstToGo", "(I)I"⟩, 9) := ⟨⟨by decide +kernel, by decide +kernel⟩, List.mem_of_getElem? (i := 19) (by decide +kernel), List.mem_of_getElem? (i := 854) (by decide +kernel), List.mem_of_getElem? (i := 855) (by decide +kernel)⟩
theorem lw_p35 : lw_okq (⟨"SofaStair", "goesAmong", "(II)Z"⟩, 9) := ⟨⟨by decide +kernel, by decide +kernel⟩, List.mem_of_getElem? (i := 19) (by decide +kernel), List.mem_of_getElem? (i := 858) (by decide +kernel), List.mem_of_getElem? (i := 859) (by decide +kernel)⟩
theorem lw_p36 : lw_okq (⟨"SofaStair", "findCame", "(LSofaStair$Thing;)V"⟩, 9) := ⟨⟨by decide +kernel, by decide +kernel⟩, List.mem_of_getElem? (i := 19) (by decide +kernel), List.mem_of_getElem? (i := 870) (by decide +kernel), List.mem_of_getElem? (i := 871) (by decide +kernel)⟩
theorem lw_p37 : lw_okq (⟨"SofaStair", "imageAt", "(I)LSofaStair$Stair;"⟩, 9) := ⟨⟨by decide +kernel, by decide +kernel⟩, List.mem_of_getElem? (i := 19) (by decide +kernel), List.mem_of_getElem? (i := 881) (by decide +kernel), List.mem_of_getElem? (i := 882) (by decide +kernel)⟩
theorem lw_p38 : lw_okq (⟨"SofaStairModel", "findTables", "()V"⟩, 43) := ⟨⟨by decide +kernel, by decide +kernel⟩, List.mem_of_getElem? (i := 914) (by decide +kernel), List.mem_of_getElem? (i := 920) (by decide +kernel), List.mem_of_getElem? (i := 921) (by decide +kernel)⟩
theorem lw_p39 : lw_okq (⟨"SofaStairModel", "turn", "(II)V"⟩, 43) := ⟨⟨by decide +kernel, by decide +kernel⟩, List.mem_of_getElem? (i := 914) (by decide +kernel), List.mem_of_getElem? (i := 924) (by decide +kernel), List.mem_of_getElem? (i := 925) (by decide +kernel)⟩
theorem lw_p40 : lw_okq (⟨"SofaStairModel", "tableOf", "(I)I"⟩, 43) := ⟨⟨by decide +kernel, by decide +kernel⟩, List.mem_of_getElem? (i := 914) (by decide +kernel), List.mem_of_getElem? (i := 928) (by decide +kernel), List.mem_of_getElem? (i := 929) (by decide +kernel)⟩
theorem lw_p41 : lw_okq (⟨"SofaStairModel", "isCellNumber", "(I)Z"⟩, 43) := ⟨⟨by decide +kernel, by decide +kernel⟩, List.mem_of_getElem? (i := 914) (by decide +kernel), List.mem_of_getElem? (i := 1077) (by decide +kernel), List.mem_of_getElem? (i := 1078) (by decide +kernel)⟩
theorem lw_p42 : lw_okq (⟨"SofaStairModel", "isCell", "(III)Z"⟩, 43) := ⟨⟨by decide +kernel, by decide +kernel⟩, List.mem_of_getElem? (i := 914) (by decide +kernel), List.mem_of_getElem? (i := 1081) (by decide +kernel), List.mem_of_getElem? (i := 1082) (by decide +kernel)⟩
theorem lw_p43 : lw_okq (⟨"SofaStairModel", "faultOfThing", "()I"⟩, 43) := ⟨⟨by decide +kernel, by decide +kernel⟩, List.mem_of_getElem? (i := 914) (by decide +kernel), List.mem_of_getElem? (i := 1110) (by decide +kernel), List.mem_of_getElem? (i := 1111) (by decide +kernel)⟩
theorem lw_p44 : lw_okq (⟨"SofaStairModel", "wasTold", "(I)Z"⟩, 43) := ⟨⟨by decide +kernel, by decide +kernel⟩, List.mem_of_getElem? (i := 914) (by decide +kernel), List.mem_of_getElem? (i := 1116) (by decide +kernel), List.mem_of_getElem? (i := 1117) (by decide +kernel)⟩
theorem lw_p45 : lw_okq (⟨"SofaStairModel", "faultOfRow", "()I"⟩, 43) := ⟨⟨by decide +kernel, by decide +kernel⟩, List.mem_of_getElem? (i := 914) (by decide +kernel), List.mem_of_getElem? (i := 1122) (by decide +kernel), List.mem_of_getElem? (i := 1123) (by decide +kernel)⟩
theorem lw_p46 : lw_okq (⟨"SofaStairModel", "layCubes", "(II)V"⟩, 43) := ⟨⟨by decide +kernel, by decide +kernel⟩, List.mem_of_getElem? (i := 914) (by decide +kernel), List.mem_of_getElem? (i := 1141) (by decide +kernel), List.mem_of_getElem? (i := 1142) (by decide +kernel)⟩
theorem lw_p47 : lw_okq (⟨"SofaStairModel", "row", "(III)I"⟩, 43) := ⟨⟨by decide +kernel, by decide +kernel⟩, List.mem_of_getElem? (i := 914) (by decide +kernel), List.mem_of_getElem? (i := 1145) (by decide +kernel), List.mem_of_getElem? (i := 1146) (by decide +kernel)⟩
def lw_privs_3 : List (MethodName × Nat) := [(⟨"SofaStair", "barGoes", "(LSofaStair$Thing;II)Z"⟩, 9), (⟨"SofaStair", "findOrder", "(I)V"⟩, 9), (⟨"SofaStair", "firstToGo", "(I)I"⟩, 9), (⟨"SofaStair", "goesAmong", "(II)Z"⟩, 9), (⟨"SofaStair", "findCame", "(LSofaStair$Thing;)V"⟩, 9), (⟨"SofaStair", "imageAt", "(I)LSofaStair$Stair;"⟩, 9), (⟨"SofaStairModel", "findTables", "()V"⟩, 43), (⟨"SofaStairModel", "turn", "(II)V"⟩, 43), (⟨"SofaStairModel", "tableOf", "(I)I"⟩, 43), (⟨"SofaStairModel", "isCellNumber", "(I)Z"⟩, 43), (⟨"SofaStairModel", "isCell", "(III)Z"⟩, 43), (⟨"SofaStairModel", "faultOfThing", "()I"⟩, 43), (⟨"SofaStairModel", "wasTold", "(I)Z"⟩, 43), (⟨"SofaStairModel", "faultOfRow", "()I"⟩, 43), (⟨"SofaStairModel", "layCubes", "(II)V"⟩, 43), (⟨"SofaStairModel", "row", "(III)I"⟩, 43)]
theorem lw_r3 : ∀ q ∈ lw_privs_3, lw_okq q := List.forall_mem_cons.mpr ⟨lw_p32, List.forall_mem_cons.mpr ⟨lw_p33, List.forall_mem_cons.mpr ⟨lw_p34, List.forall_mem_cons.mpr ⟨lw_p35, List.forall_mem_cons.mpr ⟨lw_p36, List.forall_mem_cons.mpr ⟨lw_p37, List.forall_mem_cons.mpr ⟨lw_p38, List.forall_mem_cons.mpr ⟨lw_p39, List.forall_mem_cons.mpr ⟨lw_p40, List.forall_mem_cons.mpr ⟨lw_p41, List.forall_mem_cons.mpr ⟨lw_p42, List.forall_mem_cons.mpr ⟨lw_p43, List.forall_mem_cons.mpr ⟨lw_p44, List.forall_mem_cons.mpr ⟨lw_p45, List.forall_mem_cons.mpr ⟨lw_p46, List.forall_mem_cons.mpr ⟨lw_p47, fun _ h => absurd h List.not_mem_nil⟩⟩⟩⟩⟩⟩⟩⟩⟩⟩⟩⟩⟩⟩⟩⟩
theorem lw_p48 : lw_okq (⟨"SofaStairModel", "rowFault", "(Z)I"⟩, 43) := ⟨⟨by decide +kernel, by decide +kernel⟩, List.mem_of_getElem? (i := 914) (by decide +kernel), List.mem_of_getElem? (i := 1159) (by decide +kernel), List.mem_of_getElem? (i := 1160) (by decide +kernel)⟩
theorem lw_p49 : lw_okq (⟨"SofaStairModel", "takeOff", "(II)V"⟩, 43) := ⟨⟨by decide +kernel, by decide +kernel⟩, List.mem_of_getElem? (i := 914) (by decide +kernel), List.mem_of_getElem? (i := 1163) (by decide +kernel), List.mem_of_getElem? (i := 1164) (by decide +kernel)⟩
theorem lw_p50 : lw_okq (⟨"SofaStairModel", "whyAt", "(IIIII)I"⟩, 43) := ⟨⟨by decide +kernel, by decide +kernel⟩, List.mem_of_getElem? (i := 914) (by decide +kernel), List.mem_of_getElem? (i := 1167) (by decide +kernel), List.mem_of_getElem? (i := 1168) (by decide +kernel)⟩
theorem lw_p51 : lw_okq (⟨"SofaStairModel", "whyNot", "(IIII)I"⟩, 43) := ⟨⟨by decide +kernel, by decide +kernel⟩, List.mem_of_getElem? (i := 914) (by decide +kernel), List.mem_of_getElem? (i := 1171) (by decide +kernel), List.mem_of_getElem? (i := 1172) (by decide +kernel)⟩
theorem lw_p52 : lw_okq (⟨"SofaStairModel", "isOn", "(II)Z"⟩, 43) := ⟨⟨by decide +kernel, by decide +kernel⟩, List.mem_of_getElem? (i := 914) (by decide +kernel), List.mem_of_getElem? (i := 1175) (by decide +kernel), List.mem_of_getElem? (i := 1176) (by decide +kernel)⟩
theorem lw_p53 : lw_okq (⟨"SofaStairModel", "isOpen", "(I)Z"⟩, 43) := ⟨⟨by decide +kernel, by decide +kernel⟩, List.mem_of_getElem? (i := 914) (by decide +kernel), List.mem_of_getElem? (i := 1179) (by decide +kernel), List.mem_of_getElem? (i := 1180) (by decide +kernel)⟩
theorem lw_p54 : lw_okq (⟨"SofaStairModel", "goRow", "(I)Z"⟩, 43) := ⟨⟨by decide +kernel, by decide +kernel⟩, List.mem_of_getElem? (i := 914) (by decide +kernel), List.mem_of_getElem? (i := 1194) (by decide +kernel), List.mem_of_getElem? (i := 1195) (by decide +kernel)⟩
theorem lw_p55 : lw_okq (⟨"SofaStairModel", "step", "(I)V"⟩, 43) := ⟨⟨by decide +kernel, by decide +kernel⟩, List.mem_of_getElem? (i := 914) (by decide +kernel), List.mem_of_getElem? (i := 1198) (by decide +kernel), List.mem_of_getElem? (i := 1199) (by decide +kernel)⟩
theorem lw_p56 : lw_okq (⟨"SofaStairModel", "findOff", "(II)V"⟩, 43) := ⟨⟨by decide +kernel, by decide +kernel⟩, List.mem_of_getElem? (i := 914) (by decide +kernel), List.mem_of_getElem? (i := 1214) (by decide +kernel), List.mem_of_getElem? (i := 1215) (by decide +kernel)⟩
theorem lw_p57 : lw_okq (⟨"SofaStairModel", "findFits", "(I)V"⟩, 43) := ⟨⟨by decide +kernel, by decide +kernel⟩, List.mem_of_getElem? (i := 914) (by decide +kernel), List.mem_of_getElem? (i := 1218) (by decide +kernel), List.mem_of_getElem? (i := 1219) (by decide +kernel)⟩
theorem lw_p58 : lw_okq (⟨"SofaStairModel", "cubesOn", "(I)I"⟩, 43) := ⟨⟨by decide +kernel, by decide +kernel⟩, List.mem_of_getElem? (i := 914) (by decide +kernel), List.mem_of_getElem? (i := 1222) (by decide +kernel), List.mem_of_getElem? (i := 1223) (by decide +kernel)⟩
theorem lw_p59 : lw_okq (⟨"SofaStairModel", "next", "(II)I"⟩, 43) := ⟨⟨by decide +kernel, by decide +kernel⟩, List.mem_of_getElem? (i := 914) (by decide +kernel), List.mem_of_getElem? (i := 1230) (by decide +kernel), List.mem_of_getElem? (i := 1231) (by decide +kernel)⟩
theorem lw_p60 : lw_okq (⟨"SofaStairModel", "costOf", "(I)J"⟩, 43) := ⟨⟨by decide +kernel, by decide +kernel⟩, List.mem_of_getElem? (i := 914) (by decide +kernel), List.mem_of_getElem? (i := 1234) (by decide +kernel), List.mem_of_getElem? (i := 1235) (by decide +kernel)⟩
theorem lw_p61 : lw_okq (⟨"SofaStairModel", "standOf", "(I)I"⟩, 43) := ⟨⟨by decide +kernel, by decide +kernel⟩, List.mem_of_getElem? (i := 914) (by decide +kernel), List.mem_of_getElem? (i := 1239) (by decide +kernel), List.mem_of_getElem? (i := 1240) (by decide +kernel)⟩
theorem lw_p62 : lw_okq (⟨"SofaStairModel", "moveAt", "(II)I"⟩, 43) := ⟨⟨by decide +kernel, by decide +kernel⟩, List.mem_of_getElem? (i := 914) (by decide +kernel), List.mem_of_getElem? (i := 1243) (by decide +kernel), List.mem_of_getElem? (i := 1244) (by decide +kernel)⟩
theorem lw_p63 : lw_okq (⟨"SofaStairModel", "bestMove", "(I)I"⟩, 43) := ⟨⟨by decide +kernel, by decide +kernel⟩, List.mem_of_getElem? (i := 914) (by decide +kernel), List.mem_of_getElem? (i := 1247) (by decide +kernel), List.mem_of_getElem? (i := 1248) (by decide +kernel)⟩
def lw_privs_4 : List (MethodName × Nat) := [(⟨"SofaStairModel", "rowFault", "(Z)I"⟩, 43), (⟨"SofaStairModel", "takeOff", "(II)V"⟩, 43), (⟨"SofaStairModel", "whyAt", "(IIIII)I"⟩, 43), (⟨"SofaStairModel", "whyNot", "(IIII)I"⟩, 43), (⟨"SofaStairModel", "isOn", "(II)Z"⟩, 43), (⟨"SofaStairModel", "isOpen", "(I)Z"⟩, 43), (⟨"SofaStairModel", "goRow", "(I)Z"⟩, 43), (⟨"SofaStairModel", "step", "(I)V"⟩, 43), (⟨"SofaStairModel", "findOff", "(II)V"⟩, 43), (⟨"SofaStairModel", "findFits", "(I)V"⟩, 43), (⟨"SofaStairModel", "cubesOn", "(I)I"⟩, 43), (⟨"SofaStairModel", "next", "(II)I"⟩, 43), (⟨"SofaStairModel", "costOf", "(I)J"⟩, 43), (⟨"SofaStairModel", "standOf", "(I)I"⟩, 43), (⟨"SofaStairModel", "moveAt", "(II)I"⟩, 43), (⟨"SofaStairModel", "bestMove", "(I)I"⟩, 43)]
theorem lw_r4 : ∀ q ∈ lw_privs_4, lw_okq q := List.forall_mem_cons.mpr ⟨lw_p48, List.forall_mem_cons.mpr ⟨lw_p49, List.forall_mem_cons.mpr ⟨lw_p50, List.forall_mem_cons.mpr ⟨lw_p51, List.forall_mem_cons.mpr ⟨lw_p52, List.forall_mem_cons.mpr ⟨lw_p53, List.forall_mem_cons.mpr ⟨lw_p54, List.forall_mem_cons.mpr ⟨lw_p55, List.forall_mem_cons.mpr ⟨lw_p56, List.forall_mem_cons.mpr ⟨lw_p57, List.forall_mem_cons.mpr ⟨lw_p58, List.forall_mem_cons.mpr ⟨lw_p59, List.forall_mem_cons.mpr ⟨lw_p60, List.forall_mem_cons.mpr ⟨lw_p61, List.forall_mem_cons.mpr ⟨lw_p62, List.forall_mem_cons.mpr ⟨lw_p63, fun _ h => absurd h List.not_mem_nil⟩⟩⟩⟩⟩⟩⟩⟩⟩⟩⟩⟩⟩⟩⟩⟩
theorem lw_p64 : lw_okq (⟨"SofaStairModel", "comesTo", "(I)I"⟩, 43) := ⟨⟨by decide +kernel, by decide +kernel⟩, List.mem_of_getElem? (i := 914) (by decide +kernel), List.mem_of_getElem? (i := 1263) (by decide +kernel), List.mem_of_getElem? (i := 1264) (by decide +kernel)⟩
theorem lw_p65 : lw_okq (⟨"SofaStairModel", "scrapes", "(I)I"⟩, 43) := ⟨⟨by decide +kernel, by decide +kernel⟩, List.mem_of_getElem? (i := 914) (by decide +kernel), List.mem_of_getElem? (i := 1267) (by decide +kernel), List.mem_of_getElem? (i := 1268) (by decide +kernel)⟩
theorem lw_p66 : lw_okq (⟨"SofaStairModel", "isOwn", "(IIII)Z"⟩, 43) := ⟨⟨by decide +kernel, by decide +kernel⟩, List.mem_of_getElem? (i := 914) (by decide +kernel), List.mem_of_getElem? (i := 1271) (by decide +kernel), List.mem_of_getElem? (i := 1272) (by decide +kernel)⟩
theorem lw_p67 : lw_okq (⟨"SofaStairModel", "against", "(III)I"⟩, 43) := ⟨⟨by decide +kernel, by decide +kernel⟩, List.mem_of_getElem? (i := 914) (by decide +kernel), List.mem_of_getElem? (i := 1275) (by decide +kernel), List.mem_of_getElem? (i := 1276) (by decide +kernel)⟩
theorem lw_p68 : lw_okq (⟨"SofaStairModel", "turnable", "(I)I"⟩, 43) := ⟨⟨by decide +kernel, by decide +kernel⟩, List.mem_of_getElem? (i := 914) (by decide +kernel), List.mem_of_getElem? (i := 1279) (by decide +kernel), List.mem_of_getElem? (i := 1280) (by decide +kernel)⟩
theorem lw_p69 : lw_okq (⟨"SofaStairModel", "doesGo", "(III)Z"⟩, 43) := ⟨⟨by decide +kernel, by decide +kernel⟩, List.mem_of_getElem? (i := 914) (by decide +kernel), List.mem_of_getElem? (i := 1287) (by decide +kernel), List.mem_of_getElem? (i := 1288) (by decide +kernel)⟩
theorem lw_p70 : lw_okq (⟨"SofaStairModel", "costOff", "(III)I"⟩, 43) := ⟨⟨by decide +kernel, by decide +kernel⟩, List.mem_of_getElem? (i := 914) (by decide +kernel), List.mem_of_getElem? (i := 1291) (by decide +kernel), List.mem_of_getElem? (i := 1292) (by decide +kernel)⟩
theorem lw_p71 : lw_okq (⟨"SofaStairModel", "fitsBar", "(II)Z"⟩, 43) := ⟨⟨by decide +kernel, by decide +kernel⟩, List.mem_of_getElem? (i := 914) (by decide +kernel), List.mem_of_getElem? (i := 1299) (by decide +kernel), List.mem_of_getElem? (i := 1300) (by decide +kernel)⟩
theorem lw_p72 : lw_okq (⟨"SofaStairModel", "layBar", "(II)V"⟩, 43) := ⟨⟨by decide +kernel, by decide +kernel⟩, List.mem_of_getElem? (i := 914) (by decide +kernel), List.mem_of_getElem? (i := 1303) (by decide +kernel), List.mem_of_getElem? (i := 1304) (by decide +kernel)⟩
theorem lw_p73 : lw_okq (⟨"SofaStairModel", "findOrder", "(I)I"⟩, 43) := ⟨⟨by decide +kernel, by decide +kernel⟩, List.mem_of_getElem? (i := 914) (by decide +kernel), List.mem_of_getElem? (i := 1311) (by decide +kernel), List.mem_of_getElem? (i := 1312) (by decide +kernel)⟩
theorem lw_p74 : lw_okq (⟨"SofaStairModel", "goesAmong", "(II)Z"⟩, 43) := ⟨⟨by decide +kernel, by decide +kernel⟩, List.mem_of_getElem? (i := 914) (by decide +kernel), List.mem_of_getElem? (i := 1315) (by decide +kernel), List.mem_of_getElem? (i := 1316) (by decide +kernel)⟩
theorem lw_p75 : lw_okq (⟨"SofaStairModel", "passAll", "()V"⟩, 43) := ⟨⟨by decide +kernel, by decide +kernel⟩, List.mem_of_getElem? (i := 914) (by decide +kernel), List.mem_of_getElem? (i := 1327) (by decide +kernel), List.mem_of_getElem? (i := 1328) (by decide +kernel)⟩
theorem lw_p76 : lw_okq (⟨"SofaStairModel", "pass", "(I)I"⟩, 43) := ⟨⟨by decide +kernel, by decide +kernel⟩, List.mem_of_getElem? (i := 914) (by decide +kernel), List.mem_of_getElem? (i := 1331) (by decide +kernel), List.mem_of_getElem? (i := 1332) (by decide +kernel)⟩
def lw_privs_5 : List (MethodName × Nat) := [(⟨"SofaStairModel", "comesTo", "(I)I"⟩, 43), (⟨"SofaStairModel", "scrapes", "(I)I"⟩, 43), (⟨"SofaStairModel", "isOwn", "(IIII)Z"⟩, 43), (⟨"SofaStairModel", "against", "(III)I"⟩, 43), (⟨"SofaStairModel", "turnable", "(I)I"⟩, 43), (⟨"SofaStairModel", "doesGo", "(III)Z"⟩, 43), (⟨"SofaStairModel", "costOff", "(III)I"⟩, 43), (⟨"SofaStairModel", "fitsBar", "(II)Z"⟩, 43), (⟨"SofaStairModel", "layBar", "(II)V"⟩, 43), (⟨"SofaStairModel", "findOrder", "(I)I"⟩, 43), (⟨"SofaStairModel", "goesAmong", "(II)Z"⟩, 43), (⟨"SofaStairModel", "passAll", "()V"⟩, 43), (⟨"SofaStairModel", "pass", "(I)I"⟩, 43)]
theorem lw_r5 : ∀ q ∈ lw_privs_5, lw_okq q := List.forall_mem_cons.mpr ⟨lw_p64, List.forall_mem_cons.mpr ⟨lw_p65, List.forall_mem_cons.mpr ⟨lw_p66, List.forall_mem_cons.mpr ⟨lw_p67, List.forall_mem_cons.mpr ⟨lw_p68, List.forall_mem_cons.mpr ⟨lw_p69, List.forall_mem_cons.mpr ⟨lw_p70, List.forall_mem_cons.mpr ⟨lw_p71, List.forall_mem_cons.mpr ⟨lw_p72, List.forall_mem_cons.mpr ⟨lw_p73, List.forall_mem_cons.mpr ⟨lw_p74, List.forall_mem_cons.mpr ⟨lw_p75, List.forall_mem_cons.mpr ⟨lw_p76, fun _ h => absurd h List.not_mem_nil⟩⟩⟩⟩⟩⟩⟩⟩⟩⟩⟩⟩⟩
def lw_privs : List (MethodName × Nat) := lw_privs_1 ++ (lw_privs_2 ++ (lw_privs_3 ++ (lw_privs_4 ++ (lw_privs_5))))
def lw_tbl : List Cond := k2_sels lw_privs ++ tables_1
theorem lw_privs_ok : ∀ q ∈ lw_privs, lw_okq q := by
  show ∀ q ∈ lw_privs_1 ++ (lw_privs_2 ++ (lw_privs_3 ++ (lw_privs_4 ++ (lw_privs_5)))), lw_okq q
  exact List.forall_mem_append.mpr ⟨lw_r1, List.forall_mem_append.mpr ⟨lw_r2, List.forall_mem_append.mpr ⟨lw_r3, List.forall_mem_append.mpr ⟨lw_r4, lw_r5⟩⟩⟩⟩

def RX0 : String := "SofaStair$Answer"
def TX0 : u_T := fun k => match k with
  | 0 => ("SofaStair$Answer", "row", "[I", true)
  | 1 => ("SofaStair$Answer", "key", "I", false)
  | 2 => ("SofaStair$Answer", "count", "I", false)
  | _ => ("SofaStair$Answer", "total", "I", false)
def tyX0 : Nat → FieldType := fun k => match k with
  | 0 => .array .int
  | 1 => .int
  | 2 => .int
  | _ => .int
abbrev wsX00 : List Cond := u_ws RX0 TX0 4
theorem nmX0 : ∀ a, a < 4 → ∀ b, b < 4 → a ≠ b → (TX0 a).2.1 ≠ (TX0 b).2.1 := by decide +kernel
theorem tyX0_ok : ∀ k, k < 4 → parseFieldDescriptor (TX0 k).2.2.1 = some (tyX0 k) := by decide +kernel
abbrev cX0_init : ByteArray := prog_2_method_1_code
def yX0_init : MethodName := ⟨RX0, "<init>", "()V"⟩
abbrev cX0_forget : ByteArray := prog_2_method_2_code
def yX0_forget : MethodName := ⟨RX0, "forget", "()V"⟩
abbrev cX0_isNew : ByteArray := prog_2_method_3_code
def yX0_isNew : MethodName := ⟨RX0, "isNew", "(IIII)Z"⟩
abbrev cX0_none : ByteArray := prog_2_method_4_code
def yX0_none : MethodName := ⟨RX0, "none", "()V"⟩
abbrev cX0_add : ByteArray := prog_2_method_5_code
def yX0_add : MethodName := ⟨RX0, "add", "(I)V"⟩
abbrev cX0_at : ByteArray := prog_2_method_6_code
def yX0_at : MethodName := ⟨RX0, "at", "(I)I"⟩
def RX1 : String := "SofaStair$Cheapest"
def TX1 : u_T := fun k => match k with
  | 0 => ("SofaStair$Cheapest", "search", "LSofaStair$Search;", true)
  | 1 => ("SofaStair$Cheapest", "weights", "[I", true)
  | 2 => ("SofaStair$Cheapest", "far", "[I", true)
  | 3 => ("SofaStair$Cheapest", "heap", "[I", true)
  | 4 => ("SofaStair$Cheapest", "heapIndex", "[I", true)
  | _ => ("SofaStair$Cheapest", "waiting", "I", false)
def tyX1 : Nat → FieldType := fun k => match k with
  | 0 => .object "SofaStair$Search"
  | 1 => .array .int
  | 2 => .array .int
  | 3 => .array .int
  | 4 => .array .int
  | _ => .int
abbrev wsX10 : List Cond := u_ws RX1 TX1 6
theorem nmX1 : ∀ a, a < 6 → ∀ b, b < 6 → a ≠ b → (TX1 a).2.1 ≠ (TX1 b).2.1 := by decide +kernel
theorem tyX1_ok : ∀ k, k < 6 → parseFieldDescriptor (TX1 k).2.2.1 = some (tyX1 k) := by decide +kernel
abbrev cX1_init : ByteArray := prog_3_method_1_code
def yX1_init : MethodName := ⟨RX1, "<init>", "(LSofaStair$Search;)V"⟩
abbrev cX1_weigh : ByteArray := prog_3_method_2_code
def yX1_weigh : MethodName := ⟨RX1, "weigh", "([II)V"⟩
abbrev cX1_find : ByteArray := prog_3_method_3_code
def yX1_find : MethodName := ⟨RX1, "find", "(IILSofaStair$Answer;)V"⟩
abbrev cX1_comeBackFrom : ByteArray := prog_3_method_4_code
def yX1_comeBackFrom : MethodName := ⟨RX1, "comeBackFrom", "(I)V"⟩
abbrev cX1_come : ByteArray := prog_3_method_5_code
def yX1_come : MethodName := ⟨RX1, "come", "(II)V"⟩
abbrev cX1_walk : ByteArray := prog_3_method_6_code
def yX1_walk : MethodName := ⟨RX1, "walk", "(ILSofaStair$Answer;)V"⟩
abbrev cX1_firstMove : ByteArray := prog_3_method_7_code
def yX1_firstMove : MethodName := ⟨RX1, "firstMove", "(I)I"⟩
abbrev cX1_put : ByteArray := prog_3_method_8_code
def yX1_put : MethodName := ⟨RX1, "put", "(II)V"⟩
abbrev cX1_rise : ByteArray := prog_3_method_9_code
def yX1_rise : MethodName := ⟨RX1, "rise", "(I)V"⟩
abbrev cX1_takeNearest : ByteArray := prog_3_method_10_code
def yX1_takeNearest : MethodName := ⟨RX1, "takeNearest", "()I"⟩
abbrev cX1_sink : ByteArray := prog_3_method_11_code
def yX1_sink : MethodName := ⟨RX1, "sink", "(I)V"⟩
def RX2 : String := "SofaStair$Pad"
def TX2 : u_T := fun k => match k with
  | 0 => ("SofaStair$Pad", "signs", "[I", true)
  | _ => ("SofaStair$Pad", "count", "I", false)
def tyX2 : Nat → FieldType := fun k => match k with
  | 0 => .array .int
  | _ => .int
abbrev wsX20 : List Cond := u_ws RX2 TX2 2
theorem nmX2 : ∀ a, a < 2 → ∀ b, b < 2 → a ≠ b → (TX2 a).2.1 ≠ (TX2 b).2.1 := by decide +kernel
theorem tyX2_ok : ∀ k, k < 2 → parseFieldDescriptor (TX2 k).2.2.1 = some (tyX2 k) := by decide +kernel
abbrev cX2_init : ByteArray := prog_4_method_1_code
def yX2_init : MethodName := ⟨RX2, "<init>", "()V"⟩
abbrev cX2_isFull : ByteArray := prog_4_method_2_code
def yX2_isFull : MethodName := ⟨RX2, "isFull", "()Z"⟩
abbrev cX2_add : ByteArray := prog_4_method_3_code
def yX2_add : MethodName := ⟨RX2, "add", "(I)I"⟩
abbrev cX2_clear : ByteArray := prog_4_method_4_code
def yX2_clear : MethodName := ⟨RX2, "clear", "()I"⟩
abbrev cX2_digitAt : ByteArray := prog_4_method_5_code
def yX2_digitAt : MethodName := ⟨RX2, "digitAt", "(I)I"⟩
abbrev cX2_groupAt : ByteArray := prog_4_method_6_code
def yX2_groupAt : MethodName := ⟨RX2, "groupAt", "(I)I"⟩
abbrev cX2_moveAt : ByteArray := prog_4_method_7_code
def yX2_moveAt : MethodName := ⟨RX2, "moveAt", "(I)I"⟩
abbrev cX2_rowFault : ByteArray := prog_4_method_8_code
def yX2_rowFault : MethodName := ⟨RX2, "rowFault", "()I"⟩
abbrev cX2_thingFault : ByteArray := prog_4_method_9_code
def yX2_thingFault : MethodName := ⟨RX2, "thingFault", "()I"⟩
abbrev cX2_standsInThing : ByteArray := prog_4_method_10_code
def yX2_standsInThing : MethodName := ⟨RX2, "standsInThing", "(I)Z"⟩
abbrev cX2_isThere : ByteArray := prog_4_method_11_code
def yX2_isThere : MethodName := ⟨RX2, "isThere", "(I)Z"⟩
abbrev cX2_leastIsZero : ByteArray := prog_4_method_12_code
def yX2_leastIsZero : MethodName := ⟨RX2, "leastIsZero", "()Z"⟩
def RX3 : String := "SofaStair$Search"
def TX3 : u_T := fun k => match k with
  | 0 => ("SofaStair$Search", "turns", "LSofaStair$Turns;", true)
  | 1 => ("SofaStair$Search", "way", "LSofaStair$Way;", true)
  | 2 => ("SofaStair$Search", "grid", "[I", true)
  | 3 => ("SofaStair$Search", "corners", "[I", true)
  | 4 => ("SofaStair$Search", "offsets", "[I", true)
  | 5 => ("SofaStair$Search", "hindered", "[I", true)
  | 6 => ("SofaStair$Search", "queue", "[I", true)
  | 7 => ("SofaStair$Search", "reachedBy", "[I", true)
  | 8 => ("SofaStair$Search", "thing", "LSofaStair$Thing;", false)
  | 9 => ("SofaStair$Search", "hindering", "I", false)
  | _ => ("SofaStair$Search", "reached", "I", false)
def tyX3 : Nat → FieldType := fun k => match k with
  | 0 => .object "SofaStair$Turns"
  | 1 => .object "SofaStair$Way"
  | 2 => .array .int
  | 3 => .array .int
  | 4 => .array .int
  | 5 => .array .int
  | 6 => .array .int
  | 7 => .array .int
  | 8 => .object "SofaStair$Thing"
  | 9 => .int
  | _ => .int
abbrev wsX30 : List Cond := u_ws RX3 TX3 11
theorem nmX3 : ∀ a, a < 11 → ∀ b, b < 11 → a ≠ b → (TX3 a).2.1 ≠ (TX3 b).2.1 := by decide +kernel
theorem tyX3_ok : ∀ k, k < 11 → parseFieldDescriptor (TX3 k).2.2.1 = some (tyX3 k) := by decide +kernel
abbrev cX3_init : ByteArray := prog_5_method_1_code
def yX3_init : MethodName := ⟨RX3, "<init>", "(LSofaStair$Turns;LSofaStair$Way;)V"⟩
abbrev cX3_forget : ByteArray := prog_5_method_2_code
def yX3_forget : MethodName := ⟨RX3, "forget", "()V"⟩
abbrev cX3_about : ByteArray := prog_5_method_3_code
def yX3_about : MethodName := ⟨RX3, "about", "(LSofaStair$Thing;)V"⟩
abbrev cX3_wall : ByteArray := prog_5_method_4_code
def yX3_wall : MethodName := ⟨RX3, "wall", "(LSofaStair$Thing;)V"⟩
abbrev cX3_off : ByteArray := prog_5_method_5_code
def yX3_off : MethodName := ⟨RX3, "off", "(II)V"⟩
abbrev cX3_fits : ByteArray := prog_5_method_6_code
def yX3_fits : MethodName := ⟨RX3, "fits", "(I)Z"⟩
abbrev cX3_why : ByteArray := prog_5_method_7_code
def yX3_why : MethodName := ⟨RX3, "why", "(I)I"⟩
abbrev cX3_step : ByteArray := prog_5_method_8_code
def yX3_step : MethodName := ⟨RX3, "step", "(II)I"⟩
abbrev cX3_flood : ByteArray := prog_5_method_9_code
def yX3_flood : MethodName := ⟨RX3, "flood", "(II)I"⟩
abbrev cX3_trace : ByteArray := prog_5_method_10_code
def yX3_trace : MethodName := ⟨RX3, "trace", "(ILSofaStair$Answer;)V"⟩
abbrev cX3_opposite : ByteArray := prog_5_method_11_code
def yX3_opposite : MethodName := ⟨RX3, "opposite", "(I)I"⟩
abbrev cX3_signOf : ByteArray := prog_5_method_12_code
def yX3_signOf : MethodName := ⟨RX3, "signOf", "(I)I"⟩
abbrev cX3_reach : ByteArray := prog_5_method_13_code
def yX3_reach : MethodName := ⟨RX3, "reach", "(II)V"⟩
abbrev cX3_lookAt : ByteArray := prog_5_method_14_code
def yX3_lookAt : MethodName := ⟨RX3, "lookAt", "(I)I"⟩
abbrev cX3_drawGrid : ByteArray := prog_5_method_15_code
def yX3_drawGrid : MethodName := ⟨RX3, "drawGrid", "()V"⟩
abbrev cX3_hindranceOf : ByteArray := prog_5_method_16_code
def yX3_hindranceOf : MethodName := ⟨RX3, "hindranceOf", "(I)I"⟩
abbrev cX3_gridAt : ByteArray := prog_5_method_17_code
def yX3_gridAt : MethodName := ⟨RX3, "gridAt", "(III)I"⟩
def RX4 : String := "SofaStair$Stair"
def TX4 : u_T := fun k => match k with
  | 0 => ("SofaStair$Stair", "way", "LSofaStair$Way;", true)
  | 1 => ("SofaStair$Stair", "things", "[LSofaStair$Thing;", true)
  | 2 => ("SofaStair$Stair", "doorCosts", "[I", true)
  | 3 => ("SofaStair$Stair", "moveCosts", "[I", true)
  | _ => ("SofaStair$Stair", "kept", "Z", false)
def tyX4 : Nat → FieldType := fun k => match k with
  | 0 => .object "SofaStair$Way"
  | 1 => .array (.object "SofaStair$Thing")
  | 2 => .array .int
  | 3 => .array .int
  | _ => .boolean
abbrev wsX40 : List Cond := u_ws RX4 TX4 5
theorem nmX4 : ∀ a, a < 5 → ∀ b, b < 5 → a ≠ b → (TX4 a).2.1 ≠ (TX4 b).2.1 := by decide +kernel
theorem tyX4_ok : ∀ k, k < 5 → parseFieldDescriptor (TX4 k).2.2.1 = some (tyX4 k) := by decide +kernel
abbrev cX4_init : ByteArray := prog_6_method_1_code
def yX4_init : MethodName := ⟨RX4, "<init>", "()V"⟩
abbrev cX4_thingAt : ByteArray := prog_6_method_2_code
def yX4_thingAt : MethodName := ⟨RX4, "thingAt", "(I)LSofaStair$Thing;"⟩
abbrev cX4_costsOf : ByteArray := prog_6_method_3_code
def yX4_costsOf : MethodName := ⟨RX4, "costsOf", "(I)[I"⟩
abbrev cX4_copyFrom : ByteArray := prog_6_method_4_code
def yX4_copyFrom : MethodName := ⟨RX4, "copyFrom", "(LSofaStair$Stair;)V"⟩
def RX5 : String := "SofaStair$Thing"
def TX5 : u_T := fun k => match k with
  | 0 => ("SofaStair$Thing", "cubes", "I", false)
  | 1 => ("SofaStair$Thing", "place", "I", false)
  | 2 => ("SofaStair$Thing", "turned", "I", false)
  | 3 => ("SofaStair$Thing", "goal", "I", false)
  | 4 => ("SofaStair$Thing", "spots", "[I", true)
  | 5 => ("SofaStair$Thing", "groups", "[I", true)
  | 6 => ("SofaStair$Thing", "greatest", "[I", true)
  | _ => ("SofaStair$Thing", "costs", "[I", true)
def tyX5 : Nat → FieldType := fun k => match k with
  | 0 => .int
  | 1 => .int
  | 2 => .int
  | 3 => .int
  | 4 => .array .int
  | 5 => .array .int
  | 6 => .array .int
  | _ => .array .int
abbrev wsX50 : List Cond := u_ws RX5 TX5 8
theorem nmX5 : ∀ a, a < 8 → ∀ b, b < 8 → a ≠ b → (TX5 a).2.1 ≠ (TX5 b).2.1 := by decide +kernel
theorem tyX5_ok : ∀ k, k < 8 → parseFieldDescriptor (TX5 k).2.2.1 = some (tyX5 k) := by decide +kernel
abbrev cX5_init : ByteArray := prog_7_method_1_code
def yX5_init : MethodName := ⟨RX5, "<init>", "()V"⟩
abbrev cX5_tell : ByteArray := prog_7_method_2_code
def yX5_tell : MethodName := ⟨RX5, "tell", "(LSofaStair$Pad;)V"⟩
abbrev cX5_becomeBar : ByteArray := prog_7_method_3_code
def yX5_becomeBar : MethodName := ⟨RX5, "becomeBar", "(I)V"⟩
abbrev cX5_put : ByteArray := prog_7_method_4_code
def yX5_put : MethodName := ⟨RX5, "put", "(IIII)V"⟩
abbrev cX5_copyFrom : ByteArray := prog_7_method_5_code
def yX5_copyFrom : MethodName := ⟨RX5, "copyFrom", "(LSofaStair$Thing;)V"⟩
abbrev cX5_stand : ByteArray := prog_7_method_6_code
def yX5_stand : MethodName := ⟨RX5, "stand", "()I"⟩
abbrev cX5_groupOf : ByteArray := prog_7_method_7_code
def yX5_groupOf : MethodName := ⟨RX5, "groupOf", "(I)I"⟩
abbrev cX5_along : ByteArray := prog_7_method_8_code
def yX5_along : MethodName := ⟨RX5, "along", "(LSofaStair$Turns;III)I"⟩
abbrev cX5_partsSet : ByteArray := prog_7_method_9_code
def yX5_partsSet : MethodName := ⟨RX5, "partsSet", "()I"⟩
abbrev cX5_cubesOn : ByteArray := prog_7_method_10_code
def yX5_cubesOn : MethodName := ⟨RX5, "cubesOn", "(I)I"⟩
def RX6 : String := "SofaStair$Turns"
def TX6 : u_T := fun k => match k with
  | 0 => ("SofaStair$Turns", "axes", "[I", true)
  | _ => ("SofaStair$Turns", "next", "[I", true)
def tyX6 : Nat → FieldType := fun k => match k with
  | 0 => .array .int
  | _ => .array .int
abbrev wsX60 : List Cond := u_ws RX6 TX6 2
theorem nmX6 : ∀ a, a < 2 → ∀ b, b < 2 → a ≠ b → (TX6 a).2.1 ≠ (TX6 b).2.1 := by decide +kernel
theorem tyX6_ok : ∀ k, k < 2 → parseFieldDescriptor (TX6 k).2.2.1 = some (tyX6 k) := by decide +kernel
abbrev cX6_init : ByteArray := prog_8_method_1_code
def yX6_init : MethodName := ⟨RX6, "<init>", "()V"⟩
abbrev cX6_after : ByteArray := prog_8_method_2_code
def yX6_after : MethodName := ⟨RX6, "after", "(II)I"⟩
abbrev cX6_axisAt : ByteArray := prog_8_method_3_code
def yX6_axisAt : MethodName := ⟨RX6, "axisAt", "(II)I"⟩
abbrev cX6_find : ByteArray := prog_8_method_4_code
def yX6_find : MethodName := ⟨RX6, "find", "(IIII)I"⟩
abbrev cX6_turnedAxis : ByteArray := prog_8_method_5_code
def yX6_turnedAxis : MethodName := ⟨RX6, "turnedAxis", "(III)I"⟩
def RX7 : String := "SofaStair$Way"
def TX7 : u_T := fun k => match k with
  | 0 => ("SofaStair$Way", "sizeX", "I", false)
  | 1 => ("SofaStair$Way", "sizeY", "I", false)
  | 2 => ("SofaStair$Way", "sizeZ", "I", false)
  | 3 => ("SofaStair$Way", "kinds", "[I", true)
  | _ => ("SofaStair$Way", "beside", "[I", true)
def tyX7 : Nat → FieldType := fun k => match k with
  | 0 => .int
  | 1 => .int
  | 2 => .int
  | 3 => .array .int
  | _ => .array .int
abbrev wsX70 : List Cond := u_ws RX7 TX7 5
theorem nmX7 : ∀ a, a < 5 → ∀ b, b < 5 → a ≠ b → (TX7 a).2.1 ≠ (TX7 b).2.1 := by decide +kernel
theorem tyX7_ok : ∀ k, k < 5 → parseFieldDescriptor (TX7 k).2.2.1 = some (tyX7 k) := by decide +kernel
abbrev cX7_init : ByteArray := prog_9_method_1_code
def yX7_init : MethodName := ⟨RX7, "<init>", "()V"⟩
abbrev cX7_resize : ByteArray := prog_9_method_2_code
def yX7_resize : MethodName := ⟨RX7, "resize", "(III)V"⟩
abbrev cX7_copyFrom : ByteArray := prog_9_method_3_code
def yX7_copyFrom : MethodName := ⟨RX7, "copyFrom", "(LSofaStair$Way;)V"⟩
abbrev cX7_measure : ByteArray := prog_9_method_4_code
def yX7_measure : MethodName := ⟨RX7, "measure", "(III)V"⟩
abbrev cX7_placeAt : ByteArray := prog_9_method_5_code
def yX7_placeAt : MethodName := ⟨RX7, "placeAt", "(III)I"⟩
abbrev cX7_placeOf : ByteArray := prog_9_method_6_code
def yX7_placeOf : MethodName := ⟨RX7, "placeOf", "(I)I"⟩
abbrev cX7_isCell : ByteArray := prog_9_method_7_code
def yX7_isCell : MethodName := ⟨RX7, "isCell", "(I)Z"⟩
abbrev cX7_placeBeside : ByteArray := prog_9_method_8_code
def yX7_placeBeside : MethodName := ⟨RX7, "placeBeside", "(II)I"⟩
abbrev cX7_kindAt : ByteArray := prog_9_method_9_code
def yX7_kindAt : MethodName := ⟨RX7, "kindAt", "(I)I"⟩
abbrev cX7_paint : ByteArray := prog_9_method_10_code
def yX7_paint : MethodName := ⟨RX7, "paint", "(III)I"⟩
abbrev cX7_doorsSet : ByteArray := prog_9_method_11_code
def yX7_doorsSet : MethodName := ⟨RX7, "doorsSet", "()I"⟩
abbrev cX7_sizeAlong : ByteArray := prog_9_method_12_code
def yX7_sizeAlong : MethodName := ⟨RX7, "sizeAlong", "(I)I"⟩
def RX8 : String := "SofaStair"
def TX8 : u_T := fun k => match k with
  | 0 => ("SofaStair", "pad", "LSofaStair$Pad;", true)
  | 1 => ("SofaStair", "now", "LSofaStair$Stair;", true)
  | 2 => ("SofaStair", "images", "[LSofaStair$Stair;", true)
  | 3 => ("SofaStair", "turns", "LSofaStair$Turns;", true)
  | 4 => ("SofaStair", "search", "LSofaStair$Search;", true)
  | 5 => ("SofaStair", "cheapest", "LSofaStair$Cheapest;", true)
  | 6 => ("SofaStair", "answer", "LSofaStair$Answer;", true)
  | 7 => ("SofaStair", "rod", "LSofaStair$Thing;", true)
  | _ => ("SofaStair", "setCosts", "[I", true)
def tyX8 : Nat → FieldType := fun k => match k with
  | 0 => .object "SofaStair$Pad"
  | 1 => .object "SofaStair$Stair"
  | 2 => .array (.object "SofaStair$Stair")
  | 3 => .object "SofaStair$Turns"
  | 4 => .object "SofaStair$Search"
  | 5 => .object "SofaStair$Cheapest"
  | 6 => .object "SofaStair$Answer"
  | 7 => .object "SofaStair$Thing"
  | _ => .array .int
abbrev wsX80 : List Cond := u_ws RX8 TX8 9
theorem nmX8 : ∀ a, a < 9 → ∀ b, b < 9 → a ≠ b → (TX8 a).2.1 ≠ (TX8 b).2.1 := by decide +kernel
theorem tyX8_ok : ∀ k, k < 9 → parseFieldDescriptor (TX8 k).2.2.1 = some (tyX8 k) := by decide +kernel
abbrev cX8_init : ByteArray := prog_1_method_1_code
def yX8_init : MethodName := ⟨RX8, "<init>", "()V"⟩
abbrev cX8_size : ByteArray := prog_1_method_2_code
def yX8_size : MethodName := ⟨RX8, "size", "(III)I"⟩
abbrev cX8_fill : ByteArray := prog_1_method_3_code
def yX8_fill : MethodName := ⟨RX8, "fill", "(III)I"⟩
abbrev cX8_cell : ByteArray := prog_1_method_4_code
def yX8_cell : MethodName := ⟨RX8, "cell", "(I)I"⟩
abbrev cX8_say : ByteArray := prog_1_method_5_code
def yX8_say : MethodName := ⟨RX8, "say", "(I)I"⟩
abbrev cX8_wipe : ByteArray := prog_1_method_6_code
def yX8_wipe : MethodName := ⟨RX8, "wipe", "()I"⟩
abbrev cX8_fault : ByteArray := prog_1_method_7_code
def yX8_fault : MethodName := ⟨RX8, "fault", "(I)I"⟩
abbrev cX8_thing : ByteArray := prog_1_method_8_code
def yX8_thing : MethodName := ⟨RX8, "thing", "(I)I"⟩
abbrev cX8_cube : ByteArray := prog_1_method_9_code
def yX8_cube : MethodName := ⟨RX8, "cube", "(III)I"⟩
abbrev cX8_cost : ByteArray := prog_1_method_10_code
def yX8_cost : MethodName := ⟨RX8, "cost", "(III)I"⟩
abbrev cX8_lay : ByteArray := prog_1_method_11_code
def yX8_lay : MethodName := ⟨RX8, "lay", "(II)I"⟩
abbrev cX8_goal : ByteArray := prog_1_method_12_code
def yX8_goal : MethodName := ⟨RX8, "goal", "(II)I"⟩
abbrev cX8_judge : ByteArray := prog_1_method_13_code
def yX8_judge : MethodName := ⟨RX8, "judge", "(II)I"⟩
abbrev cX8_move : ByteArray := prog_1_method_14_code
def yX8_move : MethodName := ⟨RX8, "move", "(I)I"⟩
abbrev cX8_goes : ByteArray := prog_1_method_15_code
def yX8_goes : MethodName := ⟨RX8, "goes", "(IIII)I"⟩
abbrev cX8_effort : ByteArray := prog_1_method_16_code
def yX8_effort : MethodName := ⟨RX8, "effort", "(IIII)I"⟩
abbrev cX8_room : ByteArray := prog_1_method_17_code
def yX8_room : MethodName := ⟨RX8, "room", "(II)I"⟩
abbrev cX8_least : ByteArray := prog_1_method_18_code
def yX8_least : MethodName := ⟨RX8, "least", "(II)I"⟩
abbrev cX8_bar : ByteArray := prog_1_method_19_code
def yX8_bar : MethodName := ⟨RX8, "bar", "(I)I"⟩
abbrev cX8_order : ByteArray := prog_1_method_20_code
def yX8_order : MethodName := ⟨RX8, "order", "(II)I"⟩
abbrev cX8_came : ByteArray := prog_1_method_21_code
def yX8_came : MethodName := ⟨RX8, "came", "(II)I"⟩
abbrev cX8_image : ByteArray := prog_1_method_22_code
def yX8_image : MethodName := ⟨RX8, "image", "(I)I"⟩
abbrev cX8_restore : ByteArray := prog_1_method_23_code
def yX8_restore : MethodName := ⟨RX8, "restore", "(I)I"⟩
abbrev cX8_told : ByteArray := prog_1_method_24_code
def yX8_told : MethodName := ⟨RX8, "told", "(I)I"⟩
abbrev cX8_turnedByPad : ByteArray := prog_1_method_25_code
def yX8_turnedByPad : MethodName := ⟨RX8, "turnedByPad", "()I"⟩
abbrev cX8_judged : ByteArray := prog_1_method_26_code
def yX8_judged : MethodName := ⟨RX8, "judged", "(LSofaStair$Thing;I)I"⟩
abbrev cX8_rowAnswer : ByteArray := prog_1_method_27_code
def yX8_rowAnswer : MethodName := ⟨RX8, "rowAnswer", "(IIIII)I"⟩
abbrev cX8_findGoes : ByteArray := prog_1_method_28_code
def yX8_findGoes : MethodName := ⟨RX8, "findGoes", "(LSofaStair$Thing;)V"⟩
abbrev cX8_scrapes : ByteArray := prog_1_method_29_code
def yX8_scrapes : MethodName := ⟨RX8, "scrapes", "(LSofaStair$Thing;)I"⟩
abbrev cX8_scrapesAt : ByteArray := prog_1_method_30_code
def yX8_scrapesAt : MethodName := ⟨RX8, "scrapesAt", "(LSofaStair$Thing;III)I"⟩
abbrev cX8_turnable : ByteArray := prog_1_method_31_code
def yX8_turnable : MethodName := ⟨RX8, "turnable", "(LSofaStair$Thing;)I"⟩
abbrev cX8_fitsAllRound : ByteArray := prog_1_method_32_code
def yX8_fitsAllRound : MethodName := ⟨RX8, "fitsAllRound", "(II)Z"⟩
abbrev cX8_goesWith : ByteArray := prog_1_method_33_code
def yX8_goesWith : MethodName := ⟨RX8, "goesWith", "(LSofaStair$Thing;I)Z"⟩
abbrev cX8_findLeast : ByteArray := prog_1_method_34_code
def yX8_findLeast : MethodName := ⟨RX8, "findLeast", "(LSofaStair$Thing;)V"⟩
abbrev cX8_neededOf : ByteArray := prog_1_method_35_code
def yX8_neededOf : MethodName := ⟨RX8, "neededOf", "(LSofaStair$Thing;I)I"⟩
abbrev cX8_sumSetCosts : ByteArray := prog_1_method_36_code
def yX8_sumSetCosts : MethodName := ⟨RX8, "sumSetCosts", "(LSofaStair$Thing;)V"⟩
abbrev cX8_findCame : ByteArray := prog_1_method_37_code
def yX8_findCame : MethodName := ⟨RX8, "findCame", "(LSofaStair$Thing;)V"⟩
abbrev cX8_goesByLess : ByteArray := prog_1_method_38_code
def yX8_goesByLess : MethodName := ⟨RX8, "goesByLess", "(II)Z"⟩
abbrev cX8_findBar : ByteArray := prog_1_method_39_code
def yX8_findBar : MethodName := ⟨RX8, "findBar", "(LSofaStair$Thing;I)V"⟩
abbrev cX8_barGoes : ByteArray := prog_1_method_40_code
def yX8_barGoes : MethodName := ⟨RX8, "barGoes", "(LSofaStair$Thing;II)Z"⟩
abbrev cX8_findOrder : ByteArray := prog_1_method_41_code
def yX8_findOrder : MethodName := ⟨RX8, "findOrder", "(I)V"⟩
abbrev cX8_firstToGo : ByteArray := prog_1_method_42_code
def yX8_firstToGo : MethodName := ⟨RX8, "firstToGo", "(I)I"⟩
abbrev cX8_goesAmong : ByteArray := prog_1_method_43_code
def yX8_goesAmong : MethodName := ⟨RX8, "goesAmong", "(II)Z"⟩
abbrev cX8_imageAt : ByteArray := prog_1_method_44_code
def yX8_imageAt : MethodName := ⟨RX8, "imageAt", "(I)LSofaStair$Stair;"⟩
abbrev cX8_forgetWay : ByteArray := prog_1_method_45_code
def yX8_forgetWay : MethodName := ⟨RX8, "forgetWay", "()V"⟩
abbrev cX8_refusalOf : ByteArray := prog_1_method_46_code
def yX8_refusalOf : MethodName := ⟨RX8, "refusalOf", "(LSofaStair$Thing;Z)I"⟩
abbrev cX8_isUpTo : ByteArray := prog_1_method_47_code
def yX8_isUpTo : MethodName := ⟨RX8, "isUpTo", "(II)Z"⟩
abbrev cX8_isSet : ByteArray := prog_1_method_48_code
def yX8_isSet : MethodName := ⟨RX8, "isSet", "(I)Z"⟩
abbrev cX8_has : ByteArray := prog_1_method_49_code
def yX8_has : MethodName := ⟨RX8, "has", "(II)Z"⟩
abbrev cX8_read : ByteArray := prog_1_method_50_code
def yX8_read : MethodName := ⟨RX8, "read", "([II)I"⟩
abbrev cX8_write : ByteArray := prog_1_method_51_code
def yX8_write : MethodName := ⟨RX8, "write", "([III)V"⟩
abbrev cX8_copy : ByteArray := prog_1_method_52_code
def yX8_copy : MethodName := ⟨RX8, "copy", "([I[I)V"⟩
abbrev cX8_xOf : ByteArray := prog_1_method_53_code
def yX8_xOf : MethodName := ⟨RX8, "xOf", "(I)I"⟩
abbrev cX8_yOf : ByteArray := prog_1_method_54_code
def yX8_yOf : MethodName := ⟨RX8, "yOf", "(I)I"⟩
abbrev cX8_zOf : ByteArray := prog_1_method_55_code
def yX8_zOf : MethodName := ⟨RX8, "zOf", "(I)I"⟩
abbrev cX8_cellOf : ByteArray := prog_1_method_56_code
def yX8_cellOf : MethodName := ⟨RX8, "cellOf", "(I)I"⟩
def RX9 : String := "SofaStairModel"
def TX9 : u_T := fun k => match k with
  | 0 => ("SofaStairModel", "table", "[I", true)
  | 1 => ("SofaStairModel", "turned", "[I", true)
  | 2 => ("SofaStairModel", "made", "[I", true)
  | 3 => ("SofaStairModel", "sizeX", "I", false)
  | 4 => ("SofaStairModel", "sizeY", "I", false)
  | 5 => ("SofaStairModel", "sizeZ", "I", false)
  | 6 => ("SofaStairModel", "kind", "[I", true)
  | 7 => ("SofaStairModel", "cubes", "[I", true)
  | 8 => ("SofaStairModel", "cubeX", "[I", true)
  | 9 => ("SofaStairModel", "cubeY", "[I", true)
  | 10 => ("SofaStairModel", "cubeZ", "[I", true)
  | 11 => ("SofaStairModel", "partOf", "[I", true)
  | 12 => ("SofaStairModel", "partCost", "[I", true)
  | 13 => ("SofaStairModel", "doorCost", "[I", true)
  | 14 => ("SofaStairModel", "moveCost", "[I", true)
  | 15 => ("SofaStairModel", "lies", "[I", true)
  | 16 => ("SofaStairModel", "wayOf", "[I", true)
  | 17 => ("SofaStairModel", "goals", "[I", true)
  | 18 => ("SofaStairModel", "pad", "[I", true)
  | 19 => ("SofaStairModel", "padMany", "I", false)
  | 20 => ("SofaStairModel", "nowX", "[I", true)
  | 21 => ("SofaStairModel", "nowY", "[I", true)
  | 22 => ("SofaStairModel", "nowZ", "[I", true)
  | 23 => ("SofaStairModel", "partsOff", "I", false)
  | 24 => ("SofaStairModel", "doorsOff", "I", false)
  | 25 => ("SofaStairModel", "isFilled", "[Z", true)
  | 26 => ("SofaStairModel", "rowX", "I", false)
  | 27 => ("SofaStairModel", "rowY", "I", false)
  | 28 => ("SofaStairModel", "rowZ", "I", false)
  | 29 => ("SofaStairModel", "rowWay", "I", false)
  | 30 => ("SofaStairModel", "badMove", "I", false)
  | 31 => ("SofaStairModel", "badWhy", "I", false)
  | 32 => ("SofaStairModel", "fits", "[Z", true)
  | 33 => ("SofaStairModel", "off", "[J", true)
  | 34 => ("SofaStairModel", "queue", "[I", true)
  | 35 => ("SofaStairModel", "waits", "[Z", true)
  | 36 => ("SofaStairModel", "lifted", "I", false)
  | 37 => ("SofaStairModel", "byEffort", "Z", false)
  | 38 => ("SofaStairModel", "order", "[I", true)
  | 39 => ("SofaStairModel", "kept", "[I", true)
  | 40 => ("SofaStairModel", "isKept", "[Z", true)
  | 41 => ("SofaStairModel", "keptAt", "I", false)
  | _ => ("SofaStairModel", "isWriting", "Z", false)
def tyX9 : Nat → FieldType := fun k => match k with
  | 0 => .array .int
  | 1 => .array .int
  | 2 => .array .int
  | 3 => .int
  | 4 => .int
  | 5 => .int
  | 6 => .array .int
  | 7 => .array .int
  | 8 => .array .int
  | 9 => .array .int
  | 10 => .array .int
  | 11 => .array .int
  | 12 => .array .int
  | 13 => .array .int
  | 14 => .array .int
  | 15 => .array .int
  | 16 => .array .int
  | 17 => .array .int
  | 18 => .array .int
  | 19 => .int
  | 20 => .array .int
  | 21 => .array .int
  | 22 => .array .int
  | 23 => .int
  | 24 => .int
  | 25 => .array .boolean
  | 26 => .int
  | 27 => .int
  | 28 => .int
  | 29 => .int
  | 30 => .int
  | 31 => .int
  | 32 => .array .boolean
  | 33 => .array .long
  | 34 => .array .int
  | 35 => .array .boolean
  | 36 => .int
  | 37 => .boolean
  | 38 => .array .int
  | 39 => .array .int
  | 40 => .array .boolean
  | 41 => .int
  | _ => .boolean
abbrev wsX90 : List Cond := u_ws RX9 TX9 43
theorem nmX9 : ∀ a, a < 43 → ∀ b, b < 43 → a ≠ b → (TX9 a).2.1 ≠ (TX9 b).2.1 := by decide +kernel
theorem tyX9_ok : ∀ k, k < 43 → parseFieldDescriptor (TX9 k).2.2.1 = some (tyX9 k) := by decide +kernel
abbrev cX9_init : ByteArray := prog_11_method_1_code
def yX9_init : MethodName := ⟨RX9, "<init>", "()V"⟩
abbrev cX9_in : ByteArray := prog_11_method_3_code
def yX9_in : MethodName := ⟨RX9, "in", "(JJJ)Z"⟩
abbrev cX9_isThing : ByteArray := prog_11_method_4_code
def yX9_isThing : MethodName := ⟨RX9, "isThing", "(I)Z"⟩
abbrev cX9_turn : ByteArray := prog_11_method_5_code
def yX9_turn : MethodName := ⟨RX9, "turn", "(II)V"⟩
abbrev cX9_tableOf : ByteArray := prog_11_method_6_code
def yX9_tableOf : MethodName := ⟨RX9, "tableOf", "(I)I"⟩
abbrev cX9_findTables : ByteArray := prog_11_method_7_code
def yX9_findTables : MethodName := ⟨RX9, "findTables", "()V"⟩
abbrev cX9_isCell : ByteArray := prog_11_method_8_code
def yX9_isCell : MethodName := ⟨RX9, "isCell", "(III)Z"⟩
abbrev cX9_isCellNumber : ByteArray := prog_11_method_9_code
def yX9_isCellNumber : MethodName := ⟨RX9, "isCellNumber", "(I)Z"⟩
abbrev cX9_at : ByteArray := prog_11_method_10_code
def yX9_at : MethodName := ⟨RX9, "at", "(III)I"⟩
abbrev cX9_placeOf : ByteArray := prog_11_method_11_code
def yX9_placeOf : MethodName := ⟨RX9, "placeOf", "(I)I"⟩
abbrev cX9_numberOf : ByteArray := prog_11_method_12_code
def yX9_numberOf : MethodName := ⟨RX9, "numberOf", "(I)I"⟩
abbrev cX9_size : ByteArray := prog_11_method_13_code
def yX9_size : MethodName := ⟨RX9, "size", "(III)I"⟩
abbrev cX9_fill : ByteArray := prog_11_method_14_code
def yX9_fill : MethodName := ⟨RX9, "fill", "(III)I"⟩
abbrev cX9_cell : ByteArray := prog_11_method_15_code
def yX9_cell : MethodName := ⟨RX9, "cell", "(I)I"⟩
abbrev cX9_say : ByteArray := prog_11_method_16_code
def yX9_say : MethodName := ⟨RX9, "say", "(I)I"⟩
abbrev cX9_wipe : ByteArray := prog_11_method_17_code
def yX9_wipe : MethodName := ⟨RX9, "wipe", "()I"⟩
abbrev cX9_wasTold : ByteArray := prog_11_method_18_code
def yX9_wasTold : MethodName := ⟨RX9, "wasTold", "(I)Z"⟩
abbrev cX9_faultOfThing : ByteArray := prog_11_method_19_code
def yX9_faultOfThing : MethodName := ⟨RX9, "faultOfThing", "()I"⟩
abbrev cX9_moveOf : ByteArray := prog_11_method_20_code
def yX9_moveOf : MethodName := ⟨RX9, "moveOf", "(I)I"⟩
abbrev cX9_signOf : ByteArray := prog_11_method_21_code
def yX9_signOf : MethodName := ⟨RX9, "signOf", "(I)I"⟩
abbrev cX9_faultOfRow : ByteArray := prog_11_method_22_code
def yX9_faultOfRow : MethodName := ⟨RX9, "faultOfRow", "()I"⟩
abbrev cX9_fault : ByteArray := prog_11_method_23_code
def yX9_fault : MethodName := ⟨RX9, "fault", "(I)I"⟩
abbrev cX9_thing : ByteArray := prog_11_method_24_code
def yX9_thing : MethodName := ⟨RX9, "thing", "(I)I"⟩
abbrev cX9_row : ByteArray := prog_11_method_25_code
def yX9_row : MethodName := ⟨RX9, "row", "(III)I"⟩
abbrev cX9_layCubes : ByteArray := prog_11_method_26_code
def yX9_layCubes : MethodName := ⟨RX9, "layCubes", "(II)V"⟩
abbrev cX9_cube : ByteArray := prog_11_method_27_code
def yX9_cube : MethodName := ⟨RX9, "cube", "(III)I"⟩
abbrev cX9_cost : ByteArray := prog_11_method_28_code
def yX9_cost : MethodName := ⟨RX9, "cost", "(III)I"⟩
abbrev cX9_takeOff : ByteArray := prog_11_method_29_code
def yX9_takeOff : MethodName := ⟨RX9, "takeOff", "(II)V"⟩
abbrev cX9_isOn : ByteArray := prog_11_method_30_code
def yX9_isOn : MethodName := ⟨RX9, "isOn", "(II)Z"⟩
abbrev cX9_isOpen : ByteArray := prog_11_method_31_code
def yX9_isOpen : MethodName := ⟨RX9, "isOpen", "(I)Z"⟩
abbrev cX9_whyNot : ByteArray := prog_11_method_32_code
def yX9_whyNot : MethodName := ⟨RX9, "whyNot", "(IIII)I"⟩
abbrev cX9_whyAt : ByteArray := prog_11_method_33_code
def yX9_whyAt : MethodName := ⟨RX9, "whyAt", "(IIIII)I"⟩
abbrev cX9_rowFault : ByteArray := prog_11_method_34_code
def yX9_rowFault : MethodName := ⟨RX9, "rowFault", "(Z)I"⟩
abbrev cX9_lay : ByteArray := prog_11_method_35_code
def yX9_lay : MethodName := ⟨RX9, "lay", "(II)I"⟩
abbrev cX9_goal : ByteArray := prog_11_method_36_code
def yX9_goal : MethodName := ⟨RX9, "goal", "(II)I"⟩
abbrev cX9_step : ByteArray := prog_11_method_37_code
def yX9_step : MethodName := ⟨RX9, "step", "(I)V"⟩
abbrev cX9_goRow : ByteArray := prog_11_method_38_code
def yX9_goRow : MethodName := ⟨RX9, "goRow", "(I)Z"⟩
abbrev cX9_judge : ByteArray := prog_11_method_39_code
def yX9_judge : MethodName := ⟨RX9, "judge", "(II)I"⟩
abbrev cX9_move : ByteArray := prog_11_method_40_code
def yX9_move : MethodName := ⟨RX9, "move", "(I)I"⟩
abbrev cX9_findFits : ByteArray := prog_11_method_41_code
def yX9_findFits : MethodName := ⟨RX9, "findFits", "(I)V"⟩
abbrev cX9_next : ByteArray := prog_11_method_42_code
def yX9_next : MethodName := ⟨RX9, "next", "(II)I"⟩
abbrev cX9_undo : ByteArray := prog_11_method_43_code
def yX9_undo : MethodName := ⟨RX9, "undo", "(I)I"⟩
abbrev cX9_cubesOn : ByteArray := prog_11_method_44_code
def yX9_cubesOn : MethodName := ⟨RX9, "cubesOn", "(I)I"⟩
abbrev cX9_costOf : ByteArray := prog_11_method_45_code
def yX9_costOf : MethodName := ⟨RX9, "costOf", "(I)J"⟩
abbrev cX9_findOff : ByteArray := prog_11_method_46_code
def yX9_findOff : MethodName := ⟨RX9, "findOff", "(II)V"⟩
abbrev cX9_standOf : ByteArray := prog_11_method_47_code
def yX9_standOf : MethodName := ⟨RX9, "standOf", "(I)I"⟩
abbrev cX9_bestMove : ByteArray := prog_11_method_48_code
def yX9_bestMove : MethodName := ⟨RX9, "bestMove", "(I)I"⟩
abbrev cX9_moveAt : ByteArray := prog_11_method_49_code
def yX9_moveAt : MethodName := ⟨RX9, "moveAt", "(II)I"⟩
abbrev cX9_isSet : ByteArray := prog_11_method_50_code
def yX9_isSet : MethodName := ⟨RX9, "isSet", "(I)Z"⟩
abbrev cX9_goes : ByteArray := prog_11_method_51_code
def yX9_goes : MethodName := ⟨RX9, "goes", "(IIII)I"⟩
abbrev cX9_effort : ByteArray := prog_11_method_52_code
def yX9_effort : MethodName := ⟨RX9, "effort", "(IIII)I"⟩
abbrev cX9_comesTo : ByteArray := prog_11_method_53_code
def yX9_comesTo : MethodName := ⟨RX9, "comesTo", "(I)I"⟩
abbrev cX9_against : ByteArray := prog_11_method_54_code
def yX9_against : MethodName := ⟨RX9, "against", "(III)I"⟩
abbrev cX9_isOwn : ByteArray := prog_11_method_55_code
def yX9_isOwn : MethodName := ⟨RX9, "isOwn", "(IIII)Z"⟩
abbrev cX9_scrapes : ByteArray := prog_11_method_56_code
def yX9_scrapes : MethodName := ⟨RX9, "scrapes", "(I)I"⟩
abbrev cX9_turnable : ByteArray := prog_11_method_57_code
def yX9_turnable : MethodName := ⟨RX9, "turnable", "(I)I"⟩
abbrev cX9_room : ByteArray := prog_11_method_58_code
def yX9_room : MethodName := ⟨RX9, "room", "(II)I"⟩
abbrev cX9_doesGo : ByteArray := prog_11_method_59_code
def yX9_doesGo : MethodName := ⟨RX9, "doesGo", "(III)Z"⟩
abbrev cX9_costOff : ByteArray := prog_11_method_60_code
def yX9_costOff : MethodName := ⟨RX9, "costOff", "(III)I"⟩
abbrev cX9_least : ByteArray := prog_11_method_61_code
def yX9_least : MethodName := ⟨RX9, "least", "(II)I"⟩
abbrev cX9_layBar : ByteArray := prog_11_method_62_code
def yX9_layBar : MethodName := ⟨RX9, "layBar", "(II)V"⟩
abbrev cX9_fitsBar : ByteArray := prog_11_method_63_code
def yX9_fitsBar : MethodName := ⟨RX9, "fitsBar", "(II)Z"⟩
abbrev cX9_bar : ByteArray := prog_11_method_64_code
def yX9_bar : MethodName := ⟨RX9, "bar", "(I)I"⟩
abbrev cX9_goesAmong : ByteArray := prog_11_method_65_code
def yX9_goesAmong : MethodName := ⟨RX9, "goesAmong", "(II)Z"⟩
abbrev cX9_findOrder : ByteArray := prog_11_method_66_code
def yX9_findOrder : MethodName := ⟨RX9, "findOrder", "(I)I"⟩
abbrev cX9_order : ByteArray := prog_11_method_67_code
def yX9_order : MethodName := ⟨RX9, "order", "(II)I"⟩
abbrev cX9_came : ByteArray := prog_11_method_68_code
def yX9_came : MethodName := ⟨RX9, "came", "(II)I"⟩
abbrev cX9_pass : ByteArray := prog_11_method_69_code
def yX9_pass : MethodName := ⟨RX9, "pass", "(I)I"⟩
abbrev cX9_passAll : ByteArray := prog_11_method_70_code
def yX9_passAll : MethodName := ⟨RX9, "passAll", "()V"⟩
abbrev cX9_image : ByteArray := prog_11_method_71_code
def yX9_image : MethodName := ⟨RX9, "image", "(I)I"⟩
abbrev cX9_restore : ByteArray := prog_11_method_72_code
def yX9_restore : MethodName := ⟨RX9, "restore", "(I)I"⟩
abbrev cX9_told : ByteArray := prog_11_method_73_code
def yX9_told : MethodName := ⟨RX9, "told", "(I)I"⟩
def RJ9 : String := "java/lang/Math"
def TJ9 : u_T := fun k => match k with
  | _ => ("", "", "", false)
def tyJ9 : Nat → FieldType := fun k => match k with
  | _ => .int
theorem nmJ9 : ∀ a, a < 0 → ∀ b, b < 0 → a ≠ b → (TJ9 a).2.1 ≠ (TJ9 b).2.1 := by decide +kernel
theorem tyJ9_ok : ∀ k, k < 0 → parseFieldDescriptor (TJ9 k).2.2.1 = some (tyJ9 k) := by decide +kernel
abbrev cJ9_abs_0f7a4 : ByteArray := prog_13_method_59_code
def yJ9_abs_0f7a4 : MethodName := ⟨RJ9, "abs", "(I)I"⟩
abbrev cJ9_max_7cf53 : ByteArray := prog_13_method_65_code
def yJ9_max_7cf53 : MethodName := ⟨RJ9, "max", "(II)I"⟩
abbrev cJ9_min_7cf53 : ByteArray := prog_13_method_69_code
def yJ9_min_7cf53 : MethodName := ⟨RJ9, "min", "(II)I"⟩
def RJ0 : String := "java/lang/String"
def TJ0 : u_T := fun k => match k with
  | _ => ("", "", "", false)
def tyJ0 : Nat → FieldType := fun k => match k with
  | _ => .int
theorem nmJ0 : ∀ a, a < 0 → ∀ b, b < 0 → a ≠ b → (TJ0 a).2.1 ≠ (TJ0 b).2.1 := by decide +kernel
theorem tyJ0_ok : ∀ k, k < 0 → parseFieldDescriptor (TJ0 k).2.2.1 = some (tyJ0 k) := by decide +kernel
abbrev cJ0_length_8abf5 : ByteArray := prog_14_method_54_code
def yJ0_length_8abf5 : MethodName := ⟨RJ0, "length", "()I"⟩
abbrev cJ0_charAt_5068e : ByteArray := prog_14_method_56_code
def yJ0_charAt_5068e : MethodName := ⟨RJ0, "charAt", "(I)C"⟩
abbrev cJ0_indexOf_0f7a4 : ByteArray := prog_14_method_79_code
def yJ0_indexOf_0f7a4 : MethodName := ⟨RJ0, "indexOf", "(I)I"⟩
abbrev cJ0_indexOf_7cf53 : ByteArray := prog_14_method_80_code
def yJ0_indexOf_7cf53 : MethodName := ⟨RJ0, "indexOf", "(II)I"⟩
def RJ7 : String := "java/util/Arrays"
def TJ7 : u_T := fun k => match k with
  | _ => ("", "", "", false)
def tyJ7 : Nat → FieldType := fun k => match k with
  | _ => .int
theorem nmJ7 : ∀ a, a < 0 → ∀ b, b < 0 → a ≠ b → (TJ7 a).2.1 ≠ (TJ7 b).2.1 := by decide +kernel
theorem tyJ7_ok : ∀ k, k < 0 → parseFieldDescriptor (TJ7 k).2.2.1 = some (tyJ7 k) := by decide +kernel
abbrev cJ7_fill_53178 : ByteArray := prog_17_method_103_code
def yJ7_fill_53178 : MethodName := ⟨RJ7, "fill", "([II)V"⟩
def RL : String := "SofaStairLaw"
abbrev cL_law : ByteArray := code
def yL_law : MethodName := ⟨RL, "law", "([I)Z"⟩
abbrev vwCl : List vw_C := [(RX0, TX0, 4), (RX1, TX1, 6), (RX2, TX2, 2), (RX3, TX3, 11), (RX4, TX4, 5), (RX5, TX5, 8), (RX6, TX6, 2), (RX7, TX7, 5), (RX8, TX8, 9), (RX9, TX9, 43)]

/-- the words that stay good behind a call -/
def xw : List Cond := lw_tbl.filter goodWord
theorem xw_in {i : Nat} {w : Cond} (h : lw_tbl[i]? = some w) (g : goodWord w = true) : w ∈ xw := List.mem_filter.mpr ⟨List.mem_of_getElem? h, g⟩
theorem xw_sub : ∀ w ∈ xw, w ∈ lw_tbl := fun w h => (List.mem_filter.mp h).1
theorem xw_good : GoodIn xw xw := fun w h => ⟨h, good_of_word (List.mem_filter.mp h).2⟩
