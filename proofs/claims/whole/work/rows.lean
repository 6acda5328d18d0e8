section
-- ===== PART A: goes FIRST, ahead of the names: the tables' words, and 'selects' of the private methods out of them =====
/-- a private method of a class that the tables say can be made, by its rows of tables_1 -/
def lw_okq (q : MethodName × Nat) : Prop := (q.1.cls ≠ "java/lang/invoke/MethodHandle" ∧ q.1.cls ≠ "java/lang/invoke/VarHandle") ∧ Cond.instantiable q.1.cls q.2 ∈ tables_1 ∧ Cond.privateMethod q.1 ∈ tables_1 ∧ Cond.instanceMethod q.1 ∈ tables_1
theorem lw_p0 : lw_okq (⟨"SofaStair$Way", "measure", "(III)V"⟩, 5) := ⟨⟨by decide +kernel, by decide +kernel⟩, List.mem_of_getElem? (i := 49) (by decide +kernel), List.mem_of_getElem? (i := 55) (by decide +kernel), List.mem_of_getElem? (i := 56) (by decide +kernel)⟩
theorem lw_p1 : lw_okq (⟨"SofaStair$Turns", "turnedAxis", "(III)I"⟩, 2) := ⟨⟨by decide +kernel, by decide +kernel⟩, List.mem_of_getElem? (i := 157) (by decide +kernel), List.mem_of_getElem? (i := 163) (by decide +kernel), List.mem_of_getElem? (i := 164) (by decide +kernel)⟩
theorem lw_p2 : lw_okq (⟨"SofaStair$Turns", "find", "(IIII)I"⟩, 2) := ⟨⟨by decide +kernel, by decide +kernel⟩, List.mem_of_getElem? (i := 157) (by decide +kernel), List.mem_of_getElem? (i := 174) (by decide +kernel), List.mem_of_getElem? (i := 175) (by decide +kernel)⟩
theorem lw_p3 : lw_okq (⟨"SofaStair", "forgetWay", "()V"⟩, 9) := ⟨⟨by decide +kernel, by decide +kernel⟩, List.mem_of_getElem? (i := 19) (by decide +kernel), List.mem_of_getElem? (i := 327) (by decide +kernel), List.mem_of_getElem? (i := 328) (by decide +kernel)⟩
theorem lw_p4 : lw_okq (⟨"SofaStair$Pad", "standsInThing", "(I)Z"⟩, 2) := ⟨⟨by decide +kernel, by decide +kernel⟩, List.mem_of_getElem? (i := 27) (by decide +kernel), List.mem_of_getElem? (i := 395) (by decide +kernel), List.mem_of_getElem? (i := 396) (by decide +kernel)⟩
theorem lw_p5 : lw_okq (⟨"SofaStair$Pad", "isThere", "(I)Z"⟩, 2) := ⟨⟨by decide +kernel, by decide +kernel⟩, List.mem_of_getElem? (i := 27) (by decide +kernel), List.mem_of_getElem? (i := 408) (by decide +kernel), List.mem_of_getElem? (i := 409) (by decide +kernel)⟩
theorem lw_p6 : lw_okq (⟨"SofaStair$Pad", "leastIsZero", "()Z"⟩, 2) := ⟨⟨by decide +kernel, by decide +kernel⟩, List.mem_of_getElem? (i := 27) (by decide +kernel), List.mem_of_getElem? (i := 412) (by decide +kernel), List.mem_of_getElem? (i := 413) (by decide +kernel)⟩
theorem lw_p7 : lw_okq (⟨"SofaStair$Thing", "put", "(IIII)V"⟩, 8) := ⟨⟨by decide +kernel, by decide +kernel⟩, List.mem_of_getElem? (i := 92) (by decide +kernel), List.mem_of_getElem? (i := 523) (by decide +kernel), List.mem_of_getElem? (i := 524) (by decide +kernel)⟩
theorem lw_p8 : lw_okq (⟨"SofaStair", "turnedByPad", "()I"⟩, 9) := ⟨⟨by decide +kernel, by decide +kernel⟩, List.mem_of_getElem? (i := 19) (by decide +kernel), List.mem_of_getElem? (i := 560) (by decide +kernel), List.mem_of_getElem? (i := 561) (by decide +kernel)⟩
theorem lw_p9 : lw_okq (⟨"SofaStair$Search", "drawGrid", "()V"⟩, 11) := ⟨⟨by decide +kernel, by decide +kernel⟩, List.mem_of_getElem? (i := 186) (by decide +kernel), List.mem_of_getElem? (i := 573) (by decide +kernel), List.mem_of_getElem? (i := 574) (by decide +kernel)⟩
theorem lw_p10 : lw_okq (⟨"SofaStair$Search", "lookAt", "(I)I"⟩, 11) := ⟨⟨by decide +kernel, by decide +kernel⟩, List.mem_of_getElem? (i := 186) (by decide +kernel), List.mem_of_getElem? (i := 592) (by decide +kernel), List.mem_of_getElem? (i := 593) (by decide +kernel)⟩
theorem lw_p11 : lw_okq (⟨"SofaStair", "judged", "(LSofaStair$Thing;I)I"⟩, 9) := ⟨⟨by decide +kernel, by decide +kernel⟩, List.mem_of_getElem? (i := 19) (by decide +kernel), List.mem_of_getElem? (i := 610) (by decide +kernel), List.mem_of_getElem? (i := 611) (by decide +kernel)⟩
theorem lw_p12 : lw_okq (⟨"SofaStair", "rowAnswer", "(IIIII)I"⟩, 9) := ⟨⟨by decide +kernel, by decide +kernel⟩, List.mem_of_getElem? (i := 19) (by decide +kernel), List.mem_of_getElem? (i := 635) (by decide +kernel), List.mem_of_getElem? (i := 636) (by decide +kernel)⟩
theorem lw_p13 : lw_okq (⟨"SofaStair", "findGoes", "(LSofaStair$Thing;)V"⟩, 9) := ⟨⟨by decide +kernel, by decide +kernel⟩, List.mem_of_getElem? (i := 19) (by decide +kernel), List.mem_of_getElem? (i := 653) (by decide +kernel), List.mem_of_getElem? (i := 654) (by decide +kernel)⟩
theorem lw_p14 : lw_okq (⟨"SofaStair$Search", "reach", "(II)V"⟩, 11) := ⟨⟨by decide +kernel, by decide +kernel⟩, List.mem_of_getElem? (i := 186) (by decide +kernel), List.mem_of_getElem? (i := 665) (by decide +kernel), List.mem_of_getElem? (i := 666) (by decide +kernel)⟩
theorem lw_p15 : lw_okq (⟨"SofaStair$Cheapest", "come", "(II)V"⟩, 6) := ⟨⟨by decide +kernel, by decide +kernel⟩, List.mem_of_getElem? (i := 235) (by decide +kernel), List.mem_of_getElem? (i := 726) (by decide +kernel), List.mem_of_getElem? (i := 727) (by decide +kernel)⟩
def lw_privs_1 : List (MethodName × Nat) := [(⟨"SofaStair$Way", "measure", "(III)V"⟩, 5), (⟨"SofaStair$Turns", "turnedAxis", "(III)I"⟩, 2), (⟨"SofaStair$Turns", "find", "(IIII)I"⟩, 2), (⟨"SofaStair", "forgetWay", "()V"⟩, 9), (⟨"SofaStair$Pad", "standsInThing", "(I)Z"⟩, 2), (⟨"SofaStair$Pad", "isThere", "(I)Z"⟩, 2), (⟨"SofaStair$Pad", "leastIsZero", "()Z"⟩, 2), (⟨"SofaStair$Thing", "put", "(IIII)V"⟩, 8), (⟨"SofaStair", "turnedByPad", "()I"⟩, 9), (⟨"SofaStair$Search", "drawGrid", "()V"⟩, 11), (⟨"SofaStair$Search", "lookAt", "(I)I"⟩, 11), (⟨"SofaStair", "judged", "(LSofaStair$Thing;I)I"⟩, 9), (⟨"SofaStair", "rowAnswer", "(IIIII)I"⟩, 9), (⟨"SofaStair", "findGoes", "(LSofaStair$Thing;)V"⟩, 9), (⟨"SofaStair$Search", "reach", "(II)V"⟩, 11), (⟨"SofaStair$Cheapest", "come", "(II)V"⟩, 6)]
theorem lw_r1 : ∀ q ∈ lw_privs_1, lw_okq q := List.forall_mem_cons.mpr ⟨lw_p0, List.forall_mem_cons.mpr ⟨lw_p1, List.forall_mem_cons.mpr ⟨lw_p2, List.forall_mem_cons.mpr ⟨lw_p3, List.forall_mem_cons.mpr ⟨lw_p4, List.forall_mem_cons.mpr ⟨lw_p5, List.forall_mem_cons.mpr ⟨lw_p6, List.forall_mem_cons.mpr ⟨lw_p7, List.forall_mem_cons.mpr ⟨lw_p8, List.forall_mem_cons.mpr ⟨lw_p9, List.forall_mem_cons.mpr ⟨lw_p10, List.forall_mem_cons.mpr ⟨lw_p11, List.forall_mem_cons.mpr ⟨lw_p12, List.forall_mem_cons.mpr ⟨lw_p13, List.forall_mem_cons.mpr ⟨lw_p14, List.forall_mem_cons.mpr ⟨lw_p15, fun _ h => absurd h List.not_mem_nil⟩⟩⟩⟩⟩⟩⟩⟩⟩⟩⟩⟩⟩⟩⟩⟩
theorem lw_p16 : lw_okq (⟨"SofaStair$Cheapest", "rise", "(I)V"⟩, 6) := ⟨⟨by decide +kernel, by decide +kernel⟩, List.mem_of_getElem? (i := 235) (by decide +kernel), List.mem_of_getElem? (i := 731) (by decide +kernel), List.mem_of_getElem? (i := 732) (by decide +kernel)⟩
theorem lw_p17 : lw_okq (⟨"SofaStair$Cheapest", "put", "(II)V"⟩, 6) := ⟨⟨by decide +kernel, by decide +kernel⟩, List.mem_of_getElem? (i := 235) (by decide +kernel), List.mem_of_getElem? (i := 735) (by decide +kernel), List.mem_of_getElem? (i := 736) (by decide +kernel)⟩
theorem lw_p18 : lw_okq (⟨"SofaStair$Cheapest", "takeNearest", "()I"⟩, 6) := ⟨⟨by decide +kernel, by decide +kernel⟩, List.mem_of_getElem? (i := 235) (by decide +kernel), List.mem_of_getElem? (i := 739) (by decide +kernel), List.mem_of_getElem? (i := 740) (by decide +kernel)⟩
theorem lw_p19 : lw_okq (⟨"SofaStair$Cheapest", "sink", "(I)V"⟩, 6) := ⟨⟨by decide +kernel, by decide +kernel⟩, List.mem_of_getElem? (i := 235) (by decide +kernel), List.mem_of_getElem? (i := 743) (by decide +kernel), List.mem_of_getElem? (i := 744) (by decide +kernel)⟩
theorem lw_p20 : lw_okq (⟨"SofaStair$Cheapest", "walk", "(ILSofaStair$Answer;)V"⟩, 6) := ⟨⟨by decide +kernel, by decide +kernel⟩, List.mem_of_getElem? (i := 235) (by decide +kernel), List.mem_of_getElem? (i := 747) (by decide +kernel), List.mem_of_getElem? (i := 748) (by decide +kernel)⟩
theorem lw_p21 : lw_okq (⟨"SofaStair$Cheapest", "firstMove", "(I)I"⟩, 6) := ⟨⟨by decide +kernel, by decide +kernel⟩, List.mem_of_getElem? (i := 235) (by decide +kernel), List.mem_of_getElem? (i := 751) (by decide +kernel), List.mem_of_getElem? (i := 752) (by decide +kernel)⟩
theorem lw_p22 : lw_okq (⟨"SofaStair$Cheapest", "comeBackFrom", "(I)V"⟩, 6) := ⟨⟨by decide +kernel, by decide +kernel⟩, List.mem_of_getElem? (i := 235) (by decide +kernel), List.mem_of_getElem? (i := 762) (by decide +kernel), List.mem_of_getElem? (i := 763) (by decide +kernel)⟩
theorem lw_p23 : lw_okq (⟨"SofaStair", "scrapes", "(LSofaStair$Thing;)I"⟩, 9) := ⟨⟨by decide +kernel, by decide +kernel⟩, List.mem_of_getElem? (i := 19) (by decide +kernel), List.mem_of_getElem? (i := 780) (by decide +kernel), List.mem_of_getElem? (i := 781) (by decide +kernel)⟩
theorem lw_p24 : lw_okq (⟨"SofaStair", "scrapesAt", "(LSofaStair$Thing;III)I"⟩, 9) := ⟨⟨by decide +kernel, by decide +kernel⟩, List.mem_of_getElem? (i := 19) (by decide +kernel), List.mem_of_getElem? (i := 784) (by decide +kernel), List.mem_of_getElem? (i := 785) (by decide +kernel)⟩
theorem lw_p25 : lw_okq (⟨"SofaStair", "turnable", "(LSofaStair$Thing;)I"⟩, 9) := ⟨⟨by decide +kernel, by decide +kernel⟩, List.mem_of_getElem? (i := 19) (by decide +kernel), List.mem_of_getElem? (i := 789) (by decide +kernel), List.mem_of_getElem? (i := 790) (by decide +kernel)⟩
theorem lw_p26 : lw_okq (⟨"SofaStair", "fitsAllRound", "(II)Z"⟩, 9) := ⟨⟨by decide +kernel, by decide +kernel⟩, List.mem_of_getElem? (i := 19) (by decide +kernel), List.mem_of_getElem? (i := 794) (by decide +kernel), List.mem_of_getElem? (i := 795) (by decide +kernel)⟩
theorem lw_p27 : lw_okq (⟨"SofaStair", "findLeast", "(LSofaStair$Thing;)V"⟩, 9) := ⟨⟨by decide +kernel, by decide +kernel⟩, List.mem_of_getElem? (i := 19) (by decide +kernel), List.mem_of_getElem? (i := 803) (by decide +kernel), List.mem_of_getElem? (i := 804) (by decide +kernel)⟩
theorem lw_p28 : lw_okq (⟨"SofaStair", "goesWith", "(LSofaStair$Thing;I)Z"⟩, 9) := ⟨⟨by decide +kernel, by decide +kernel⟩, List.mem_of_getElem? (i := 19) (by decide +kernel), List.mem_of_getElem? (i := 815) (by decide +kernel), List.mem_of_getElem? (i := 816) (by decide +kernel)⟩
theorem lw_p29 : lw_okq (⟨"SofaStair", "neededOf", "(LSofaStair$Thing;I)I"⟩, 9) := ⟨⟨by decide +kernel, by decide +kernel⟩, List.mem_of_getElem? (i := 19) (by decide +kernel), List.mem_of_getElem? (i := 819) (by decide +kernel), List.mem_of_getElem? (i := 820) (by decide +kernel)⟩
theorem lw_p30 : lw_okq (⟨"SofaStair", "sumSetCosts", "(LSofaStair$Thing;)V"⟩, 9) := ⟨⟨by decide +kernel, by decide +kernel⟩, List.mem_of_getElem? (i := 19) (by decide +kernel), List.mem_of_getElem? (i := 824) (by decide +kernel), List.mem_of_getElem? (i := 825) (by decide +kernel)⟩
theorem lw_p31 : lw_okq (⟨"SofaStair", "findBar", "(LSofaStair$Thing;I)V"⟩, 9) := ⟨⟨by decide +kernel, by decide +kernel⟩, List.mem_of_getElem? (i := 19) (by decide +kernel), List.mem_of_getElem? (i := 834) (by decide +kernel), List.mem_of_getElem? (i := 835) (by decide +kernel)⟩
def lw_privs_2 : List (MethodName × Nat) := [(⟨"SofaStair$Cheapest", "rise", "(I)V"⟩, 6), (⟨"SofaStair$Cheapest", "put", "(II)V"⟩, 6), (⟨"SofaStair$Cheapest", "takeNearest", "()I"⟩, 6), (⟨"SofaStair$Cheapest", "sink", "(I)V"⟩, 6), (⟨"SofaStair$Cheapest", "walk", "(ILSofaStair$Answer;)V"⟩, 6), (⟨"SofaStair$Cheapest", "firstMove", "(I)I"⟩, 6), (⟨"SofaStair$Cheapest", "comeBackFrom", "(I)V"⟩, 6), (⟨"SofaStair", "scrapes", "(LSofaStair$Thing;)I"⟩, 9), (⟨"SofaStair", "scrapesAt", "(LSofaStair$Thing;III)I"⟩, 9), (⟨"SofaStair", "turnable", "(LSofaStair$Thing;)I"⟩, 9), (⟨"SofaStair", "fitsAllRound", "(II)Z"⟩, 9), (⟨"SofaStair", "findLeast", "(LSofaStair$Thing;)V"⟩, 9), (⟨"SofaStair", "goesWith", "(LSofaStair$Thing;I)Z"⟩, 9), (⟨"SofaStair", "neededOf", "(LSofaStair$Thing;I)I"⟩, 9), (⟨"SofaStair", "sumSetCosts", "(LSofaStair$Thing;)V"⟩, 9), (⟨"SofaStair", "findBar", "(LSofaStair$Thing;I)V"⟩, 9)]
theorem lw_r2 : ∀ q ∈ lw_privs_2, lw_okq q := List.forall_mem_cons.mpr ⟨lw_p16, List.forall_mem_cons.mpr ⟨lw_p17, List.forall_mem_cons.mpr ⟨lw_p18, List.forall_mem_cons.mpr ⟨lw_p19, List.forall_mem_cons.mpr ⟨lw_p20, List.forall_mem_cons.mpr ⟨lw_p21, List.forall_mem_cons.mpr ⟨lw_p22, List.forall_mem_cons.mpr ⟨lw_p23, List.forall_mem_cons.mpr ⟨lw_p24, List.forall_mem_cons.mpr ⟨lw_p25, List.forall_mem_cons.mpr ⟨lw_p26, List.forall_mem_cons.mpr ⟨lw_p27, List.forall_mem_cons.mpr ⟨lw_p28, List.forall_mem_cons.mpr ⟨lw_p29, List.forall_mem_cons.mpr ⟨lw_p30, List.forall_mem_cons.mpr ⟨lw_p31, fun _ h => absurd h List.not_mem_nil⟩⟩⟩⟩⟩⟩⟩⟩⟩⟩⟩⟩⟩⟩⟩⟩
theorem lw_p32 : lw_okq (⟨"SofaStair", "barGoes", "(LSofaStair$Thing;II)Z"⟩, 9) := ⟨⟨by decide +kernel, by decide +kernel⟩, List.mem_of_getElem? (i := 19) (by decide +kernel), List.mem_of_getElem? (i := 838) (by decide +kernel), List.mem_of_getElem? (i := 839) (by decide +kernel)⟩
theorem lw_p33 : lw_okq (⟨"SofaStair", "findOrder", "(I)V"⟩, 9) := ⟨⟨by decide +kernel, by decide +kernel⟩, List.mem_of_getElem? (i := 19) (by decide +kernel), List.mem_of_getElem? (i := 850) (by decide +kernel), List.mem_of_getElem? (i := 851) (by decide +kernel)⟩
theorem lw_p34 : lw_okq (⟨"SofaStair", "firstToGo", "(I)I"⟩, 9) := ⟨⟨by decide +kernel, by decide +kernel⟩, List.mem_of_getElem? (i := 19) (by decide +kernel), List.mem_of_getElem? (i := 854) (by decide +kernel), List.mem_of_getElem? (i := 855) (by decide +kernel)⟩
theorem lw_p35 : lw_okq (⟨"SofaStair", "goesAmong", "(II)Z"⟩, 9) := ⟨⟨by decide +kernel, by decide +kernel⟩, List.mem_of_getElem? (i := 19) (by decide +kernel), List.mem_of_getElem? (i := 858) (by decide +kernel), List.mem_of_getElem? (i := 859) (by decide +kernel)⟩
theorem lw_p36 : lw_okq (⟨"SofaStair", "findCame", "(LSofaStair$Thing;)V"⟩, 9) := ⟨⟨by decide +kernel, by decide +kernel⟩, List.mem_of_getElem? (i := 19) (by decide +kernel), List.mem_of_getElem? (i := 870) (by decide +kernel), List.mem_of_getElem? (i := 871) (by decide +kernel)⟩
theorem lw_p37 : lw_okq (⟨"SofaStair", "imageAt", "(I)LSofaStair$Stair;"⟩, 9) := ⟨⟨by decide +kernel, by decide +kernel⟩, List.mem_of_getElem? (i := 19) (by decide +kernel), List.mem_of_getElem? (i := 881) (by decide +kernel), List.mem_of_getElem? (i := 882) (by decide +kernel)⟩
theorem lw_p38 : lw_okq (⟨"SofaStairModel", "findTables", "()V"⟩, 43) := ⟨⟨by decide +kernel, by decide +kernel⟩, List.mem_of_getElem? (i := 914) (by decide +kernel), List.mem_of_getElem? (i := 920) (by decide +kernel), List.mem_of_getElem? (i := 921) (by decide +kernel)⟩
theorem lw_p39 : lw_okq (⟨"SofaStairModel", "turn", "(II)V"⟩, 43) := ⟨⟨by decide +kernel, by decide +kernel⟩, List.mem_of_getElem? (i := 914) (by decide +kernel), List.mem_of_getElem? (i := 924) (by decide +kernel), List.mem_of_getElem? (i := 925) (by decide +kernel)⟩
theorem lw_p40 : lw_okq (⟨"SofaStairModel", "tableOf", "(I)I"⟩, 43) := ⟨⟨by decide +kernel, by decide +kernel⟩, List.mem_of_getElem? (i := 914) (by decide +kernel), List.mem_of_getElem? (i := 928) (by decide +kernel), List.mem_of_getElem? (i := 929) (by decide +kernel)⟩
theorem lw_p41 : lw_okq (⟨"SofaStairModel", "isCellNumber", "(I)Z"⟩, 43) := ⟨⟨by decide +kernel, by decide +kernel⟩, List.mem_of_getElem? (i := 914) (by decide +kernel), List.mem_of_getElem? (i := 1077) (by decide +kernel), List.mem_of_getElem? (i := 1078) (by decide +kernel)⟩
theorem lw_p42 : lw_okq (⟨"SofaStairModel", "isCell", "(III)Z"⟩, 43) := ⟨⟨by decide +kernel, by decide +kernel⟩, List.mem_of_getElem? (i := 914) (by decide +kernel), List.mem_of_getElem? (i := 1081) (by decide +kernel), List.mem_of_getElem? (i := 1082) (by decide +kernel)⟩
theorem lw_p43 : lw_okq (⟨"SofaStairModel", "faultOfThing", "()I"⟩, 43) := ⟨⟨by decide +kernel, by decide +kernel⟩, List.mem_of_getElem? (i := 914) (by decide +kernel), List.mem_of_getElem? (i := 1110) (by decide +kernel), List.mem_of_getElem? (i := 1111) (by decide +kernel)⟩
theorem lw_p44 : lw_okq (⟨"SofaStairModel", "wasTold", "(I)Z"⟩, 43) := ⟨⟨by decide +kernel, by decide +kernel⟩, List.mem_of_getElem? (i := 914) (by decide +kernel), List.mem_of_getElem? (i := 1116) (by decide +kernel), List.mem_of_getElem? (i := 1117) (by decide +kernel)⟩
theorem lw_p45 : lw_okq (⟨"SofaStairModel", "faultOfRow", "()I"⟩, 43) := ⟨⟨by decide +kernel, by decide +kernel⟩, List.mem_of_getElem? (i := 914) (by decide +kernel), List.mem_of_getElem? (i := 1122) (by decide +kernel), List.mem_of_getElem? (i := 1123) (by decide +kernel)⟩
theorem lw_p46 : lw_okq (⟨"SofaStairModel", "layCubes", "(II)V"⟩, 43) := ⟨⟨by decide +kernel, by decide +kernel⟩, List.mem_of_getElem? (i := 914) (by decide +kernel), List.mem_of_getElem? (i := 1141) (by decide +kernel), List.mem_of_getElem? (i := 1142) (by decide +kernel)⟩
theorem lw_p47 : lw_okq (⟨"SofaStairModel", "row", "(III)I"⟩, 43) := ⟨⟨by decide +kernel, by decide +kernel⟩, List.mem_of_getElem? (i := 914) (by decide +kernel), List.mem_of_getElem? (i := 1145) (by decide +kernel), List.mem_of_getElem? (i := 1146) (by decide +kernel)⟩
def lw_privs_3 : List (MethodName × Nat) := [(⟨"SofaStair", "barGoes", "(LSofaStair$Thing;II)Z"⟩, 9), (⟨"SofaStair", "findOrder", "(I)V"⟩, 9), (⟨"SofaStair", "firstToGo", "(I)I"⟩, 9), (⟨"SofaStair", "goesAmong", "(II)Z"⟩, 9), (⟨"SofaStair", "findCame", "(LSofaStair$Thing;)V"⟩, 9), (⟨"SofaStair", "imageAt", "(I)LSofaStair$Stair;"⟩, 9), (⟨"SofaStairModel", "findTables", "()V"⟩, 43), (⟨"SofaStairModel", "turn", "(II)V"⟩, 43), (⟨"SofaStairModel", "tableOf", "(I)I"⟩, 43), (⟨"SofaStairModel", "isCellNumber", "(I)Z"⟩, 43), (⟨"SofaStairModel", "isCell", "(III)Z"⟩, 43), (⟨"SofaStairModel", "faultOfThing", "()I"⟩, 43), (⟨"SofaStairModel", "wasTold", "(I)Z"⟩, 43), (⟨"SofaStairModel", "faultOfRow", "()I"⟩, 43), (⟨"SofaStairModel", "layCubes", "(II)V"⟩, 43), (⟨"SofaStairModel", "row", "(III)I"⟩, 43)]
theorem lw_r3 : ∀ q ∈ lw_privs_3, lw_okq q := List.forall_mem_cons.mpr ⟨lw_p32, List.forall_mem_cons.mpr ⟨lw_p33, List.forall_mem_cons.mpr ⟨lw_p34, List.forall_mem_cons.mpr ⟨lw_p35, List.forall_mem_cons.mpr ⟨lw_p36, List.forall_mem_cons.mpr ⟨lw_p37, List.forall_mem_cons.mpr ⟨lw_p38, List.forall_mem_cons.mpr ⟨lw_p39, List.forall_mem_cons.mpr ⟨lw_p40, List.forall_mem_cons.mpr ⟨lw_p41, List.forall_mem_cons.mpr ⟨lw_p42, List.forall_mem_cons.mpr ⟨lw_p43, List.forall_mem_cons.mpr ⟨lw_p44, List.forall_mem_cons.mpr ⟨lw_p45, List.forall_mem_cons.mpr ⟨lw_p46, List.forall_mem_cons.mpr ⟨lw_p47, fun _ h => absurd h List.not_mem_nil⟩⟩⟩⟩⟩⟩⟩⟩⟩⟩⟩⟩⟩⟩⟩⟩
theorem lw_p48 : lw_okq (⟨"SofaStairModel", "rowFault", "(Z)I"⟩, 43) := ⟨⟨by decide +kernel, by decide +kernel⟩, List.mem_of_getElem? (i := 914) (by decide +kernel), List.mem_of_getElem? (i := 1159) (by decide +kernel), List.mem_of_getElem? (i := 1160) (by decide +kernel)⟩
theorem lw_p49 : lw_okq (⟨"SofaStairModel", "takeOff", "(II)V"⟩, 43) := ⟨⟨by decide +kernel, by decide +kernel⟩, List.mem_of_getElem? (i := 914) (by decide +kernel), List.mem_of_getElem? (i := 1163) (by decide +kernel), List.mem_of_getElem? (i := 1164) (by decide +kernel)⟩
theorem lw_p50 : lw_okq (⟨"SofaStairModel", "whyAt", "(IIIII)I"⟩, 43) := ⟨⟨by decide +kernel, by decide +kernel⟩, List.mem_of_getElem? (i := 914) (by decide +kernel), List.mem_of_getElem? (i := 1167) (by decide +kernel), List.mem_of_getElem? (i := 1168) (by decide +kernel)⟩
theorem lw_p51 : lw_okq (⟨"SofaStairModel", "whyNot", "(IIII)I"⟩, 43) := ⟨⟨by decide +kernel, by decide +kernel⟩, List.mem_of_getElem? (i := 914) (by decide +kernel), List.mem_of_getElem? (i := 1171) (by decide +kernel), List.mem_of_getElem? (i := 1172) (by decide +kernel)⟩
theorem lw_p52 : lw_okq (⟨"SofaStairModel", "isOn", "(II)Z"⟩, 43) := ⟨⟨by decide +kernel, by decide +kernel⟩, List.mem_of_getElem? (i := 914) (by decide +kernel), List.mem_of_getElem? (i := 1175) (by decide +kernel), List.mem_of_getElem? (i := 1176) (by decide +kernel)⟩
theorem lw_p53 : lw_okq (⟨"SofaStairModel", "isOpen", "(I)Z"⟩, 43) := ⟨⟨by decide +kernel, by decide +kernel⟩, List.mem_of_getElem? (i := 914) (by decide +kernel), List.mem_of_getElem? (i := 1179) (by decide +kernel), List.mem_of_getElem? (i := 1180) (by decide +kernel)⟩
theorem lw_p54 : lw_okq (⟨"SofaStairModel", "goRow", "(I)Z"⟩, 43) := ⟨⟨by decide +kernel, by decide +kernel⟩, List.mem_of_getElem? (i := 914) (by decide +kernel), List.mem_of_getElem? (i := 1194) (by decide +kernel), List.mem_of_getElem? (i := 1195) (by decide +kernel)⟩
theorem lw_p55 : lw_okq (⟨"SofaStairModel", "step", "(I)V"⟩, 43) := ⟨⟨by decide +kernel, by decide +kernel⟩, List.mem_of_getElem? (i := 914) (by decide +kernel), List.mem_of_getElem? (i := 1198) (by decide +kernel), List.mem_of_getElem? (i := 1199) (by decide +kernel)⟩
theorem lw_p56 : lw_okq (⟨"SofaStairModel", "findOff", "(II)V"⟩, 43) := ⟨⟨by decide +kernel, by decide +kernel⟩, List.mem_of_getElem? (i := 914) (by decide +kernel), List.mem_of_getElem? (i := 1214) (by decide +kernel), List.mem_of_getElem? (i := 1215) (by decide +kernel)⟩
theorem lw_p57 : lw_okq (⟨"SofaStairModel", "findFits", "(I)V"⟩, 43) := ⟨⟨by decide +kernel, by decide +kernel⟩, List.mem_of_getElem? (i := 914) (by decide +kernel), List.mem_of_getElem? (i := 1218) (by decide +kernel), List.mem_of_getElem? (i := 1219) (by decide +kernel)⟩
theorem lw_p58 : lw_okq (⟨"SofaStairModel", "cubesOn", "(I)I"⟩, 43) := ⟨⟨by decide +kernel, by decide +kernel⟩, List.mem_of_getElem? (i := 914) (by decide +kernel), List.mem_of_getElem? (i := 1222) (by decide +kernel), List.mem_of_getElem? (i := 1223) (by decide +kernel)⟩
theorem lw_p59 : lw_okq (⟨"SofaStairModel", "next", "(II)I"⟩, 43) := ⟨⟨by decide +kernel, by decide +kernel⟩, List.mem_of_getElem? (i := 914) (by decide +kernel), List.mem_of_getElem? (i := 1230) (by decide +kernel), List.mem_of_getElem? (i := 1231) (by decide +kernel)⟩
theorem lw_p60 : lw_okq (⟨"SofaStairModel", "costOf", "(I)J"⟩, 43) := ⟨⟨by decide +kernel, by decide +kernel⟩, List.mem_of_getElem? (i := 914) (by decide +kernel), List.mem_of_getElem? (i := 1234) (by decide +kernel), List.mem_of_getElem? (i := 1235) (by decide +kernel)⟩
theorem lw_p61 : lw_okq (⟨"SofaStairModel", "standOf", "(I)I"⟩, 43) := ⟨⟨by decide +kernel, by decide +kernel⟩, List.mem_of_getElem? (i := 914) (by decide +kernel), List.mem_of_getElem? (i := 1239) (by decide +kernel), List.mem_of_getElem? (i := 1240) (by decide +kernel)⟩
theorem lw_p62 : lw_okq (⟨"SofaStairModel", "moveAt", "(II)I"⟩, 43) := ⟨⟨by decide +kernel, by decide +kernel⟩, List.mem_of_getElem? (i := 914) (by decide +kernel), List.mem_of_getElem? (i := 1243) (by decide +kernel), List.mem_of_getElem? (i := 1244) (by decide +kernel)⟩
theorem lw_p63 : lw_okq (⟨"SofaStairModel", "bestMove", "(I)I"⟩, 43) := ⟨⟨by decide +kernel, by decide +kernel⟩, List.mem_of_getElem? (i := 914) (by decide +kernel), List.mem_of_getElem? (i := 1247) (by decide +kernel), List.mem_of_getElem? (i := 1248) (by decide +kernel)⟩
def lw_privs_4 : List (MethodName × Nat) := [(⟨"SofaStairModel", "rowFault", "(Z)I"⟩, 43), (⟨"SofaStairModel", "takeOff", "(II)V"⟩, 43), (⟨"SofaStairModel", "whyAt", "(IIIII)I"⟩, 43), (⟨"SofaStairModel", "whyNot", "(IIII)I"⟩, 43), (⟨"SofaStairModel", "isOn", "(II)Z"⟩, 43), (⟨"SofaStairModel", "isOpen", "(I)Z"⟩, 43), (⟨"SofaStairModel", "goRow", "(I)Z"⟩, 43), (⟨"SofaStairModel", "step", "(I)V"⟩, 43), (⟨"SofaStairModel", "findOff", "(II)V"⟩, 43), (⟨"SofaStairModel", "findFits", "(I)V"⟩, 43), (⟨"SofaStairModel", "cubesOn", "(I)I"⟩, 43), (⟨"SofaStairModel", "next", "(II)I"⟩, 43), (⟨"SofaStairModel", "costOf", "(I)J"⟩, 43), (⟨"SofaStairModel", "standOf", "(I)I"⟩, 43), (⟨"SofaStairModel", "moveAt", "(II)I"⟩, 43), (⟨"SofaStairModel", "bestMove", "(I)I"⟩, 43)]
theorem lw_r4 : ∀ q ∈ lw_privs_4, lw_okq q := List.forall_mem_cons.mpr ⟨lw_p48, List.forall_mem_cons.mpr ⟨lw_p49, List.forall_mem_cons.mpr ⟨lw_p50, List.forall_mem_cons.mpr ⟨lw_p51, List.forall_mem_cons.mpr ⟨lw_p52, List.forall_mem_cons.mpr ⟨lw_p53, List.forall_mem_cons.mpr ⟨lw_p54, List.forall_mem_cons.mpr ⟨lw_p55, List.forall_mem_cons.mpr ⟨lw_p56, List.forall_mem_cons.mpr ⟨lw_p57, List.forall_mem_cons.mpr ⟨lw_p58, List.forall_mem_cons.mpr ⟨lw_p59, List.forall_mem_cons.mpr ⟨lw_p60, List.forall_mem_cons.mpr ⟨lw_p61, List.forall_mem_cons.mpr ⟨lw_p62, List.forall_mem_cons.mpr ⟨lw_p63, fun _ h => absurd h List.not_mem_nil⟩⟩⟩⟩⟩⟩⟩⟩⟩⟩⟩⟩⟩⟩⟩⟩
theorem lw_p64 : lw_okq (⟨"SofaStairModel", "comesTo", "(I)I"⟩, 43) := ⟨⟨by decide +kernel, by decide +kernel⟩, List.mem_of_getElem? (i := 914) (by decide +kernel), List.mem_of_getElem? (i := 1263) (by decide +kernel), List.mem_of_getElem? (i := 1264) (by decide +kernel)⟩
theorem lw_p65 : lw_okq (⟨"SofaStairModel", "scrapes", "(I)I"⟩, 43) := ⟨⟨by decide +kernel, by decide +kernel⟩, List.mem_of_getElem? (i := 914) (by decide +kernel), List.mem_of_getElem? (i := 1267) (by decide +kernel), List.mem_of_getElem? (i := 1268) (by decide +kernel)⟩
theorem lw_p66 : lw_okq (⟨"SofaStairModel", "isOwn", "(IIII)Z"⟩, 43) := ⟨⟨by decide +kernel, by decide +kernel⟩, List.mem_of_getElem? (i := 914) (by decide +kernel), List.mem_of_getElem? (i := 1271) (by decide +kernel), List.mem_of_getElem? (i := 1272) (by decide +kernel)⟩
theorem lw_p67 : lw_okq (⟨"SofaStairModel", "against", "(III)I"⟩, 43) := ⟨⟨by decide +kernel, by decide +kernel⟩, List.mem_of_getElem? (i := 914) (by decide +kernel), List.mem_of_getElem? (i := 1275) (by decide +kernel), List.mem_of_getElem? (i := 1276) (by decide +kernel)⟩
theorem lw_p68 : lw_okq (⟨"SofaStairModel", "turnable", "(I)I"⟩, 43) := ⟨⟨by decide +kernel, by decide +kernel⟩, List.mem_of_getElem? (i := 914) (by decide +kernel), List.mem_of_getElem? (i := 1279) (by decide +kernel), List.mem_of_getElem? (i := 1280) (by decide +kernel)⟩
theorem lw_p69 : lw_okq (⟨"SofaStairModel", "doesGo", "(III)Z"⟩, 43) := ⟨⟨by decide +kernel, by decide +kernel⟩, List.mem_of_getElem? (i := 914) (by decide +kernel), List.mem_of_getElem? (i := 1287) (by decide +kernel), List.mem_of_getElem? (i := 1288) (by decide +kernel)⟩
theorem lw_p70 : lw_okq (⟨"SofaStairModel", "costOff", "(III)I"⟩, 43) := ⟨⟨by decide +kernel, by decide +kernel⟩, List.mem_of_getElem? (i := 914) (by decide +kernel), List.mem_of_getElem? (i := 1291) (by decide +kernel), List.mem_of_getElem? (i := 1292) (by decide +kernel)⟩
theorem lw_p71 : lw_okq (⟨"SofaStairModel", "fitsBar", "(II)Z"⟩, 43) := ⟨⟨by decide +kernel, by decide +kernel⟩, List.mem_of_getElem? (i := 914) (by decide +kernel), List.mem_of_getElem? (i := 1299) (by decide +kernel), List.mem_of_getElem? (i := 1300) (by decide +kernel)⟩
theorem lw_p72 : lw_okq (⟨"SofaStairModel", "layBar", "(II)V"⟩, 43) := ⟨⟨by decide +kernel, by decide +kernel⟩, List.mem_of_getElem? (i := 914) (by decide +kernel), List.mem_of_getElem? (i := 1303) (by decide +kernel), List.mem_of_getElem? (i := 1304) (by decide +kernel)⟩
theorem lw_p73 : lw_okq (⟨"SofaStairModel", "findOrder", "(I)I"⟩, 43) := ⟨⟨by decide +kernel, by decide +kernel⟩, List.mem_of_getElem? (i := 914) (by decide +kernel), List.mem_of_getElem? (i := 1311) (by decide +kernel), List.mem_of_getElem? (i := 1312) (by decide +kernel)⟩
theorem lw_p74 : lw_okq (⟨"SofaStairModel", "goesAmong", "(II)Z"⟩, 43) := ⟨⟨by decide +kernel, by decide +kernel⟩, List.mem_of_getElem? (i := 914) (by decide +kernel), List.mem_of_getElem? (i := 1315) (by decide +kernel), List.mem_of_getElem? (i := 1316) (by decide +kernel)⟩
theorem lw_p75 : lw_okq (⟨"SofaStairModel", "passAll", "()V"⟩, 43) := ⟨⟨by decide +kernel, by decide +kernel⟩, List.mem_of_getElem? (i := 914) (by decide +kernel), List.mem_of_getElem? (i := 1327) (by decide +kernel), List.mem_of_getElem? (i := 1328) (by decide +kernel)⟩
theorem lw_p76 : lw_okq (⟨"SofaStairModel", "pass", "(I)I"⟩, 43) := ⟨⟨by decide +kernel, by decide +kernel⟩, List.mem_of_getElem? (i := 914) (by decide +kernel), List.mem_of_getElem? (i := 1331) (by decide +kernel), List.mem_of_getElem? (i := 1332) (by decide +kernel)⟩
def lw_privs_5 : List (MethodName × Nat) := [(⟨"SofaStairModel", "comesTo", "(I)I"⟩, 43), (⟨"SofaStairModel", "scrapes", "(I)I"⟩, 43), (⟨"SofaStairModel", "isOwn", "(IIII)Z"⟩, 43), (⟨"SofaStairModel", "against", "(III)I"⟩, 43), (⟨"SofaStairModel", "turnable", "(I)I"⟩, 43), (⟨"SofaStairModel", "doesGo", "(III)Z"⟩, 43), (⟨"SofaStairModel", "costOff", "(III)I"⟩, 43), (⟨"SofaStairModel", "fitsBar", "(II)Z"⟩, 43), (⟨"SofaStairModel", "layBar", "(II)V"⟩, 43), (⟨"SofaStairModel", "findOrder", "(I)I"⟩, 43), (⟨"SofaStairModel", "goesAmong", "(II)Z"⟩, 43), (⟨"SofaStairModel", "passAll", "()V"⟩, 43), (⟨"SofaStairModel", "pass", "(I)I"⟩, 43)]
theorem lw_r5 : ∀ q ∈ lw_privs_5, lw_okq q := List.forall_mem_cons.mpr ⟨lw_p64, List.forall_mem_cons.mpr ⟨lw_p65, List.forall_mem_cons.mpr ⟨lw_p66, List.forall_mem_cons.mpr ⟨lw_p67, List.forall_mem_cons.mpr ⟨lw_p68, List.forall_mem_cons.mpr ⟨lw_p69, List.forall_mem_cons.mpr ⟨lw_p70, List.forall_mem_cons.mpr ⟨lw_p71, List.forall_mem_cons.mpr ⟨lw_p72, List.forall_mem_cons.mpr ⟨lw_p73, List.forall_mem_cons.mpr ⟨lw_p74, List.forall_mem_cons.mpr ⟨lw_p75, List.forall_mem_cons.mpr ⟨lw_p76, fun _ h => absurd h List.not_mem_nil⟩⟩⟩⟩⟩⟩⟩⟩⟩⟩⟩⟩⟩
def lw_privs : List (MethodName × Nat) := lw_privs_1 ++ (lw_privs_2 ++ (lw_privs_3 ++ (lw_privs_4 ++ (lw_privs_5))))
def lw_tbl : List Cond := k2_sels lw_privs ++ tables_1
theorem lw_privs_ok : ∀ q ∈ lw_privs, lw_okq q := by
  show ∀ q ∈ lw_privs_1 ++ (lw_privs_2 ++ (lw_privs_3 ++ (lw_privs_4 ++ (lw_privs_5)))), lw_okq q
  exact List.forall_mem_append.mpr ⟨lw_r1, List.forall_mem_append.mpr ⟨lw_r2, List.forall_mem_append.mpr ⟨lw_r3, List.forall_mem_append.mpr ⟨lw_r4, lw_r5⟩⟩⟩⟩

def RX0 : String := "SofaStair$Answer"
def TX0 : u_T := fun k => match k with
  | 0 => ("SofaStair$Answer", "row", "[I", true)
  | 1 => ("SofaStair$Answer", "key", "I", false)
  | 2 => ("SofaStair$Answer", "count", "I", false)
  | _ => ("SofaStair$Answer", "total", "I", false)
def tyX0 : Nat → FieldType := fun k => match k with
  | 0 => .array .int
  | 1 => .int
  | 2 => .int
  | _ => .int
abbrev wsX00 : List Cond := u_ws RX0 TX0 4
theorem nmX0 : ∀ a, a < 4 → ∀ b, b < 4 → a ≠ b → (TX0 a).2.1 ≠ (TX0 b).2.1 := by decide +kernel
theorem tyX0_ok : ∀ k, k < 4 → parseFieldDescriptor (TX0 k).2.2.1 = some (tyX0 k) := by decide +kernel
abbrev cX0_init : ByteArray := prog_2_method_1_code
def yX0_init : MethodName := ⟨RX0, "<init>", "()V"⟩
abbrev cX0_forget : ByteArray := prog_2_method_2_code
def yX0_forget : MethodName := ⟨RX0, "forget", "()V"⟩
abbrev cX0_isNew : ByteArray := prog_2_method_3_code
def yX0_isNew : MethodName := ⟨RX0, "isNew", "(IIII)Z"⟩
abbrev cX0_none : ByteArray := prog_2_method_4_code
def yX0_none : MethodName := ⟨RX0, "none", "()V"⟩
abbrev cX0_add : ByteArray := prog_2_method_5_code
def yX0_add : MethodName := ⟨RX0, "add", "(I)V"⟩
abbrev cX0_at : ByteArray := prog_2_method_6_code
def yX0_at : MethodName := ⟨RX0, "at", "(I)I"⟩
def RX1 : String := "SofaStair$Cheapest"
def TX1 : u_T := fun k => match k with
  | 0 => ("SofaStair$Cheapest", "search", "LSofaStair$Search;", true)
  | 1 => ("SofaStair$Cheapest", "weights", "[I", true)
  | 2 => ("SofaStair$Cheapest", "far", "[I", true)
  | 3 => ("SofaStair$Cheapest", "heap", "[I", true)
  | 4 => ("SofaStair$Cheapest", "heapIndex", "[I", true)
  | _ => ("SofaStair$Cheapest", "waiting", "I", false)
def tyX1 : Nat → FieldType := fun k => match k with
  | 0 => .object "SofaStair$Search"
  | 1 => .array .int
  | 2 => .array .int
  | 3 => .array .int
  | 4 => .array .int
  | _ => .int
abbrev wsX10 : List Cond := u_ws RX1 TX1 6
theorem nmX1 : ∀ a, a < 6 → ∀ b, b < 6 → a ≠ b → (TX1 a).2.1 ≠ (TX1 b).2.1 := by decide +kernel
theorem tyX1_ok : ∀ k, k < 6 → parseFieldDescriptor (TX1 k).2.2.1 = some (tyX1 k) := by decide +kernel
abbrev cX1_init : ByteArray := prog_3_method_1_code
def yX1_init : MethodName := ⟨RX1, "<init>", "(LSofaStair$Search;)V"⟩
abbrev cX1_weigh : ByteArray := prog_3_method_2_code
def yX1_weigh : MethodName := ⟨RX1, "weigh", "([II)V"⟩
abbrev cX1_find : ByteArray := prog_3_method_3_code
def yX1_find : MethodName := ⟨RX1, "find", "(IILSofaStair$Answer;)V"⟩
abbrev cX1_comeBackFrom : ByteArray := prog_3_method_4_code
def yX1_comeBackFrom : MethodName := ⟨RX1, "comeBackFrom", "(I)V"⟩
abbrev cX1_come : ByteArray := prog_3_method_5_code
def yX1_come : MethodName := ⟨RX1, "come", "(II)V"⟩
abbrev cX1_walk : ByteArray := prog_3_method_6_code
def yX1_walk : MethodName := ⟨RX1, "walk", "(ILSofaStair$Answer;)V"⟩
abbrev cX1_firstMove : ByteArray := prog_3_method_7_code
def yX1_firstMove : MethodName := ⟨RX1, "firstMove", "(I)I"⟩
abbrev cX1_put : ByteArray := prog_3_method_8_code
def yX1_put : MethodName := ⟨RX1, "put", "(II)V"⟩
abbrev cX1_rise : ByteArray := prog_3_method_9_code
def yX1_rise : MethodName := ⟨RX1, "rise", "(I)V"⟩
abbrev cX1_takeNearest : ByteArray := prog_3_method_10_code
def yX1_takeNearest : MethodName := ⟨RX1, "takeNearest", "()I"⟩
abbrev cX1_sink : ByteArray := prog_3_method_11_code
def yX1_sink : MethodName := ⟨RX1, "sink", "(I)V"⟩
def RX2 : String := "SofaStair$Pad"
def TX2 : u_T := fun k => match k with
  | 0 => ("SofaStair$Pad", "signs", "[I", true)
  | _ => ("SofaStair$Pad", "count", "I", false)
def tyX2 : Nat → FieldType := fun k => match k with
  | 0 => .array .int
  | _ => .int
abbrev wsX20 : List Cond := u_ws RX2 TX2 2
theorem nmX2 : ∀ a, a < 2 → ∀ b, b < 2 → a ≠ b → (TX2 a).2.1 ≠ (TX2 b).2.1 := by decide +kernel
theorem tyX2_ok : ∀ k, k < 2 → parseFieldDescriptor (TX2 k).2.2.1 = some (tyX2 k) := by decide +kernel
abbrev cX2_init : ByteArray := prog_4_method_1_code
def yX2_init : MethodName := ⟨RX2, "<init>", "()V"⟩
abbrev cX2_isFull : ByteArray := prog_4_method_2_code
def yX2_isFull : MethodName := ⟨RX2, "isFull", "()Z"⟩
abbrev cX2_add : ByteArray := prog_4_method_3_code
def yX2_add : MethodName := ⟨RX2, "add", "(I)I"⟩
abbrev cX2_clear : ByteArray := prog_4_method_4_code
def yX2_clear : MethodName := ⟨RX2, "clear", "()I"⟩
abbrev cX2_digitAt : ByteArray := prog_4_method_5_code
def yX2_digitAt : MethodName := ⟨RX2, "digitAt", "(I)I"⟩
abbrev cX2_groupAt : ByteArray := prog_4_method_6_code
def yX2_groupAt : MethodName := ⟨RX2, "groupAt", "(I)I"⟩
abbrev cX2_moveAt : ByteArray := prog_4_method_7_code
def yX2_moveAt : MethodName := ⟨RX2, "moveAt", "(I)I"⟩
abbrev cX2_rowFault : ByteArray := prog_4_method_8_code
def yX2_rowFault : MethodName := ⟨RX2, "rowFault", "()I"⟩
abbrev cX2_thingFault : ByteArray := prog_4_method_9_code
def yX2_thingFault : MethodName := ⟨RX2, "thingFault", "()I"⟩
abbrev cX2_standsInThing : ByteArray := prog_4_method_10_code
def yX2_standsInThing : MethodName := ⟨RX2, "standsInThing", "(I)Z"⟩
abbrev cX2_isThere : ByteArray := prog_4_method_11_code
def yX2_isThere : MethodName := ⟨RX2, "isThere", "(I)Z"⟩
abbrev cX2_leastIsZero : ByteArray := prog_4_method_12_code
def yX2_leastIsZero : MethodName := ⟨RX2, "leastIsZero", "()Z"⟩
def RX3 : String := "SofaStair$Search"
def TX3 : u_T := fun k => match k with
  | 0 => ("SofaStair$Search", "turns", "LSofaStair$Turns;", true)
  | 1 => ("SofaStair$Search", "way", "LSofaStair$Way;", true)
  | 2 => ("SofaStair$Search", "grid", "[I", true)
  | 3 => ("SofaStair$Search", "corners", "[I", true)
  | 4 => ("SofaStair$Search", "offsets", "[I", true)
  | 5 => ("SofaStair$Search", "hindered", "[I", true)
  | 6 => ("SofaStair$Search", "queue", "[I", true)
  | 7 => ("SofaStair$Search", "reachedBy", "[I", true)
  | 8 => ("SofaStair$Search", "thing", "LSofaStair$Thing;", false)
  | 9 => ("SofaStair$Search", "hindering", "I", false)
  | _ => ("SofaStair$Search", "reached", "I", false)
def tyX3 : Nat → FieldType := fun k => match k with
  | 0 => .object "SofaStair$Turns"
  | 1 => .object "SofaStair$Way"
  | 2 => .array .int
  | 3 => .array .int
  | 4 => .array .int
  | 5 => .array .int
  | 6 => .array .int
  | 7 => .array .int
  | 8 => .object "SofaStair$Thing"
  | 9 => .int
  | _ => .int
abbrev wsX30 : List Cond := u_ws RX3 TX3 11
theorem nmX3 : ∀ a, a < 11 → ∀ b, b < 11 → a ≠ b → (TX3 a).2.1 ≠ (TX3 b).2.1 := by decide +kernel
theorem tyX3_ok : ∀ k, k < 11 → parseFieldDescriptor (TX3 k).2.2.1 = some (tyX3 k) := by decide +kernel
abbrev cX3_init : ByteArray := prog_5_method_1_code
def yX3_init : MethodName := ⟨RX3, "<init>", "(LSofaStair$Turns;LSofaStair$Way;)V"⟩
abbrev cX3_forget : ByteArray := prog_5_method_2_code
def yX3_forget : MethodName := ⟨RX3, "forget", "()V"⟩
abbrev cX3_about : ByteArray := prog_5_method_3_code
def yX3_about : MethodName := ⟨RX3, "about", "(LSofaStair$Thing;)V"⟩
abbrev cX3_wall : ByteArray := prog_5_method_4_code
def yX3_wall : MethodName := ⟨RX3, "wall", "(LSofaStair$Thing;)V"⟩
abbrev cX3_off : ByteArray := prog_5_method_5_code
def yX3_off : MethodName := ⟨RX3, "off", "(II)V"⟩
abbrev cX3_fits : ByteArray := prog_5_method_6_code
def yX3_fits : MethodName := ⟨RX3, "fits", "(I)Z"⟩
abbrev cX3_why : ByteArray := prog_5_method_7_code
def yX3_why : MethodName := ⟨RX3, "why", "(I)I"⟩
abbrev cX3_step : ByteArray := prog_5_method_8_code
def yX3_step : MethodName := ⟨RX3, "step", "(II)I"⟩
abbrev cX3_flood : ByteArray := prog_5_method_9_code
def yX3_flood : MethodName := ⟨RX3, "flood", "(II)I"⟩
abbrev cX3_trace : ByteArray := prog_5_method_10_code
def yX3_trace : MethodName := ⟨RX3, "trace", "(ILSofaStair$Answer;)V"⟩
abbrev cX3_opposite : ByteArray := prog_5_method_11_code
def yX3_opposite : MethodName := ⟨RX3, "opposite", "(I)I"⟩
abbrev cX3_signOf : ByteArray := prog_5_method_12_code
def yX3_signOf : MethodName := ⟨RX3, "signOf", "(I)I"⟩
abbrev cX3_reach : ByteArray := prog_5_method_13_code
def yX3_reach : MethodName := ⟨RX3, "reach", "(II)V"⟩
abbrev cX3_lookAt : ByteArray := prog_5_method_14_code
def yX3_lookAt : MethodName := ⟨RX3, "lookAt", "(I)I"⟩
abbrev cX3_drawGrid : ByteArray := prog_5_method_15_code
def yX3_drawGrid : MethodName := ⟨RX3, "drawGrid", "()V"⟩
abbrev cX3_hindranceOf : ByteArray := prog_5_method_16_code
def yX3_hindranceOf : MethodName := ⟨RX3, "hindranceOf", "(I)I"⟩
abbrev cX3_gridAt : ByteArray := prog_5_method_17_code
def yX3_gridAt : MethodName := ⟨RX3, "gridAt", "(III)I"⟩
def RX4 : String := "SofaStair$Stair"
def TX4 : u_T := fun k => match k with
  | 0 => ("SofaStair$Stair", "way", "LSofaStair$Way;", true)
  | 1 => ("SofaStair$Stair", "things", "[LSofaStair$Thing;", true)
  | 2 => ("SofaStair$Stair", "doorCosts", "[I", true)
  | 3 => ("SofaStair$Stair", "moveCosts", "[I", true)
  | _ => ("SofaStair$Stair", "kept", "Z", false)
def tyX4 : Nat → FieldType := fun k => match k with
  | 0 => .object "SofaStair$Way"
  | 1 => .array (.object "SofaStair$Thing")
  | 2 => .array .int
  | 3 => .array .int
  | _ => .boolean
abbrev wsX40 : List Cond := u_ws RX4 TX4 5
theorem nmX4 : ∀ a, a < 5 → ∀ b, b < 5 → a ≠ b → (TX4 a).2.1 ≠ (TX4 b).2.1 := by decide +kernel
theorem tyX4_ok : ∀ k, k < 5 → parseFieldDescriptor (TX4 k).2.2.1 = some (tyX4 k) := by decide +kernel
abbrev cX4_init : ByteArray := prog_6_method_1_code
def yX4_init : MethodName := ⟨RX4, "<init>", "()V"⟩
abbrev cX4_thingAt : ByteArray := prog_6_method_2_code
def yX4_thingAt : MethodName := ⟨RX4, "thingAt", "(I)LSofaStair$Thing;"⟩
abbrev cX4_costsOf : ByteArray := prog_6_method_3_code
def yX4_costsOf : MethodName := ⟨RX4, "costsOf", "(I)[I"⟩
abbrev cX4_copyFrom : ByteArray := prog_6_method_4_code
def yX4_copyFrom : MethodName := ⟨RX4, "copyFrom", "(LSofaStair$Stair;)V"⟩
def RX5 : String := "SofaStair$Thing"
def TX5 : u_T := fun k => match k with
  | 0 => ("SofaStair$Thing", "cubes", "I", false)
  | 1 => ("SofaStair$Thing", "place", "I", false)
  | 2 => ("SofaStair$Thing", "turned", "I", false)
  | 3 => ("SofaStair$Thing", "goal", "I", false)
  | 4 => ("SofaStair$Thing", "spots", "[I", true)
  | 5 => ("SofaStair$Thing", "groups", "[I", true)
  | 6 => ("SofaStair$Thing", "greatest", "[I", true)
  | _ => ("SofaStair$Thing", "costs", "[I", true)
def tyX5 : Nat → FieldType := fun k => match k with
  | 0 => .int
  | 1 => .int
  | 2 => .int
  | 3 => .int
  | 4 => .array .int
  | 5 => .array .int
  | 6 => .array .int
  | _ => .array .int
abbrev wsX50 : List Cond := u_ws RX5 TX5 8
theorem nmX5 : ∀ a, a < 8 → ∀ b, b < 8 → a ≠ b → (TX5 a).2.1 ≠ (TX5 b).2.1 := by decide +kernel
theorem tyX5_ok : ∀ k, k < 8 → parseFieldDescriptor (TX5 k).2.2.1 = some (tyX5 k) := by decide +kernel
abbrev cX5_init : ByteArray := prog_7_method_1_code
def yX5_init : MethodName := ⟨RX5, "<init>", "()V"⟩
abbrev cX5_tell : ByteArray := prog_7_method_2_code
def yX5_tell : MethodName := ⟨RX5, "tell", "(LSofaStair$Pad;)V"⟩
abbrev cX5_becomeBar : ByteArray := prog_7_method_3_code
def yX5_becomeBar : MethodName := ⟨RX5, "becomeBar", "(I)V"⟩
abbrev cX5_put : ByteArray := prog_7_method_4_code
def yX5_put : MethodName := ⟨RX5, "put", "(IIII)V"⟩
abbrev cX5_copyFrom : ByteArray := prog_7_method_5_code
def yX5_copyFrom : MethodName := ⟨RX5, "copyFrom", "(LSofaStair$Thing;)V"⟩
abbrev cX5_stand : ByteArray := prog_7_method_6_code
def yX5_stand : MethodName := ⟨RX5, "stand", "()I"⟩
abbrev cX5_groupOf : ByteArray := prog_7_method_7_code
def yX5_groupOf : MethodName := ⟨RX5, "groupOf", "(I)I"⟩
abbrev cX5_along : ByteArray := prog_7_method_8_code
def yX5_along : MethodName := ⟨RX5, "along", "(LSofaStair$Turns;III)I"⟩
abbrev cX5_partsSet : ByteArray := prog_7_method_9_code
def yX5_partsSet : MethodName := ⟨RX5, "partsSet", "()I"⟩
abbrev cX5_cubesOn : ByteArray := prog_7_method_10_code
def yX5_cubesOn : MethodName := ⟨RX5, "cubesOn", "(I)I"⟩
def RX6 : String := "SofaStair$Turns"
def TX6 : u_T := fun k => match k with
  | 0 => ("SofaStair$Turns", "axes", "[I", true)
  | _ => ("SofaStair$Turns", "next", "[I", true)
def tyX6 : Nat → FieldType := fun k => match k with
  | 0 => .array .int
  | _ => .array .int
abbrev wsX60 : List Cond := u_ws RX6 TX6 2
theorem nmX6 : ∀ a, a < 2 → ∀ b, b < 2 → a ≠ b → (TX6 a).2.1 ≠ (TX6 b).2.1 := by decide +kernel
theorem tyX6_ok : ∀ k, k < 2 → parseFieldDescriptor (TX6 k).2.2.1 = some (tyX6 k) := by decide +kernel
abbrev cX6_init : ByteArray := prog_8_method_1_code
def yX6_init : MethodName := ⟨RX6, "<init>", "()V"⟩
abbrev cX6_after : ByteArray := prog_8_method_2_code
def yX6_after : MethodName := ⟨RX6, "after", "(II)I"⟩
abbrev cX6_axisAt : ByteArray := prog_8_method_3_code
def yX6_axisAt : MethodName := ⟨RX6, "axisAt", "(II)I"⟩
abbrev cX6_find : ByteArray := prog_8_method_4_code
def yX6_find : MethodName := ⟨RX6, "find", "(IIII)I"⟩
abbrev cX6_turnedAxis : ByteArray := prog_8_method_5_code
def yX6_turnedAxis : MethodName := ⟨RX6, "turnedAxis", "(III)I"⟩
def RX7 : String := "SofaStair$Way"
def TX7 : u_T := fun k => match k with
  | 0 => ("SofaStair$Way", "sizeX", "I", false)
  | 1 => ("SofaStair$Way", "sizeY", "I", false)
  | 2 => ("SofaStair$Way", "sizeZ", "I", false)
  | 3 => ("SofaStair$Way", "kinds", "[I", true)
  | _ => ("SofaStair$Way", "beside", "[I", true)
def tyX7 : Nat → FieldType := fun k => match k with
  | 0 => .int
  | 1 => .int
  | 2 => .int
  | 3 => .array .int
  | _ => .array .int
abbrev wsX70 : List Cond := u_ws RX7 TX7 5
theorem nmX7 : ∀ a, a < 5 → ∀ b, b < 5 → a ≠ b → (TX7 a).2.1 ≠ (TX7 b).2.1 := by decide +kernel
theorem tyX7_ok : ∀ k, k < 5 → parseFieldDescriptor (TX7 k).2.2.1 = some (tyX7 k) := by decide +kernel
abbrev cX7_init : ByteArray := prog_9_method_1_code
def yX7_init : MethodName := ⟨RX7, "<init>", "()V"⟩
abbrev cX7_resize : ByteArray := prog_9_method_2_code
def yX7_resize : MethodName := ⟨RX7, "resize", "(III)V"⟩
abbrev cX7_copyFrom : ByteArray := prog_9_method_3_code
def yX7_copyFrom : MethodName := ⟨RX7, "copyFrom", "(LSofaStair$Way;)V"⟩
abbrev cX7_measure : ByteArray := prog_9_method_4_code
def yX7_measure : MethodName := ⟨RX7, "measure", "(III)V"⟩
abbrev cX7_placeAt : ByteArray := prog_9_method_5_code
def yX7_placeAt : MethodName := ⟨RX7, "placeAt", "(III)I"⟩
abbrev cX7_placeOf : ByteArray := prog_9_method_6_code
def yX7_placeOf : MethodName := ⟨RX7, "placeOf", "(I)I"⟩
abbrev cX7_isCell : ByteArray := prog_9_method_7_code
def yX7_isCell : MethodName := ⟨RX7, "isCell", "(I)Z"⟩
abbrev cX7_placeBeside : ByteArray := prog_9_method_8_code
def yX7_placeBeside : MethodName := ⟨RX7, "placeBeside", "(II)I"⟩
abbrev cX7_kindAt : ByteArray := prog_9_method_9_code
def yX7_kindAt : MethodName := ⟨RX7, "kindAt", "(I)I"⟩
abbrev cX7_paint : ByteArray := prog_9_method_10_code
def yX7_paint : MethodName := ⟨RX7, "paint", "(III)I"⟩
abbrev cX7_doorsSet : ByteArray := prog_9_method_11_code
def yX7_doorsSet : MethodName := ⟨RX7, "doorsSet", "()I"⟩
abbrev cX7_sizeAlong : ByteArray := prog_9_method_12_code
def yX7_sizeAlong : MethodName := ⟨RX7, "sizeAlong", "(I)I"⟩
def RX8 : String := "SofaStair"
def TX8 : u_T := fun k => match k with
  | 0 => ("SofaStair", "pad", "LSofaStair$Pad;", true)
  | 1 => ("SofaStair", "now", "LSofaStair$Stair;", true)
  | 2 => ("SofaStair", "images", "[LSofaStair$Stair;", true)
  | 3 => ("SofaStair", "turns", "LSofaStair$Turns;", true)
  | 4 => ("SofaStair", "search", "LSofaStair$Search;", true)
  | 5 => ("SofaStair", "cheapest", "LSofaStair$Cheapest;", true)
  | 6 => ("SofaStair", "answer", "LSofaStair$Answer;", true)
  | 7 => ("SofaStair", "rod", "LSofaStair$Thing;", true)
  | _ => ("SofaStair", "setCosts", "[I", true)
def tyX8 : Nat → FieldType := fun k => match k with
  | 0 => .object "SofaStair$Pad"
  | 1 => .object "SofaStair$Stair"
  | 2 => .array (.object "SofaStair$Stair")
  | 3 => .object "SofaStair$Turns"
  | 4 => .object "SofaStair$Search"
  | 5 => .object "SofaStair$Cheapest"
  | 6 => .object "SofaStair$Answer"
  | 7 => .object "SofaStair$Thing"
  | _ => .array .int
abbrev wsX80 : List Cond := u_ws RX8 TX8 9
theorem nmX8 : ∀ a, a < 9 → ∀ b, b < 9 → a ≠ b → (TX8 a).2.1 ≠ (TX8 b).2.1 := by decide +kernel
theorem tyX8_ok : ∀ k, k < 9 → parseFieldDescriptor (TX8 k).2.2.1 = some (tyX8 k) := by decide +kernel
abbrev cX8_init : ByteArray := prog_1_method_1_code
def yX8_init : MethodName := ⟨RX8, "<init>", "()V"⟩
abbrev cX8_size : ByteArray := prog_1_method_2_code
def yX8_size : MethodName := ⟨RX8, "size", "(III)I"⟩
abbrev cX8_fill : ByteArray := prog_1_method_3_code
def yX8_fill : MethodName := ⟨RX8, "fill", "(III)I"⟩
abbrev cX8_cell : ByteArray := prog_1_method_4_code
def yX8_cell : MethodName := ⟨RX8, "cell", "(I)I"⟩
abbrev cX8_say : ByteArray := prog_1_method_5_code
def yX8_say : MethodName := ⟨RX8, "say", "(I)I"⟩
abbrev cX8_wipe : ByteArray := prog_1_method_6_code
def yX8_wipe : MethodName := ⟨RX8, "wipe", "()I"⟩
abbrev cX8_fault : ByteArray := prog_1_method_7_code
def yX8_fault : MethodName := ⟨RX8, "fault", "(I)I"⟩
abbrev cX8_thing : ByteArray := prog_1_method_8_code
def yX8_thing : MethodName := ⟨RX8, "thing", "(I)I"⟩
abbrev cX8_cube : ByteArray := prog_1_method_9_code
def yX8_cube : MethodName := ⟨RX8, "cube", "(III)I"⟩
abbrev cX8_cost : ByteArray := prog_1_method_10_code
def yX8_cost : MethodName := ⟨RX8, "cost", "(III)I"⟩
abbrev cX8_lay : ByteArray := prog_1_method_11_code
def yX8_lay : MethodName := ⟨RX8, "lay", "(II)I"⟩
abbrev cX8_goal : ByteArray := prog_1_method_12_code
def yX8_goal : MethodName := ⟨RX8, "goal", "(II)I"⟩
abbrev cX8_judge : ByteArray := prog_1_method_13_code
def yX8_judge : MethodName := ⟨RX8, "judge", "(II)I"⟩
abbrev cX8_move : ByteArray := prog_1_method_14_code
def yX8_move : MethodName := ⟨RX8, "move", "(I)I"⟩
abbrev cX8_goes : ByteArray := prog_1_method_15_code
def yX8_goes : MethodName := ⟨RX8, "goes", "(IIII)I"⟩
abbrev cX8_effort : ByteArray := prog_1_method_16_code
def yX8_effort : MethodName := ⟨RX8, "effort", "(IIII)I"⟩
abbrev cX8_room : ByteArray := prog_1_method_17_code
def yX8_room : MethodName := ⟨RX8, "room", "(II)I"⟩
abbrev cX8_least : ByteArray := prog_1_method_18_code
def yX8_least : MethodName := ⟨RX8, "least", "(II)I"⟩
abbrev cX8_bar : ByteArray := prog_1_method_19_code
def yX8_bar : MethodName := ⟨RX8, "bar", "(I)I"⟩
abbrev cX8_order : ByteArray := prog_1_method_20_code
def yX8_order : MethodName := ⟨RX8, "order", "(II)I"⟩
abbrev cX8_came : ByteArray := prog_1_method_21_code
def yX8_came : MethodName := ⟨RX8, "came", "(II)I"⟩
abbrev cX8_image : ByteArray := prog_1_method_22_code
def yX8_image : MethodName := ⟨RX8, "image", "(I)I"⟩
abbrev cX8_restore : ByteArray := prog_1_method_23_code
def yX8_restore : MethodName := ⟨RX8, "restore", "(I)I"⟩
abbrev cX8_told : ByteArray := prog_1_method_24_code
def yX8_told : MethodName := ⟨RX8, "told", "(I)I"⟩
abbrev cX8_turnedByPad : ByteArray := prog_1_method_25_code
def yX8_turnedByPad : MethodName := ⟨RX8, "turnedByPad", "()I"⟩
abbrev cX8_judged : ByteArray := prog_1_method_26_code
def yX8_judged : MethodName := ⟨RX8, "judged", "(LSofaStair$Thing;I)I"⟩
abbrev cX8_rowAnswer : ByteArray := prog_1_method_27_code
def yX8_rowAnswer : MethodName := ⟨RX8, "rowAnswer", "(IIIII)I"⟩
abbrev cX8_findGoes : ByteArray := prog_1_method_28_code
def yX8_findGoes : MethodName := ⟨RX8, "findGoes", "(LSofaStair$Thing;)V"⟩
abbrev cX8_scrapes : ByteArray := prog_1_method_29_code
def yX8_scrapes : MethodName := ⟨RX8, "scrapes", "(LSofaStair$Thing;)I"⟩
abbrev cX8_scrapesAt : ByteArray := prog_1_method_30_code
def yX8_scrapesAt : MethodName := ⟨RX8, "scrapesAt", "(LSofaStair$Thing;III)I"⟩
abbrev cX8_turnable : ByteArray := prog_1_method_31_code
def yX8_turnable : MethodName := ⟨RX8, "turnable", "(LSofaStair$Thing;)I"⟩
abbrev cX8_fitsAllRound : ByteArray := prog_1_method_32_code
def yX8_fitsAllRound : MethodName := ⟨RX8, "fitsAllRound", "(II)Z"⟩
abbrev cX8_goesWith : ByteArray := prog_1_method_33_code
def yX8_goesWith : MethodName := ⟨RX8, "goesWith", "(LSofaStair$Thing;I)Z"⟩
abbrev cX8_findLeast : ByteArray := prog_1_method_34_code
def yX8_findLeast : MethodName := ⟨RX8, "findLeast", "(LSofaStair$Thing;)V"⟩
abbrev cX8_neededOf : ByteArray := prog_1_method_35_code
def yX8_neededOf : MethodName := ⟨RX8, "neededOf", "(LSofaStair$Thing;I)I"⟩
abbrev cX8_sumSetCosts : ByteArray := prog_1_method_36_code
def yX8_sumSetCosts : MethodName := ⟨RX8, "sumSetCosts", "(LSofaStair$Thing;)V"⟩
abbrev cX8_findCame : ByteArray := prog_1_method_37_code
def yX8_findCame : MethodName := ⟨RX8, "findCame", "(LSofaStair$Thing;)V"⟩
abbrev cX8_goesByLess : ByteArray := prog_1_method_38_code
def yX8_goesByLess : MethodName := ⟨RX8, "goesByLess", "(II)Z"⟩
abbrev cX8_findBar : ByteArray := prog_1_method_39_code
def yX8_findBar : MethodName := ⟨RX8, "findBar", "(LSofaStair$Thing;I)V"⟩
abbrev cX8_barGoes : ByteArray := prog_1_method_40_code
def yX8_barGoes : MethodName := ⟨RX8, "barGoes", "(LSofaStair$Thing;II)Z"⟩
abbrev cX8_findOrder : ByteArray := prog_1_method_41_code
def yX8_findOrder : MethodName := ⟨RX8, "findOrder", "(I)V"⟩
abbrev cX8_firstToGo : ByteArray := prog_1_method_42_code
def yX8_firstToGo : MethodName := ⟨RX8, "firstToGo", "(I)I"⟩
abbrev cX8_goesAmong : ByteArray := prog_1_method_43_code
def yX8_goesAmong : MethodName := ⟨RX8, "goesAmong", "(II)Z"⟩
abbrev cX8_imageAt : ByteArray := prog_1_method_44_code
def yX8_imageAt : MethodName := ⟨RX8, "imageAt", "(I)LSofaStair$Stair;"⟩
abbrev cX8_forgetWay : ByteArray := prog_1_method_45_code
def yX8_forgetWay : MethodName := ⟨RX8, "forgetWay", "()V"⟩
abbrev cX8_refusalOf : ByteArray := prog_1_method_46_code
def yX8_refusalOf : MethodName := ⟨RX8, "refusalOf", "(LSofaStair$Thing;Z)I"⟩
abbrev cX8_isUpTo : ByteArray := prog_1_method_47_code
def yX8_isUpTo : MethodName := ⟨RX8, "isUpTo", "(II)Z"⟩
abbrev cX8_isSet : ByteArray := prog_1_method_48_code
def yX8_isSet : MethodName := ⟨RX8, "isSet", "(I)Z"⟩
abbrev cX8_has : ByteArray := prog_1_method_49_code
def yX8_has : MethodName := ⟨RX8, "has", "(II)Z"⟩
abbrev cX8_read : ByteArray := prog_1_method_50_code
def yX8_read : MethodName := ⟨RX8, "read", "([II)I"⟩
abbrev cX8_write : ByteArray := prog_1_method_51_code
def yX8_write : MethodName := ⟨RX8, "write", "([III)V"⟩
abbrev cX8_copy : ByteArray := prog_1_method_52_code
def yX8_copy : MethodName := ⟨RX8, "copy", "([I[I)V"⟩
abbrev cX8_xOf : ByteArray := prog_1_method_53_code
def yX8_xOf : MethodName := ⟨RX8, "xOf", "(I)I"⟩
abbrev cX8_yOf : ByteArray := prog_1_method_54_code
def yX8_yOf : MethodName := ⟨RX8, "yOf", "(I)I"⟩
abbrev cX8_zOf : ByteArray := prog_1_method_55_code
def yX8_zOf : MethodName := ⟨RX8, "zOf", "(I)I"⟩
abbrev cX8_cellOf : ByteArray := prog_1_method_56_code
def yX8_cellOf : MethodName := ⟨RX8, "cellOf", "(I)I"⟩
def RX9 : String := "SofaStairModel"
def TX9 : u_T := fun k => match k with
  | 0 => ("SofaStairModel", "table", "[I", true)
  | 1 => ("SofaStairModel", "turned", "[I", true)
  | 2 => ("SofaStairModel", "made", "[I", true)
  | 3 => ("SofaStairModel", "sizeX", "I", false)
  | 4 => ("SofaStairModel", "sizeY", "I", false)
  | 5 => ("SofaStairModel", "sizeZ", "I", false)
  | 6 => ("SofaStairModel", "kind", "[I", true)
  | 7 => ("SofaStairModel", "cubes", "[I", true)
  | 8 => ("SofaStairModel", "cubeX", "[I", true)
  | 9 => ("SofaStairModel", "cubeY", "[I", true)
  | 10 => ("SofaStairModel", "cubeZ", "[I", true)
  | 11 => ("SofaStairModel", "partOf", "[I", true)
  | 12 => ("SofaStairModel", "partCost", "[I", true)
  | 13 => ("SofaStairModel", "doorCost", "[I", true)
  | 14 => ("SofaStairModel", "moveCost", "[I", true)
  | 15 => ("SofaStairModel", "lies", "[I", true)
  | 16 => ("SofaStairModel", "wayOf", "[I", true)
  | 17 => ("SofaStairModel", "goals", "[I", true)
  | 18 => ("SofaStairModel", "pad", "[I", true)
  | 19 => ("SofaStairModel", "padMany", "I", false)
  | 20 => ("SofaStairModel", "nowX", "[I", true)
  | 21 => ("SofaStairModel", "nowY", "[I", true)
  | 22 => ("SofaStairModel", "nowZ", "[I", true)
  | 23 => ("SofaStairModel", "partsOff", "I", false)
  | 24 => ("SofaStairModel", "doorsOff", "I", false)
  | 25 => ("SofaStairModel", "isFilled", "[Z", true)
  | 26 => ("SofaStairModel", "rowX", "I", false)
  | 27 => ("SofaStairModel", "rowY", "I", false)
  | 28 => ("SofaStairModel", "rowZ", "I", false)
  | 29 => ("SofaStairModel", "rowWay", "I", false)
  | 30 => ("SofaStairModel", "badMove", "I", false)
  | 31 => ("SofaStairModel", "badWhy", "I", false)
  | 32 => ("SofaStairModel", "fits", "[Z", true)
  | 33 => ("SofaStairModel", "off", "[J", true)
  | 34 => ("SofaStairModel", "queue", "[I", true)
  | 35 => ("SofaStairModel", "waits", "[Z", true)
  | 36 => ("SofaStairModel", "lifted", "I", false)
  | 37 => ("SofaStairModel", "byEffort", "Z", false)
  | 38 => ("SofaStairModel", "order", "[I", true)
  | 39 => ("SofaStairModel", "kept", "[I", true)
  | 40 => ("SofaStairModel", "isKept", "[Z", true)
  | 41 => ("SofaStairModel", "keptAt", "I", false)
  | _ => ("SofaStairModel", "isWriting", "Z", false)
def tyX9 : Nat → FieldType := fun k => match k with
  | 0 => .array .int
  | 1 => .array .int
  | 2 => .array .int
  | 3 => .int
  | 4 => .int
  | 5 => .int
  | 6 => .array .int
  | 7 => .array .int
  | 8 => .array .int
  | 9 => .array .int
  | 10 => .array .int
  | 11 => .array .int
  | 12 => .array .int
  | 13 => .array .int
  | 14 => .array .int
  | 15 => .array .int
  | 16 => .array .int
  | 17 => .array .int
  | 18 => .array .int
  | 19 => .int
  | 20 => .array .int
  | 21 => .array .int
  | 22 => .array .int
  | 23 => .int
  | 24 => .int
  | 25 => .array .boolean
  | 26 => .int
  | 27 => .int
  | 28 => .int
  | 29 => .int
  | 30 => .int
  | 31 => .int
  | 32 => .array .boolean
  | 33 => .array .long
  | 34 => .array .int
  | 35 => .array .boolean
  | 36 => .int
  | 37 => .boolean
  | 38 => .array .int
  | 39 => .array .int
  | 40 => .array .boolean
  | 41 => .int
  | _ => .boolean
abbrev wsX90 : List Cond := u_ws RX9 TX9 43
theorem nmX9 : ∀ a, a < 43 → ∀ b, b < 43 → a ≠ b → (TX9 a).2.1 ≠ (TX9 b).2.1 := by decide +kernel
theorem tyX9_ok : ∀ k, k < 43 → parseFieldDescriptor (TX9 k).2.2.1 = some (tyX9 k) := by decide +kernel
abbrev cX9_init : ByteArray := prog_11_method_1_code
def yX9_init : MethodName := ⟨RX9, "<init>", "()V"⟩
abbrev cX9_in : ByteArray := prog_11_method_3_code
def yX9_in : MethodName := ⟨RX9, "in", "(JJJ)Z"⟩
abbrev cX9_isThing : ByteArray := prog_11_method_4_code
def yX9_isThing : MethodName := ⟨RX9, "isThing", "(I)Z"⟩
abbrev cX9_turn : ByteArray := prog_11_method_5_code
def yX9_turn : MethodName := ⟨RX9, "turn", "(II)V"⟩
abbrev cX9_tableOf : ByteArray := prog_11_method_6_code
def yX9_tableOf : MethodName := ⟨RX9, "tableOf", "(I)I"⟩
abbrev cX9_findTables : ByteArray := prog_11_method_7_code
def yX9_findTables : MethodName := ⟨RX9, "findTables", "()V"⟩
abbrev cX9_isCell : ByteArray := prog_11_method_8_code
def yX9_isCell : MethodName := ⟨RX9, "isCell", "(III)Z"⟩
abbrev cX9_isCellNumber : ByteArray := prog_11_method_9_code
def yX9_isCellNumber : MethodName := ⟨RX9, "isCellNumber", "(I)Z"⟩
abbrev cX9_at : ByteArray := prog_11_method_10_code
def yX9_at : MethodName := ⟨RX9, "at", "(III)I"⟩
abbrev cX9_placeOf : ByteArray := prog_11_method_11_code
def yX9_placeOf : MethodName := ⟨RX9, "placeOf", "(I)I"⟩
abbrev cX9_numberOf : ByteArray := prog_11_method_12_code
def yX9_numberOf : MethodName := ⟨RX9, "numberOf", "(I)I"⟩
abbrev cX9_size : ByteArray := prog_11_method_13_code
def yX9_size : MethodName := ⟨RX9, "size", "(III)I"⟩
abbrev cX9_fill : ByteArray := prog_11_method_14_code
def yX9_fill : MethodName := ⟨RX9, "fill", "(III)I"⟩
abbrev cX9_cell : ByteArray := prog_11_method_15_code
def yX9_cell : MethodName := ⟨RX9, "cell", "(I)I"⟩
abbrev cX9_say : ByteArray := prog_11_method_16_code
def yX9_say : MethodName := ⟨RX9, "say", "(I)I"⟩
abbrev cX9_wipe : ByteArray := prog_11_method_17_code
def yX9_wipe : MethodName := ⟨RX9, "wipe", "()I"⟩
abbrev cX9_wasTold : ByteArray := prog_11_method_18_code
def yX9_wasTold : MethodName := ⟨RX9, "wasTold", "(I)Z"⟩
abbrev cX9_faultOfThing : ByteArray := prog_11_method_19_code
def yX9_faultOfThing : MethodName := ⟨RX9, "faultOfThing", "()I"⟩
abbrev cX9_moveOf : ByteArray := prog_11_method_20_code
def yX9_moveOf : MethodName := ⟨RX9, "moveOf", "(I)I"⟩
abbrev cX9_signOf : ByteArray := prog_11_method_21_code
def yX9_signOf : MethodName := ⟨RX9, "signOf", "(I)I"⟩
abbrev cX9_faultOfRow : ByteArray := prog_11_method_22_code
def yX9_faultOfRow : MethodName := ⟨RX9, "faultOfRow", "()I"⟩
abbrev cX9_fault : ByteArray := prog_11_method_23_code
def yX9_fault : MethodName := ⟨RX9, "fault", "(I)I"⟩
abbrev cX9_thing : ByteArray := prog_11_method_24_code
def yX9_thing : MethodName := ⟨RX9, "thing", "(I)I"⟩
abbrev cX9_row : ByteArray := prog_11_method_25_code
def yX9_row : MethodName := ⟨RX9, "row", "(III)I"⟩
abbrev cX9_layCubes : ByteArray := prog_11_method_26_code
def yX9_layCubes : MethodName := ⟨RX9, "layCubes", "(II)V"⟩
abbrev cX9_cube : ByteArray := prog_11_method_27_code
def yX9_cube : MethodName := ⟨RX9, "cube", "(III)I"⟩
abbrev cX9_cost : ByteArray := prog_11_method_28_code
def yX9_cost : MethodName := ⟨RX9, "cost", "(III)I"⟩
abbrev cX9_takeOff : ByteArray := prog_11_method_29_code
def yX9_takeOff : MethodName := ⟨RX9, "takeOff", "(II)V"⟩
abbrev cX9_isOn : ByteArray := prog_11_method_30_code
def yX9_isOn : MethodName := ⟨RX9, "isOn", "(II)Z"⟩
abbrev cX9_isOpen : ByteArray := prog_11_method_31_code
def yX9_isOpen : MethodName := ⟨RX9, "isOpen", "(I)Z"⟩
abbrev cX9_whyNot : ByteArray := prog_11_method_32_code
def yX9_whyNot : MethodName := ⟨RX9, "whyNot", "(IIII)I"⟩
abbrev cX9_whyAt : ByteArray := prog_11_method_33_code
def yX9_whyAt : MethodName := ⟨RX9, "whyAt", "(IIIII)I"⟩
abbrev cX9_rowFault : ByteArray := prog_11_method_34_code
def yX9_rowFault : MethodName := ⟨RX9, "rowFault", "(Z)I"⟩
abbrev cX9_lay : ByteArray := prog_11_method_35_code
def yX9_lay : MethodName := ⟨RX9, "lay", "(II)I"⟩
abbrev cX9_goal : ByteArray := prog_11_method_36_code
def yX9_goal : MethodName := ⟨RX9, "goal", "(II)I"⟩
abbrev cX9_step : ByteArray := prog_11_method_37_code
def yX9_step : MethodName := ⟨RX9, "step", "(I)V"⟩
abbrev cX9_goRow : ByteArray := prog_11_method_38_code
def yX9_goRow : MethodName := ⟨RX9, "goRow", "(I)Z"⟩
abbrev cX9_judge : ByteArray := prog_11_method_39_code
def yX9_judge : MethodName := ⟨RX9, "judge", "(II)I"⟩
abbrev cX9_move : ByteArray := prog_11_method_40_code
def yX9_move : MethodName := ⟨RX9, "move", "(I)I"⟩
abbrev cX9_findFits : ByteArray := prog_11_method_41_code
def yX9_findFits : MethodName := ⟨RX9, "findFits", "(I)V"⟩
abbrev cX9_next : ByteArray := prog_11_method_42_code
def yX9_next : MethodName := ⟨RX9, "next", "(II)I"⟩
abbrev cX9_undo : ByteArray := prog_11_method_43_code
def yX9_undo : MethodName := ⟨RX9, "undo", "(I)I"⟩
abbrev cX9_cubesOn : ByteArray := prog_11_method_44_code
def yX9_cubesOn : MethodName := ⟨RX9, "cubesOn", "(I)I"⟩
abbrev cX9_costOf : ByteArray := prog_11_method_45_code
def yX9_costOf : MethodName := ⟨RX9, "costOf", "(I)J"⟩
abbrev cX9_findOff : ByteArray := prog_11_method_46_code
def yX9_findOff : MethodName := ⟨RX9, "findOff", "(II)V"⟩
abbrev cX9_standOf : ByteArray := prog_11_method_47_code
def yX9_standOf : MethodName := ⟨RX9, "standOf", "(I)I"⟩
abbrev cX9_bestMove : ByteArray := prog_11_method_48_code
def yX9_bestMove : MethodName := ⟨RX9, "bestMove", "(I)I"⟩
abbrev cX9_moveAt : ByteArray := prog_11_method_49_code
def yX9_moveAt : MethodName := ⟨RX9, "moveAt", "(II)I"⟩
abbrev cX9_isSet : ByteArray := prog_11_method_50_code
def yX9_isSet : MethodName := ⟨RX9, "isSet", "(I)Z"⟩
abbrev cX9_goes : ByteArray := prog_11_method_51_code
def yX9_goes : MethodName := ⟨RX9, "goes", "(IIII)I"⟩
abbrev cX9_effort : ByteArray := prog_11_method_52_code
def yX9_effort : MethodName := ⟨RX9, "effort", "(IIII)I"⟩
abbrev cX9_comesTo : ByteArray := prog_11_method_53_code
def yX9_comesTo : MethodName := ⟨RX9, "comesTo", "(I)I"⟩
abbrev cX9_against : ByteArray := prog_11_method_54_code
def yX9_against : MethodName := ⟨RX9, "against", "(III)I"⟩
abbrev cX9_isOwn : ByteArray := prog_11_method_55_code
def yX9_isOwn : MethodName := ⟨RX9, "isOwn", "(IIII)Z"⟩
abbrev cX9_scrapes : ByteArray := prog_11_method_56_code
def yX9_scrapes : MethodName := ⟨RX9, "scrapes", "(I)I"⟩
abbrev cX9_turnable : ByteArray := prog_11_method_57_code
def yX9_turnable : MethodName := ⟨RX9, "turnable", "(I)I"⟩
abbrev cX9_room : ByteArray := prog_11_method_58_code
def yX9_room : MethodName := ⟨RX9, "room", "(II)I"⟩
abbrev cX9_doesGo : ByteArray := prog_11_method_59_code
def yX9_doesGo : MethodName := ⟨RX9, "doesGo", "(III)Z"⟩
abbrev cX9_costOff : ByteArray := prog_11_method_60_code
def yX9_costOff : MethodName := ⟨RX9, "costOff", "(III)I"⟩
abbrev cX9_least : ByteArray := prog_11_method_61_code
def yX9_least : MethodName := ⟨RX9, "least", "(II)I"⟩
abbrev cX9_layBar : ByteArray := prog_11_method_62_code
def yX9_layBar : MethodName := ⟨RX9, "layBar", "(II)V"⟩
abbrev cX9_fitsBar : ByteArray := prog_11_method_63_code
def yX9_fitsBar : MethodName := ⟨RX9, "fitsBar", "(II)Z"⟩
abbrev cX9_bar : ByteArray := prog_11_method_64_code
def yX9_bar : MethodName := ⟨RX9, "bar", "(I)I"⟩
abbrev cX9_goesAmong : ByteArray := prog_11_method_65_code
def yX9_goesAmong : MethodName := ⟨RX9, "goesAmong", "(II)Z"⟩
abbrev cX9_findOrder : ByteArray := prog_11_method_66_code
def yX9_findOrder : MethodName := ⟨RX9, "findOrder", "(I)I"⟩
abbrev cX9_order : ByteArray := prog_11_method_67_code
def yX9_order : MethodName := ⟨RX9, "order", "(II)I"⟩
abbrev cX9_came : ByteArray := prog_11_method_68_code
def yX9_came : MethodName := ⟨RX9, "came", "(II)I"⟩
abbrev cX9_pass : ByteArray := prog_11_method_69_code
def yX9_pass : MethodName := ⟨RX9, "pass", "(I)I"⟩
abbrev cX9_passAll : ByteArray := prog_11_method_70_code
def yX9_passAll : MethodName := ⟨RX9, "passAll", "()V"⟩
abbrev cX9_image : ByteArray := prog_11_method_71_code
def yX9_image : MethodName := ⟨RX9, "image", "(I)I"⟩
abbrev cX9_restore : ByteArray := prog_11_method_72_code
def yX9_restore : MethodName := ⟨RX9, "restore", "(I)I"⟩
abbrev cX9_told : ByteArray := prog_11_method_73_code
def yX9_told : MethodName := ⟨RX9, "told", "(I)I"⟩
def RJ9 : String := "java/lang/Math"
def TJ9 : u_T := fun k => match k with
  | _ => ("", "", "", false)
def tyJ9 : Nat → FieldType := fun k => match k with
  | _ => .int
theorem nmJ9 : ∀ a, a < 0 → ∀ b, b < 0 → a ≠ b → (TJ9 a).2.1 ≠ (TJ9 b).2.1 := by decide +kernel
theorem tyJ9_ok : ∀ k, k < 0 → parseFieldDescriptor (TJ9 k).2.2.1 = some (tyJ9 k) := by decide +kernel
abbrev cJ9_abs_0f7a4 : ByteArray := prog_13_method_59_code
def yJ9_abs_0f7a4 : MethodName := ⟨RJ9, "abs", "(I)I"⟩
abbrev cJ9_max_7cf53 : ByteArray := prog_13_method_65_code
def yJ9_max_7cf53 : MethodName := ⟨RJ9, "max", "(II)I"⟩
abbrev cJ9_min_7cf53 : ByteArray := prog_13_method_69_code
def yJ9_min_7cf53 : MethodName := ⟨RJ9, "min", "(II)I"⟩
def RJ0 : String := "java/lang/String"
def TJ0 : u_T := fun k => match k with
  | _ => ("", "", "", false)
def tyJ0 : Nat → FieldType := fun k => match k with
  | _ => .int
theorem nmJ0 : ∀ a, a < 0 → ∀ b, b < 0 → a ≠ b → (TJ0 a).2.1 ≠ (TJ0 b).2.1 := by decide +kernel
theorem tyJ0_ok : ∀ k, k < 0 → parseFieldDescriptor (TJ0 k).2.2.1 = some (tyJ0 k) := by decide +kernel
abbrev cJ0_length_8abf5 : ByteArray := prog_14_method_54_code
def yJ0_length_8abf5 : MethodName := ⟨RJ0, "length", "()I"⟩
abbrev cJ0_charAt_5068e : ByteArray := prog_14_method_56_code
def yJ0_charAt_5068e : MethodName := ⟨RJ0, "charAt", "(I)C"⟩
abbrev cJ0_indexOf_0f7a4 : ByteArray := prog_14_method_79_code
def yJ0_indexOf_0f7a4 : MethodName := ⟨RJ0, "indexOf", "(I)I"⟩
abbrev cJ0_indexOf_7cf53 : ByteArray := prog_14_method_80_code
def yJ0_indexOf_7cf53 : MethodName := ⟨RJ0, "indexOf", "(II)I"⟩
def RJ7 : String := "java/util/Arrays"
def TJ7 : u_T := fun k => match k with
  | _ => ("", "", "", false)
def tyJ7 : Nat → FieldType := fun k => match k with
  | _ => .int
theorem nmJ7 : ∀ a, a < 0 → ∀ b, b < 0 → a ≠ b → (TJ7 a).2.1 ≠ (TJ7 b).2.1 := by decide +kernel
theorem tyJ7_ok : ∀ k, k < 0 → parseFieldDescriptor (TJ7 k).2.2.1 = some (tyJ7 k) := by decide +kernel
abbrev cJ7_fill_53178 : ByteArray := prog_17_method_103_code
def yJ7_fill_53178 : MethodName := ⟨RJ7, "fill", "([II)V"⟩
def RL : String := "SofaStairLaw"
abbrev cL_law : ByteArray := code
def yL_law : MethodName := ⟨RL, "law", "([I)Z"⟩
abbrev vwCl : List vw_C := [(RX0, TX0, 4), (RX1, TX1, 6), (RX2, TX2, 2), (RX3, TX3, 11), (RX4, TX4, 5), (RX5, TX5, 8), (RX6, TX6, 2), (RX7, TX7, 5), (RX8, TX8, 9), (RX9, TX9, 43)]

/-- the words that stay good behind a call -/
def xw : List Cond := lw_tbl.filter goodWord
theorem xw_in {i : Nat} {w : Cond} (h : lw_tbl[i]? = some w) (g : goodWord w = true) : w ∈ xw := List.mem_filter.mpr ⟨List.mem_of_getElem? h, g⟩
theorem xw_sub : ∀ w ∈ xw, w ∈ lw_tbl := fun w h => (List.mem_filter.mp h).1
theorem xw_good : GoodIn xw xw := fun w h => ⟨h, good_of_word (List.mem_filter.mp h).2⟩
end
section
/-! kinds of cells: 0 to 9 the objects of vwCl, from 10 on arrays (50 and on: those of the reference) -/
abbrev xa_V : Type := Int ⊕ (Int ⊕ Option (Nat × Nat))
abbrev xa_H : Type := Nat → Nat → Nat → Int
abbrev xa_L : Type := List (Nat × xa_V)
abbrev xa_I : Type := Instr × Nat × Nat × Nat × Nat
abbrev xP (pc : Nat) (i : Instr) (n : Nat) : Nat × xa_I := (pc, i, n, 0, 0, 0)
abbrev xQ (pc : Nat) (i : Instr) (n x y z : Nat) : Nat × xa_I := (pc, i, n, x, y, z)
/-- what an array holds: 0 int, 1 boolean, 2 long, 5 Thing, 6 Stair; 9: it is no array -/
noncomputable def xaty (K : Nat) : Nat := ([9, 9, 9, 9, 9, 9, 9, 9, 9, 9, 6, 0, 0, 0, 0, 0, 0, 0, 0, 0, 0, 0, 0, 0, 5, 0, 0, 0, 0, 0, 0, 0, 0, 0, 0, 9, 9, 9, 9, 9, 9, 9, 9, 9, 9, 9, 9, 9, 9, 9, 0, 0, 0, 0, 0, 0, 0, 0, 0, 0, 0, 0, 0, 0, 0, 0, 0, 0, 0, 1, 1, 2, 0, 1, 0, 0, 1] : List Nat).getD K 9
noncomputable def xalen (K : Nat) : Nat := ([0, 0, 0, 0, 0, 0, 0, 0, 0, 0, 2, 256, 3456, 12, 3456, 3456, 3456, 60, 1089, 144, 240, 3456, 3456, 3456, 4, 4, 4, 30, 10, 3, 4, 72, 144, 144, 864, 0, 0, 0, 0, 0, 0, 0, 0, 0, 0, 0, 0, 0, 0, 0, 216, 144, 9, 144, 5, 50, 50, 50, 50, 16, 4, 4, 5, 5, 5, 60, 10, 10, 10, 144, 3456, 3456, 3456, 3456, 4, 840, 2] : List Nat).getD K 0
noncomputable def xcnt (K : Nat) : Nat := ([1, 1, 1, 1, 3, 13, 1, 3, 1, 1, 1, 1, 1, 1, 1, 1, 1, 1, 1, 1, 1, 1, 1, 1, 3, 3, 3, 13, 13, 13, 13, 1, 1, 3, 3, 0, 0, 0, 0, 0, 0, 0, 0, 0, 0, 0, 0, 0, 0, 0, 1, 1, 1, 1, 1, 1, 1, 1, 1, 1, 1, 1, 1, 1, 1, 1, 1, 1, 1, 1, 1, 1, 1, 1, 1, 1, 1] : List Nat).getD K 0
noncomputable def xftl (K : Nat) : List Nat := ([[3, 0, 0, 0], [3, 3, 3, 3, 3, 0], [3, 0], [3, 3, 3, 3, 3, 3, 3, 3, 4, 0, 0], [3, 3, 3, 3, 1], [0, 0, 0, 0, 3, 3, 3, 3], [3, 3], [0, 0, 0, 3, 3], [3, 3, 3, 3, 3, 3, 3, 3, 3], [3, 3, 3, 0, 0, 0, 3, 3, 3, 3, 3, 3, 3, 3, 3, 3, 3, 3, 3, 0, 3, 3, 3, 0, 0, 3, 0, 0, 0, 0, 0, 0, 3, 3, 3, 3, 0, 1, 3, 3, 3, 0, 1]] : List (List Nat)).getD K []
/-- what a field holds: 0 int, 1 boolean, 2 long, 3 a cell that stays, 4 a Thing or null -/
noncomputable def xfty (K s : Nat) : Nat := (xftl K).getD s 9
noncomputable def xsrl (K : Nat) : List (Nat × Nat × Nat) := ([[(12, 1, 0), (0, 0, 0), (0, 0, 0), (0, 0, 0)], [(3, 0, 0), (13, 1, 0), (14, 1, 0), (15, 1, 0), (16, 1, 0), (0, 0, 0)], [(17, 1, 0), (0, 0, 0)], [(6, 0, 0), (7, 0, 0), (18, 1, 0), (19, 1, 0), (20, 1, 0), (21, 1, 0), (22, 1, 0), (23, 1, 0), (0, 0, 0), (0, 0, 0), (0, 0, 0)], [(7, 1, 0), (24, 1, 0), (25, 1, 0), (26, 1, 0), (0, 0, 0)], [(0, 0, 0), (0, 0, 0), (0, 0, 0), (0, 0, 0), (27, 1, 0), (28, 1, 0), (29, 1, 0), (30, 1, 0)], [(31, 1, 0), (32, 1, 0)], [(0, 0, 0), (0, 0, 0), (0, 0, 0), (33, 1, 0), (34, 1, 0)], [(2, 0, 0), (4, 0, 0), (10, 1, 0), (6, 0, 0), (3, 0, 0), (1, 0, 0), (0, 0, 0), (5, 0, 12), (11, 1, 0)], [(50, 1, 0), (51, 1, 0), (52, 1, 0), (0, 0, 0), (0, 0, 0), (0, 0, 0), (53, 1, 0), (54, 1, 0), (55, 1, 0), (56, 1, 0), (57, 1, 0), (58, 1, 0), (59, 1, 0), (60, 1, 0), (61, 1, 0), (62, 1, 0), (63, 1, 0), (64, 1, 0), (65, 1, 0), (0, 0, 0), (66, 1, 0), (67, 1, 0), (68, 1, 0), (0, 0, 0), (0, 0, 0), (69, 1, 0), (0, 0, 0), (0, 0, 0), (0, 0, 0), (0, 0, 0), (0, 0, 0), (0, 0, 0), (70, 1, 0), (71, 1, 0), (72, 1, 0), (73, 1, 0), (0, 0, 0), (0, 0, 0), (74, 1, 0), (75, 1, 0), (76, 1, 0), (0, 0, 0), (0, 0, 0)]] : List (List (Nat × Nat × Nat))).getD K []
noncomputable def xsr (K i s : Nat) : Nat × Nat := (((xsrl K).getD s (0, 0, 0)).1, cond (Nat.beq ((xsrl K).getD s (0, 0, 0)).2.1 0) ((xsrl K).getD s (0, 0, 0)).2.2 i)
noncomputable def xar (K i j : Nat) : Nat × Nat := cond (Nat.beq K 10) (4, 1 + j) (5, 4 * i + j)
/-- whose cell: 0 the class, 1 the reference -/
noncomputable def xkg (K : Nat) : Nat := cond (Nat.beq K 9) 1 (cond (Nat.ble 50 K) 1 0)
noncomputable def xmg (k : Nat) : Nat := cond (Nat.ble 200 k) 1 0
/-! a method: name, code, locals, what it answers, its own class, frames and locals below it -/
noncomputable def xmYl0 : List MethodName := [yJ7_fill_53178, yJ9_abs_0f7a4, yJ9_max_7cf53, yJ9_min_7cf53, yX0_init, yX0_forget, yX0_isNew, yX0_none, yX0_add, yX0_at, yX1_init, yX1_weigh, yX1_find, yX1_comeBackFrom, yX1_come, yX1_walk, yX1_firstMove, yX1_put, yX1_rise, yX1_takeNearest, yX1_sink, yX2_init, yX2_isFull, yX2_add, yX2_clear, yX2_digitAt, yX2_groupAt, yX2_moveAt, yX2_rowFault, yX2_thingFault, yX2_standsInThing, yX2_isThere, yX2_leastIsZero, yX3_init, yX3_forget, yX3_about, yX3_wall, yX3_off, yX3_fits, yX3_why, yX3_step, yX3_flood, yX3_trace, yX3_opposite, yX3_signOf, yX3_reach, yX3_lookAt, yX3_drawGrid, yX3_hindranceOf, yX3_gridAt, yX4_init, yX4_thingAt, yX4_costsOf, yX4_copyFrom, yX5_init, yX5_tell, yX5_becomeBar, yX5_put, yX5_copyFrom, yX5_stand, yX5_groupOf, yX5_along, yX5_partsSet, yX5_cubesOn, yX6_init, yX6_after, yX6_axisAt, yX6_find, yX6_turnedAxis, yX7_init, yX7_resize, yX7_copyFrom, yX7_measure, yX7_placeAt, yX7_placeOf, yX7_isCell, yX7_placeBeside, yX7_kindAt, yX7_paint, yX7_doorsSet, yX7_sizeAlong, yX8_init, yX8_size, yX8_fill, yX8_cell, yX8_say, yX8_wipe, yX8_fault, yX8_thing, yX8_cube, yX8_cost, yX8_lay, yX8_goal, yX8_judge, yX8_move, yX8_goes, yX8_effort, yX8_room, yX8_least, yX8_bar, yX8_order, yX8_came, yX8_image, yX8_restore, yX8_told, yX8_turnedByPad, yX8_judged, yX8_rowAnswer, yX8_findGoes, yX8_scrapes, yX8_scrapesAt, yX8_turnable, yX8_fitsAllRound, yX8_goesWith, yX8_findLeast, yX8_neededOf, yX8_sumSetCosts, yX8_findCame, yX8_goesByLess, yX8_findBar, yX8_barGoes, yX8_findOrder, yX8_firstToGo, yX8_goesAmong, yX8_imageAt, yX8_forgetWay, yX8_refusalOf, yX8_isUpTo, yX8_isSet, yX8_has, yX8_read, yX8_write, yX8_copy, yX8_xOf, yX8_yOf, yX8_zOf, yX8_cellOf]
noncomputable def xmYl1 : List MethodName := [yX9_init, yX9_in, yX9_isThing, yX9_turn, yX9_tableOf, yX9_findTables, yX9_isCell, yX9_isCellNumber, yX9_at, yX9_placeOf, yX9_numberOf, yX9_size, yX9_fill, yX9_cell, yX9_say, yX9_wipe, yX9_wasTold, yX9_faultOfThing, yX9_moveOf, yX9_signOf, yX9_faultOfRow, yX9_fault, yX9_thing, yX9_row, yX9_layCubes, yX9_cube, yX9_cost, yX9_takeOff, yX9_isOn, yX9_isOpen, yX9_whyNot, yX9_whyAt, yX9_rowFault, yX9_lay, yX9_goal, yX9_step, yX9_goRow, yX9_judge, yX9_move, yX9_findFits, yX9_next, yX9_undo, yX9_cubesOn, yX9_costOf, yX9_findOff, yX9_standOf, yX9_bestMove, yX9_moveAt, yX9_isSet, yX9_goes, yX9_effort, yX9_comesTo, yX9_against, yX9_isOwn, yX9_scrapes, yX9_turnable, yX9_room, yX9_doesGo, yX9_costOff, yX9_least, yX9_layBar, yX9_fitsBar, yX9_bar, yX9_goesAmong, yX9_findOrder, yX9_order, yX9_came, yX9_pass, yX9_passAll, yX9_image, yX9_restore, yX9_told]
noncomputable def xmY (k : Nat) : MethodName := cond (Nat.ble 200 k) (xmYl1.getD (k - 200) ⟨"", "", ""⟩) (xmYl0.getD k ⟨"", "", ""⟩)
noncomputable def xmBl0 : List ByteArray := [cJ7_fill_53178, cJ9_abs_0f7a4, cJ9_max_7cf53, cJ9_min_7cf53, cX0_init, cX0_forget, cX0_isNew, cX0_none, cX0_add, cX0_at, cX1_init, cX1_weigh, cX1_find, cX1_comeBackFrom, cX1_come, cX1_walk, cX1_firstMove, cX1_put, cX1_rise, cX1_takeNearest, cX1_sink, cX2_init, cX2_isFull, cX2_add, cX2_clear, cX2_digitAt, cX2_groupAt, cX2_moveAt, cX2_rowFault, cX2_thingFault, cX2_standsInThing, cX2_isThere, cX2_leastIsZero, cX3_init, cX3_forget, cX3_about, cX3_wall, cX3_off, cX3_fits, cX3_why, cX3_step, cX3_flood, cX3_trace, cX3_opposite, cX3_signOf, cX3_reach, cX3_lookAt, cX3_drawGrid, cX3_hindranceOf, cX3_gridAt, cX4_init, cX4_thingAt, cX4_costsOf, cX4_copyFrom, cX5_init, cX5_tell, cX5_becomeBar, cX5_put, cX5_copyFrom, cX5_stand, cX5_groupOf, cX5_along, cX5_partsSet, cX5_cubesOn, cX6_init, cX6_after, cX6_axisAt, cX6_find, cX6_turnedAxis, cX7_init, cX7_resize, cX7_copyFrom, cX7_measure, cX7_placeAt, cX7_placeOf, cX7_isCell, cX7_placeBeside, cX7_kindAt, cX7_paint, cX7_doorsSet, cX7_sizeAlong, cX8_init, cX8_size, cX8_fill, cX8_cell, cX8_say, cX8_wipe, cX8_fault, cX8_thing, cX8_cube, cX8_cost, cX8_lay, cX8_goal, cX8_judge, cX8_move, cX8_goes, cX8_effort, cX8_room, cX8_least, cX8_bar, cX8_order, cX8_came, cX8_image, cX8_restore, cX8_told, cX8_turnedByPad, cX8_judged, cX8_rowAnswer, cX8_findGoes, cX8_scrapes, cX8_scrapesAt, cX8_turnable, cX8_fitsAllRound, cX8_goesWith, cX8_findLeast, cX8_neededOf, cX8_sumSetCosts, cX8_findCame, cX8_goesByLess, cX8_findBar, cX8_barGoes, cX8_findOrder, cX8_firstToGo, cX8_goesAmong, cX8_imageAt, cX8_forgetWay, cX8_refusalOf, cX8_isUpTo, cX8_isSet, cX8_has, cX8_read, cX8_write, cX8_copy, cX8_xOf, cX8_yOf, cX8_zOf, cX8_cellOf]
noncomputable def xmBl1 : List ByteArray := [cX9_init, cX9_in, cX9_isThing, cX9_turn, cX9_tableOf, cX9_findTables, cX9_isCell, cX9_isCellNumber, cX9_at, cX9_placeOf, cX9_numberOf, cX9_size, cX9_fill, cX9_cell, cX9_say, cX9_wipe, cX9_wasTold, cX9_faultOfThing, cX9_moveOf, cX9_signOf, cX9_faultOfRow, cX9_fault, cX9_thing, cX9_row, cX9_layCubes, cX9_cube, cX9_cost, cX9_takeOff, cX9_isOn, cX9_isOpen, cX9_whyNot, cX9_whyAt, cX9_rowFault, cX9_lay, cX9_goal, cX9_step, cX9_goRow, cX9_judge, cX9_move, cX9_findFits, cX9_next, cX9_undo, cX9_cubesOn, cX9_costOf, cX9_findOff, cX9_standOf, cX9_bestMove, cX9_moveAt, cX9_isSet, cX9_goes, cX9_effort, cX9_comesTo, cX9_against, cX9_isOwn, cX9_scrapes, cX9_turnable, cX9_room, cX9_doesGo, cX9_costOff, cX9_least, cX9_layBar, cX9_fitsBar, cX9_bar, cX9_goesAmong, cX9_findOrder, cX9_order, cX9_came, cX9_pass, cX9_passAll, cX9_image, cX9_restore, cX9_told]
noncomputable def xmB (k : Nat) : ByteArray := cond (Nat.ble 200 k) (xmBl1.getD (k - 200) ByteArray.empty) (xmBl0.getD k ByteArray.empty)
noncomputable def xmLl0 : List Nat := [4, 1, 2, 2, 1, 1, 7, 1, 2, 2, 2, 5, 6, 4, 3, 6, 4, 3, 4, 2, 6, 1, 1, 2, 2, 2, 3, 2, 2, 2, 4, 3, 4, 4, 1, 4, 4, 5, 3, 3, 6, 7, 7, 1, 1, 3, 7, 2, 1, 3, 2, 2, 3, 5, 1, 4, 3, 5, 2, 1, 2, 8, 3, 4, 8, 3, 3, 6, 8, 1, 4, 2, 6, 5, 2, 2, 3, 2, 8, 3, 2, 2, 6, 7, 3, 2, 1, 2, 3, 6, 6, 6, 6, 5, 6, 5, 5, 5, 5, 3, 5, 5, 3, 3, 3, 4, 6, 8, 3, 7, 6, 4, 5, 3, 7, 5, 5, 7, 3, 4, 8, 5, 3, 6, 2, 1, 2, 2, 1, 2, 2, 3, 3, 1, 1, 1, 1]
noncomputable def xmLl1 : List Nat := [3, 6, 1, 8, 5, 6, 4, 2, 3, 1, 1, 5, 8, 2, 2, 2, 4, 9, 1, 1, 2, 2, 4, 5, 8, 4, 5, 4, 4, 3, 8, 6, 4, 5, 4, 2, 4, 3, 2, 4, 4, 1, 4, 3, 8, 2, 4, 6, 1, 7, 7, 7, 4, 7, 8, 7, 3, 4, 6, 5, 5, 4, 3, 5, 6, 4, 6, 3, 2, 2, 2, 2]
noncomputable def xmL (k : Nat) : Nat := cond (Nat.ble 200 k) (xmLl1.getD (k - 200) 0) (xmLl0.getD k 0)
noncomputable def xmRl0 : List (Option FieldType) := [Option.none, (Option.some .int), (Option.some .int), (Option.some .int), Option.none, Option.none, (Option.some .boolean), Option.none, Option.none, (Option.some .int), Option.none, Option.none, Option.none, Option.none, Option.none, Option.none, (Option.some .int), Option.none, Option.none, (Option.some .int), Option.none, Option.none, (Option.some .boolean), (Option.some .int), (Option.some .int), (Option.some .int), (Option.some .int), (Option.some .int), (Option.some .int), (Option.some .int), (Option.some .boolean), (Option.some .boolean), (Option.some .boolean), Option.none, Option.none, Option.none, Option.none, Option.none, (Option.some .boolean), (Option.some .int), (Option.some .int), (Option.some .int), Option.none, (Option.some .int), (Option.some .int), Option.none, (Option.some .int), Option.none, (Option.some .int), (Option.some .int), Option.none, (Option.some (.object "SofaStair$Thing")), (Option.some (.array .int)), Option.none, Option.none, Option.none, Option.none, Option.none, Option.none, (Option.some .int), (Option.some .int), (Option.some .int), (Option.some .int), (Option.some .int), Option.none, (Option.some .int), (Option.some .int), (Option.some .int), (Option.some .int), Option.none, Option.none, Option.none, Option.none, (Option.some .int), (Option.some .int), (Option.some .boolean), (Option.some .int), (Option.some .int), (Option.some .int), (Option.some .int), (Option.some .int), Option.none, (Option.some .int), (Option.some .int), (Option.some .int), (Option.some .int), (Option.some .int), (Option.some .int), (Option.some .int), (Option.some .int), (Option.some .int), (Option.some .int), (Option.some .int), (Option.some .int), (Option.some .int), (Option.some .int), (Option.some .int), (Option.some .int), (Option.some .int), (Option.some .int), (Option.some .int), (Option.some .int), (Option.some .int), (Option.some .int), (Option.some .int), (Option.some .int), (Option.some .int), (Option.some .int), Option.none, (Option.some .int), (Option.some .int), (Option.some .int), (Option.some .boolean), (Option.some .boolean), Option.none, (Option.some .int), Option.none, Option.none, (Option.some .boolean), Option.none, (Option.some .boolean), Option.none, (Option.some .int), (Option.some .boolean), (Option.some (.object "SofaStair$Stair")), Option.none, (Option.some .int), (Option.some .boolean), (Option.some .boolean), (Option.some .boolean), (Option.some .int), Option.none, Option.none, (Option.some .int), (Option.some .int), (Option.some .int), (Option.some .int)]
noncomputable def xmRl1 : List (Option FieldType) := [Option.none, (Option.some .boolean), (Option.some .boolean), Option.none, (Option.some .int), Option.none, (Option.some .boolean), (Option.some .boolean), (Option.some .int), (Option.some .int), (Option.some .int), (Option.some .int), (Option.some .int), (Option.some .int), (Option.some .int), (Option.some .int), (Option.some .boolean), (Option.some .int), (Option.some .int), (Option.some .int), (Option.some .int), (Option.some .int), (Option.some .int), (Option.some .int), Option.none, (Option.some .int), (Option.some .int), Option.none, (Option.some .boolean), (Option.some .boolean), (Option.some .int), (Option.some .int), (Option.some .int), (Option.some .int), (Option.some .int), Option.none, (Option.some .boolean), (Option.some .int), (Option.some .int), Option.none, (Option.some .int), (Option.some .int), (Option.some .int), (Option.some .long), Option.none, (Option.some .int), (Option.some .int), (Option.some .int), (Option.some .boolean), (Option.some .int), (Option.some .int), (Option.some .int), (Option.some .int), (Option.some .boolean), (Option.some .int), (Option.some .int), (Option.some .int), (Option.some .boolean), (Option.some .int), (Option.some .int), Option.none, (Option.some .boolean), (Option.some .int), (Option.some .boolean), (Option.some .int), (Option.some .int), (Option.some .int), (Option.some .int), Option.none, (Option.some .int), (Option.some .int), (Option.some .int)]
noncomputable def xmR (k : Nat) : (Option FieldType) := cond (Nat.ble 200 k) (xmRl1.getD (k - 200) Option.none) (xmRl0.getD k Option.none)
noncomputable def xmOl0 : List String := [RJ7, RJ9, RJ9, RJ9, RX0, RX0, RX0, RX0, RX0, RX0, RX1, RX1, RX1, RX1, RX1, RX1, RX1, RX1, RX1, RX1, RX1, RX2, RX2, RX2, RX2, RX2, RX2, RX2, RX2, RX2, RX2, RX2, RX2, RX3, RX3, RX3, RX3, RX3, RX3, RX3, RX3, RX3, RX3, RX3, RX3, RX3, RX3, RX3, RX3, RX3, RX4, RX4, RX4, RX4, RX5, RX5, RX5, RX5, RX5, RX5, RX5, RX5, RX5, RX5, RX6, RX6, RX6, RX6, RX6, RX7, RX7, RX7, RX7, RX7, RX7, RX7, RX7, RX7, RX7, RX7, RX7, RX8, RX8, RX8, RX8, RX8, RX8, RX8, RX8, RX8, RX8, RX8, RX8, RX8, RX8, RX8, RX8, RX8, RX8, RX8, RX8, RX8, RX8, RX8, RX8, RX8, RX8, RX8, RX8, RX8, RX8, RX8, RX8, RX8, RX8, RX8, RX8, RX8, RX8, RX8, RX8, RX8, RX8, RX8, RX8, RX8, RX8, RX8, RX8, RX8, RX8, RX8, RX8, RX8, RX8, RX8, RX8]
noncomputable def xmOl1 : List String := [RX9, RX9, RX9, RX9, RX9, RX9, RX9, RX9, RX9, RX9, RX9, RX9, RX9, RX9, RX9, RX9, RX9, RX9, RX9, RX9, RX9, RX9, RX9, RX9, RX9, RX9, RX9, RX9, RX9, RX9, RX9, RX9, RX9, RX9, RX9, RX9, RX9, RX9, RX9, RX9, RX9, RX9, RX9, RX9, RX9, RX9, RX9, RX9, RX9, RX9, RX9, RX9, RX9, RX9, RX9, RX9, RX9, RX9, RX9, RX9, RX9, RX9, RX9, RX9, RX9, RX9, RX9, RX9, RX9, RX9, RX9, RX9]
noncomputable def xmO (k : Nat) : String := cond (Nat.ble 200 k) (xmOl1.getD (k - 200) "") (xmOl0.getD k "")
noncomputable def xmFl0 : List Nat := [0, 0, 0, 0, 2, 0, 0, 0, 1, 1, 2, 1, 7, 4, 3, 6, 3, 1, 2, 3, 2, 2, 0, 1, 0, 1, 1, 5, 6, 4, 3, 2, 2, 2, 0, 3, 3, 1, 2, 2, 2, 3, 6, 0, 5, 1, 1, 2, 0, 0, 3, 0, 1, 3, 2, 3, 3, 2, 1, 0, 1, 2, 2, 2, 3, 1, 1, 2, 2, 2, 2, 2, 1, 0, 1, 1, 1, 1, 1, 0, 0, 4, 3, 2, 2, 2, 1, 7, 5, 3, 2, 7, 2, 7, 7, 9, 9, 5, 7, 6, 7, 6, 4, 4, 2, 6, 6, 8, 7, 4, 3, 4, 3, 4, 6, 5, 1, 5, 1, 5, 4, 6, 5, 4, 0, 1, 0, 0, 1, 0, 0, 0, 0, 0, 0, 0, 1]
noncomputable def xmFl1 : List Nat := [2, 0, 1, 0, 0, 1, 1, 2, 0, 1, 0, 1, 3, 3, 1, 0, 0, 1, 0, 0, 1, 2, 2, 0, 1, 2, 1, 0, 0, 0, 2, 3, 2, 4, 3, 0, 4, 5, 5, 3, 2, 0, 1, 0, 4, 0, 3, 4, 1, 5, 5, 4, 2, 0, 3, 4, 5, 5, 0, 6, 0, 4, 6, 5, 6, 7, 6, 0, 1, 2, 2, 1]
noncomputable def xmF (k : Nat) : Nat := cond (Nat.ble 200 k) (xmFl1.getD (k - 200) 0) (xmFl0.getD k 0)
noncomputable def xmWl0 : List Nat := [0, 0, 0, 0, 31, 0, 0, 0, 22, 21, 31, 21, 186, 91, 69, 161, 68, 22, 44, 69, 44, 31, 0, 22, 0, 21, 21, 141, 162, 87, 64, 42, 42, 31, 0, 70, 70, 21, 47, 47, 43, 69, 161, 0, 141, 22, 21, 42, 0, 0, 69, 0, 21, 70, 31, 58, 58, 34, 22, 0, 21, 43, 42, 42, 70, 21, 21, 43, 43, 49, 49, 49, 24, 0, 24, 20, 21, 21, 24, 0, 0, 97, 72, 51, 45, 43, 21, 183, 108, 70, 43, 185, 45, 187, 187, 238, 238, 121, 167, 145, 166, 143, 94, 94, 40, 162, 162, 211, 187, 95, 70, 93, 69, 95, 141, 117, 21, 117, 21, 122, 95, 142, 120, 95, 0, 20, 0, 0, 21, 0, 0, 0, 0, 0, 0, 0, 20]
noncomputable def xmWl1 : List Nat := [52, 0, 25, 0, 0, 27, 25, 48, 0, 22, 0, 25, 69, 69, 25, 0, 0, 25, 0, 0, 20, 53, 53, 0, 24, 51, 25, 0, 0, 0, 48, 75, 41, 100, 69, 0, 100, 123, 123, 75, 48, 0, 23, 0, 98, 0, 71, 94, 25, 125, 125, 98, 48, 0, 71, 98, 124, 125, 0, 148, 0, 100, 148, 125, 149, 174, 148, 0, 22, 43, 43, 25]
noncomputable def xmW (k : Nat) : Nat := cond (Nat.ble 200 k) (xmWl1.getD (k - 200) 0) (xmWl0.getD k 0)
/-- a method that answers a boolean -/
noncomputable def xmz0 : List Nat := [0, 0, 0, 0, 0, 0, 1, 0, 0, 0, 0, 0, 0, 0, 0, 0, 0, 0, 0, 0, 0, 0, 1, 0, 0, 0, 0, 0, 0, 0, 1, 1, 1, 0, 0, 0, 0, 0, 1, 0, 0, 0, 0, 0, 0, 0, 0, 0, 0, 0, 0, 0, 0, 0, 0, 0, 0, 0, 0, 0, 0, 0, 0, 0, 0, 0, 0, 0, 0, 0, 0, 0, 0, 0, 0, 1, 0, 0, 0, 0, 0, 0, 0, 0, 0, 0, 0, 0, 0, 0, 0, 0, 0, 0, 0, 0, 0, 0, 0, 0, 0, 0, 0, 0, 0, 0, 0, 0, 0, 0, 0, 0, 1, 1, 0, 0, 0, 0, 1, 0, 1, 0, 0, 1, 0, 0, 0, 1, 1, 1, 0, 0, 0, 0, 0, 0, 0]
noncomputable def xmz1 : List Nat := [0, 1, 1, 0, 0, 0, 1, 1, 0, 0, 0, 0, 0, 0, 0, 0, 1, 0, 0, 0, 0, 0, 0, 0, 0, 0, 0, 0, 1, 1, 0, 0, 0, 0, 0, 0, 1, 0, 0, 0, 0, 0, 0, 0, 0, 0, 0, 0, 1, 0, 0, 0, 0, 1, 0, 0, 0, 1, 0, 0, 0, 1, 0, 1, 0, 0, 0, 0, 0, 0, 0, 0]
noncomputable def xmZ (k : Nat) : Nat := cond (Nat.ble 200 k) (xmz1.getD (k - 200) 0) (xmz0.getD k 0)
/-- java/util/Arrays.fill -/
noncomputable def xc_0 : List (Nat × xa_I) := [xP 0 (.iconst 0) 1, xP 1 (.istore_n 2) 1, xP 2 (.aload_n 0) 1, xP 3 .arraylength 1, xP 4 (.istore_n 3) 1, xP 5 (.iload_n 2) 1, xP 6 (.iload_n 3) 1, xP 7 (.if_icmp .ge 13) 3, xP 10 (.aload_n 0) 1, xP 11 (.iload_n 2) 1, xP 12 (.iload_n 1) 1, xP 13 .iastore 1, xP 14 (.iinc 2 1) 3, xP 17 (.goto (-12)) 3, xP 20 .return_ 1]
/-- java/lang/Math.abs -/
noncomputable def xc_1 : List (Nat × xa_I) := [xP 0 (.iload_n 0) 1, xP 1 (.ifCond .ge 8) 3, xP 4 (.iload_n 0) 1, xP 5 .ineg 1, xP 6 (.goto 4) 3, xP 9 (.iload_n 0) 1, xP 10 .ireturn 1]
/-- java/lang/Math.max -/
noncomputable def xc_2 : List (Nat × xa_I) := [xP 0 (.iload_n 0) 1, xP 1 (.iload_n 1) 1, xP 2 (.if_icmp .lt 7) 3, xP 5 (.iload_n 0) 1, xP 6 (.goto 4) 3, xP 9 (.iload_n 1) 1, xP 10 .ireturn 1]
/-- java/lang/Math.min -/
noncomputable def xc_3 : List (Nat × xa_I) := [xP 0 (.iload_n 0) 1, xP 1 (.iload_n 1) 1, xP 2 (.if_icmp .gt 7) 3, xP 5 (.iload_n 0) 1, xP 6 (.goto 4) 3, xP 9 (.iload_n 1) 1, xP 10 .ireturn 1]
/-- SofaStair$Answer.<init> -/
noncomputable def xc_4 : List (Nat × xa_I) := [xP 0 (.aload_n 0) 1, xQ 1 (.invokespecial 3) 3 9999 1 341, xP 4 (.aload_n 0) 1, xP 5 (.sipush 3456) 3, xP 8 (.newarray .int) 2, xQ 10 (.putfield 9) 3 0 0 342, xP 13 .return_ 1]
/-- SofaStair$Answer.forget -/
noncomputable def xc_5 : List (Nat × xa_I) := [xP 0 (.aload_n 0) 1, xP 1 (.iconst 0) 1, xQ 2 (.putfield 15) 3 0 1 344, xP 5 .return_ 1]
/-- SofaStair$Answer.isNew -/
noncomputable def xc_6 : List (Nat × xa_I) := [xP 0 (.iload_n 1) 1, xP 1 (.iconst 4) 1, xP 2 .imul 1, xP 3 (.iload_n 2) 1, xP 4 .iadd 1, xP 5 (.bipush 16) 2, xP 7 .imul 1, xP 8 (.iload_n 3) 1, xP 9 .iadd 1, xP 10 (.bipush 16) 2, xP 12 .imul 1, xP 13 (.iload 4) 2, xP 15 .iadd 1, xP 16 (.istore 5) 2, xP 18 (.iload 5) 2, xP 20 (.aload_n 0) 1, xQ 21 (.getfield 15) 3 0 1 344, xP 24 (.if_icmp .eq 7) 3, xP 27 (.iconst 1) 1, xP 28 (.goto 4) 3, xP 31 (.iconst 0) 1, xP 32 (.istore 6) 2, xP 34 (.aload_n 0) 1, xP 35 (.iload 5) 2, xQ 37 (.putfield 15) 3 0 1 344, xP 40 (.iload 6) 2, xP 42 .ireturn 1]
/-- SofaStair$Answer.none -/
noncomputable def xc_7 : List (Nat × xa_I) := [xP 0 (.aload_n 0) 1, xP 1 (.iconst 0) 1, xQ 2 (.putfield 19) 3 0 2 345, xP 5 (.aload_n 0) 1, xP 6 (.bipush (-6)) 2, xQ 8 (.putfield 22) 3 0 3 349, xP 11 .return_ 1]
/-- SofaStair$Answer.add -/
noncomputable def xc_8 : List (Nat × xa_I) := [xP 0 (.aload_n 0) 1, xQ 1 (.getfield 9) 3 0 0 342, xP 4 (.aload_n 0) 1, xQ 5 (.getfield 19) 3 0 2 345, xP 8 (.iload_n 1) 1, xQ 9 (.invokestatic 25) 3 131 3 837, xP 12 (.aload_n 0) 1, xP 13 .dup 1, xQ 14 (.getfield 19) 3 0 2 345, xP 17 (.iconst 1) 1, xP 18 .iadd 1, xQ 19 (.putfield 19) 3 0 2 345, xP 22 .return_ 1]
/-- SofaStair$Answer.at -/
noncomputable def xc_9 : List (Nat × xa_I) := [xP 0 (.iload_n 1) 1, xP 1 (.ifCond .lt 22) 3, xP 4 (.iload_n 1) 1, xP 5 (.aload_n 0) 1, xQ 6 (.getfield 19) 3 0 2 345, xP 9 (.if_icmp .ge 14) 3, xP 12 (.aload_n 0) 1, xQ 13 (.getfield 9) 3 0 0 342, xP 16 (.iload_n 1) 1, xQ 17 (.invokestatic 29) 3 130 2 847, xP 20 (.goto 5) 3, xP 23 (.bipush (-6)) 2, xP 25 .ireturn 1]
/-- SofaStair$Cheapest.<init> -/
noncomputable def xc_10 : List (Nat × xa_I) := [xP 0 (.aload_n 0) 1, xQ 1 (.invokespecial 3) 3 9999 1 316, xP 4 (.aload_n 0) 1, xP 5 (.bipush 12) 2, xP 7 (.newarray .int) 2, xQ 9 (.putfield 9) 3 1 1 318, xP 12 (.aload_n 0) 1, xP 13 (.sipush 3456) 3, xP 16 (.newarray .int) 2, xQ 18 (.putfield 15) 3 1 2 319, xP 21 (.aload_n 0) 1, xP 22 (.sipush 3456) 3, xP 25 (.newarray .int) 2, xQ 27 (.putfield 18) 3 1 3 320, xP 30 (.aload_n 0) 1, xP 31 (.sipush 3456) 3, xP 34 (.newarray .int) 2, xQ 36 (.putfield 21) 3 1 4 321, xP 39 (.aload_n 0) 1, xP 40 (.aload_n 1) 1, xQ 41 (.putfield 24) 3 1 0 317, xP 44 .return_ 1]
/-- SofaStair$Cheapest.weigh -/
noncomputable def xc_11 : List (Nat × xa_I) := [xP 0 (.iconst 0) 1, xP 1 (.istore_n 3) 1, xP 2 (.iload_n 3) 1, xP 3 (.bipush 12) 2, xP 5 (.if_icmp .ge 75) 3, xP 8 (.aload_n 1) 1, xP 9 (.iconst 0) 1, xQ 10 (.invokestatic 28) 3 130 2 793, xP 13 (.istore 4) 2, xP 15 (.iload_n 3) 1, xP 16 (.iconst 4) 1, xP 17 (.if_icmp .ne 15) 3, xP 20 (.aload_n 1) 1, xP 21 (.iconst 1) 1, xQ 22 (.invokestatic 28) 3 130 2 793, xP 25 (.iload_n 2) 1, xP 26 .imul 1, xP 27 (.istore 4) 2, xP 29 (.goto 31) 3, xP 32 (.iload_n 3) 1, xP 33 (.iconst 5) 1, xP 34 (.if_icmp .ne 13) 3, xP 37 (.aload_n 1) 1, xP 38 (.iconst 2) 1, xQ 39 (.invokestatic 28) 3 130 2 793, xP 42 (.istore 4) 2, xP 44 (.goto 16) 3, xP 47 (.iload_n 3) 1, xP 48 (.bipush 6) 2, xP 50 (.if_icmp .lt 10) 3, xP 53 (.aload_n 1) 1, xP 54 (.iconst 3) 1, xQ 55 (.invokestatic 28) 3 130 2 793, xP 58 (.istore 4) 2, xP 60 (.aload_n 0) 1, xQ 61 (.getfield 9) 3 1 1 318, xP 64 (.iload_n 3) 1, xP 65 (.iload 4) 2, xP 67 (.sipush 4096) 3, xP 70 .imul 1, xP 71 (.iconst 1) 1, xP 72 .iadd 1, xP 73 .iastore 1, xP 74 (.iinc 3 1) 3, xP 77 (.goto (-75)) 3, xP 80 .return_ 1]
/-- SofaStair$Cheapest.find -/
noncomputable def xc_12 : List (Nat × xa_I) := [xP 0 (.aload_n 3) 1, xQ 1 (.invokevirtual 32) 3 7 1 798, xP 4 (.aload_n 0) 1, xQ 5 (.getfield 24) 3 1 0 317, xP 8 (.iload_n 1) 1, xQ 9 (.invokevirtual 37) 3 38 2 799, xP 12 (.ifCond .ne 4) 3, xP 15 .return_ 1, xP 16 (.aload_n 0) 1, xQ 17 (.getfield 15) 3 1 2 319, xQ 20 (.ldc 43) 2 2147483647 0 800, xQ 22 (.invokestatic 44) 3 0 2 801, xP 25 (.aload_n 0) 1, xP 26 (.iconst 0) 1, xQ 27 (.putfield 50) 3 1 5 322, xP 30 (.iconst 0) 1, xP 31 (.istore 4) 2, xP 33 (.iload 4) 2, xP 35 (.bipush 24) 2, xP 37 (.if_icmp .ge 21) 3, xP 40 (.aload_n 0) 1, xP 41 (.iload_n 2) 1, xP 42 (.bipush 24) 2, xP 44 .imul 1, xP 45 (.iload 4) 2, xP 47 .iadd 1, xP 48 (.iconst 0) 1, xQ 49 (.invokevirtual 54) 3 14 3 802, xP 52 (.iinc 4 1) 3, xP 55 (.goto (-22)) 3, xP 58 (.iconst 0) 1, xP 59 (.istore 4) 2, xP 61 (.iload 4) 2, xP 63 (.sipush 3456) 3, xP 66 (.if_icmp .ge 57) 3, xP 69 (.aload_n 0) 1, xQ 70 (.getfield 50) 3 1 5 322, xP 73 (.ifCond .le 50) 3, xP 76 (.aload_n 0) 1, xQ 77 (.invokevirtual 58) 3 19 1 815, xP 80 (.istore 5) 2, xP 82 (.iload 5) 2, xP 84 (.iload_n 1) 1, xP 85 (.if_icmp .ne 26) 3, xP 88 (.aload_n 3) 1, xP 89 (.aload_n 0) 1, xQ 90 (.getfield 15) 3 1 2 319, xP 93 (.iload_n 1) 1, xQ 94 (.invokestatic 28) 3 130 2 793, xP 97 (.sipush 4096) 3, xP 100 .idiv 1, xQ 101 (.putfield 62) 3 0 3 348, xP 104 (.aload_n 0) 1, xP 105 (.iload_n 1) 1, xP 106 (.aload_n 3) 1, xQ 107 (.invokevirtual 65) 3 15 3 823, xP 110 .return_ 1, xP 111 (.aload_n 0) 1, xP 112 (.iload 5) 2, xQ 114 (.invokevirtual 69) 3 13 2 838, xP 117 (.iinc 4 1) 3, xP 120 (.goto (-59)) 3, xP 123 .return_ 1]
/-- SofaStair$Cheapest.comeBackFrom -/
noncomputable def xc_13 : List (Nat × xa_I) := [xP 0 (.iconst 0) 1, xP 1 (.istore_n 2) 1, xP 2 (.iload_n 2) 1, xP 3 (.bipush 12) 2, xP 5 (.if_icmp .ge 46) 3, xP 8 (.aload_n 0) 1, xQ 9 (.getfield 24) 3 1 0 317, xP 12 (.iload_n 1) 1, xP 13 (.iload_n 2) 1, xQ 14 (.invokestatic 73) 3 43 1 842, xQ 17 (.invokevirtual 77) 3 40 3 831, xP 20 (.istore_n 3) 1, xP 21 (.iload_n 3) 1, xP 22 (.ifCond .lt 23) 3, xP 25 (.aload_n 0) 1, xP 26 (.iload_n 3) 1, xP 27 (.aload_n 0) 1, xQ 28 (.getfield 15) 3 1 2 319, xP 31 (.iload_n 1) 1, xQ 32 (.invokestatic 28) 3 130 2 793, xP 35 (.aload_n 0) 1, xQ 36 (.getfield 9) 3 1 1 318, xP 39 (.iload_n 2) 1, xP 40 .iaload 1, xP 41 .iadd 1, xQ 42 (.invokevirtual 54) 3 14 3 802, xP 45 (.iinc 2 1) 3, xP 48 (.goto (-46)) 3, xP 51 .return_ 1]
/-- SofaStair$Cheapest.come -/
noncomputable def xc_14 : List (Nat × xa_I) := [xP 0 (.iload_n 2) 1, xP 1 (.aload_n 0) 1, xQ 2 (.getfield 15) 3 1 2 319, xP 5 (.iload_n 1) 1, xQ 6 (.invokestatic 28) 3 130 2 793, xP 9 (.if_icmp .ge 14) 3, xP 12 (.aload_n 0) 1, xQ 13 (.getfield 24) 3 1 0 317, xP 16 (.iload_n 1) 1, xQ 17 (.invokevirtual 37) 3 38 2 799, xP 20 (.ifCond .ne 4) 3, xP 23 .return_ 1, xP 24 (.aload_n 0) 1, xQ 25 (.getfield 15) 3 1 2 319, xP 28 (.iload_n 1) 1, xQ 29 (.invokestatic 28) 3 130 2 793, xQ 32 (.ldc 43) 2 2147483647 0 800, xP 34 (.if_icmp .ne 25) 3, xP 37 (.aload_n 0) 1, xQ 38 (.getfield 21) 3 1 4 321, xP 41 (.iload_n 1) 1, xP 42 (.aload_n 0) 1, xQ 43 (.getfield 50) 3 1 5 322, xQ 46 (.invokestatic 81) 3 131 3 806, xP 49 (.aload_n 0) 1, xP 50 .dup 1, xQ 51 (.getfield 50) 3 1 5 322, xP 54 (.iconst 1) 1, xP 55 .iadd 1, xQ 56 (.putfield 50) 3 1 5 322, xP 59 (.aload_n 0) 1, xQ 60 (.getfield 15) 3 1 2 319, xP 63 (.iload_n 1) 1, xP 64 (.iload_n 2) 1, xQ 65 (.invokestatic 81) 3 131 3 806, xP 68 (.aload_n 0) 1, xP 69 (.iload_n 1) 1, xQ 70 (.invokevirtual 85) 3 18 2 807, xP 73 .return_ 1]
/-- SofaStair$Cheapest.walk -/
noncomputable def xc_15 : List (Nat × xa_I) := [xP 0 (.iload_n 1) 1, xP 1 (.istore_n 3) 1, xP 2 (.iconst 0) 1, xP 3 (.istore 4) 2, xP 5 (.iload 4) 2, xP 7 (.sipush 3456) 3, xP 10 (.if_icmp .ge 47) 3, xP 13 (.aload_n 0) 1, xQ 14 (.getfield 15) 3 1 2 319, xP 17 (.iload_n 3) 1, xQ 18 (.invokestatic 28) 3 130 2 793, xP 21 (.ifCond .le 36) 3, xP 24 (.aload_n 0) 1, xP 25 (.iload_n 3) 1, xQ 26 (.invokevirtual 88) 3 16 2 827, xP 29 (.istore 5) 2, xP 31 (.aload_n 2) 1, xP 32 (.iload 5) 2, xQ 34 (.invokestatic 91) 3 44 1 832, xQ 37 (.invokevirtual 94) 3 8 2 833, xP 40 (.aload_n 0) 1, xQ 41 (.getfield 24) 3 1 0 317, xP 44 (.iload_n 3) 1, xP 45 (.iload 5) 2, xQ 47 (.invokevirtual 77) 3 40 3 831, xP 50 (.istore_n 3) 1, xP 51 (.iinc 4 1) 3, xP 54 (.goto (-49)) 3, xP 57 .return_ 1]
/-- SofaStair$Cheapest.firstMove -/
noncomputable def xc_16 : List (Nat × xa_I) := [xP 0 (.iconst 0) 1, xP 1 (.istore_n 2) 1, xP 2 (.iload_n 2) 1, xP 3 (.bipush 12) 2, xP 5 (.if_icmp .ge 51) 3, xP 8 (.aload_n 0) 1, xQ 9 (.getfield 24) 3 1 0 317, xP 12 (.iload_n 1) 1, xP 13 (.iload_n 2) 1, xQ 14 (.invokevirtual 77) 3 40 3 831, xP 17 (.istore_n 3) 1, xP 18 (.iload_n 3) 1, xP 19 (.ifCond .lt 31) 3, xP 22 (.aload_n 0) 1, xQ 23 (.getfield 15) 3 1 2 319, xP 26 (.iload_n 3) 1, xQ 27 (.invokestatic 28) 3 130 2 793, xP 30 (.aload_n 0) 1, xQ 31 (.getfield 15) 3 1 2 319, xP 34 (.iload_n 1) 1, xQ 35 (.invokestatic 28) 3 130 2 793, xP 38 (.aload_n 0) 1, xQ 39 (.getfield 9) 3 1 1 318, xP 42 (.iload_n 2) 1, xP 43 .iaload 1, xP 44 .isub 1, xP 45 (.if_icmp .ne 5) 3, xP 48 (.iload_n 2) 1, xP 49 .ireturn 1, xP 50 (.iinc 2 1) 3, xP 53 (.goto (-51)) 3, xP 56 (.iconst 0) 1, xP 57 .ireturn 1]
/-- SofaStair$Cheapest.put -/
noncomputable def xc_17 : List (Nat × xa_I) := [xP 0 (.aload_n 0) 1, xQ 1 (.getfield 18) 3 1 3 320, xP 4 (.iload_n 1) 1, xP 5 (.iload_n 2) 1, xQ 6 (.invokestatic 81) 3 131 3 806, xP 9 (.aload_n 0) 1, xQ 10 (.getfield 21) 3 1 4 321, xP 13 (.iload_n 2) 1, xP 14 (.iload_n 1) 1, xQ 15 (.invokestatic 81) 3 131 3 806, xP 18 .return_ 1]
/-- SofaStair$Cheapest.rise -/
noncomputable def xc_18 : List (Nat × xa_I) := [xP 0 (.aload_n 0) 1, xQ 1 (.getfield 21) 3 1 4 321, xP 4 (.iload_n 1) 1, xQ 5 (.invokestatic 28) 3 130 2 793, xP 8 (.istore_n 2) 1, xP 9 (.iload_n 2) 1, xP 10 (.ifCond .le 53) 3, xP 13 (.aload_n 0) 1, xQ 14 (.getfield 18) 3 1 3 320, xP 17 (.iload_n 2) 1, xP 18 (.iconst 1) 1, xP 19 .isub 1, xP 20 (.iconst 2) 1, xP 21 .idiv 1, xQ 22 (.invokestatic 28) 3 130 2 793, xP 25 (.istore_n 3) 1, xP 26 (.aload_n 0) 1, xQ 27 (.getfield 15) 3 1 2 319, xP 30 (.iload_n 3) 1, xQ 31 (.invokestatic 28) 3 130 2 793, xP 34 (.aload_n 0) 1, xQ 35 (.getfield 15) 3 1 2 319, xP 38 (.iload_n 1) 1, xQ 39 (.invokestatic 28) 3 130 2 793, xP 42 (.if_icmp .gt 6) 3, xP 45 (.goto 18) 3, xP 48 (.aload_n 0) 1, xP 49 (.iload_n 2) 1, xP 50 (.iload_n 3) 1, xQ 51 (.invokevirtual 97) 3 17 3 811, xP 54 (.iload_n 2) 1, xP 55 (.iconst 1) 1, xP 56 .isub 1, xP 57 (.iconst 2) 1, xP 58 .idiv 1, xP 59 (.istore_n 2) 1, xP 60 (.goto (-51)) 3, xP 63 (.aload_n 0) 1, xP 64 (.iload_n 2) 1, xP 65 (.iload_n 1) 1, xQ 66 (.invokevirtual 97) 3 17 3 811, xP 69 .return_ 1]
/-- SofaStair$Cheapest.takeNearest -/
noncomputable def xc_19 : List (Nat × xa_I) := [xP 0 (.aload_n 0) 1, xQ 1 (.getfield 18) 3 1 3 320, xP 4 (.iconst 0) 1, xQ 5 (.invokestatic 28) 3 130 2 793, xP 8 (.istore_n 1) 1, xP 9 (.aload_n 0) 1, xP 10 .dup 1, xQ 11 (.getfield 50) 3 1 5 322, xP 14 (.iconst 1) 1, xP 15 .isub 1, xQ 16 (.putfield 50) 3 1 5 322, xP 19 (.aload_n 0) 1, xQ 20 (.getfield 50) 3 1 5 322, xP 23 (.ifCond .le 18) 3, xP 26 (.aload_n 0) 1, xP 27 (.aload_n 0) 1, xQ 28 (.getfield 18) 3 1 3 320, xP 31 (.aload_n 0) 1, xQ 32 (.getfield 50) 3 1 5 322, xQ 35 (.invokestatic 28) 3 130 2 793, xQ 38 (.invokevirtual 100) 3 20 2 819, xP 41 (.iload_n 1) 1, xP 42 .ireturn 1]
/-- SofaStair$Cheapest.sink -/
noncomputable def xc_20 : List (Nat × xa_I) := [xP 0 (.iconst 0) 1, xP 1 (.istore_n 2) 1, xP 2 (.iconst 1) 1, xP 3 (.istore_n 3) 1, xP 4 (.iload_n 3) 1, xP 5 (.aload_n 0) 1, xQ 6 (.getfield 50) 3 1 5 322, xP 9 (.if_icmp .ge 105) 3, xP 12 (.iload_n 3) 1, xP 13 (.iconst 1) 1, xP 14 .iadd 1, xP 15 (.istore 4) 2, xP 17 (.iload 4) 2, xP 19 (.aload_n 0) 1, xQ 20 (.getfield 50) 3 1 5 322, xP 23 (.if_icmp .ge 40) 3, xP 26 (.aload_n 0) 1, xQ 27 (.getfield 15) 3 1 2 319, xP 30 (.aload_n 0) 1, xQ 31 (.getfield 18) 3 1 3 320, xP 34 (.iload 4) 2, xQ 36 (.invokestatic 28) 3 130 2 793, xQ 39 (.invokestatic 28) 3 130 2 793, xP 42 (.aload_n 0) 1, xQ 43 (.getfield 15) 3 1 2 319, xP 46 (.aload_n 0) 1, xQ 47 (.getfield 18) 3 1 3 320, xP 50 (.iload_n 3) 1, xQ 51 (.invokestatic 28) 3 130 2 793, xQ 54 (.invokestatic 28) 3 130 2 793, xP 57 (.if_icmp .ge 6) 3, xP 60 (.iload 4) 2, xP 62 (.istore_n 3) 1, xP 63 (.aload_n 0) 1, xQ 64 (.getfield 18) 3 1 3 320, xP 67 (.iload_n 3) 1, xQ 68 (.invokestatic 28) 3 130 2 793, xP 71 (.istore 5) 2, xP 73 (.aload_n 0) 1, xQ 74 (.getfield 15) 3 1 2 319, xP 77 (.iload_n 1) 1, xQ 78 (.invokestatic 28) 3 130 2 793, xP 81 (.aload_n 0) 1, xQ 82 (.getfield 15) 3 1 2 319, xP 85 (.iload 5) 2, xQ 87 (.invokestatic 28) 3 130 2 793, xP 90 (.if_icmp .gt 6) 3, xP 93 (.goto 21) 3, xP 96 (.aload_n 0) 1, xP 97 (.iload_n 2) 1, xP 98 (.iload 5) 2, xQ 100 (.invokevirtual 97) 3 17 3 811, xP 103 (.iload_n 3) 1, xP 104 (.istore_n 2) 1, xP 105 (.iconst 2) 1, xP 106 (.iload_n 2) 1, xP 107 .imul 1, xP 108 (.iconst 1) 1, xP 109 .iadd 1, xP 110 (.istore_n 3) 1, xP 111 (.goto (-107)) 3, xP 114 (.aload_n 0) 1, xP 115 (.iload_n 2) 1, xP 116 (.iload_n 1) 1, xQ 117 (.invokevirtual 97) 3 17 3 811, xP 120 .return_ 1]
/-- SofaStair$Pad.<init> -/
noncomputable def xc_21 : List (Nat × xa_I) := [xP 0 (.aload_n 0) 1, xQ 1 (.invokespecial 3) 3 9999 1 108, xP 4 (.aload_n 0) 1, xP 5 (.bipush 60) 2, xP 7 (.newarray .int) 2, xQ 9 (.putfield 9) 3 2 0 109, xP 12 .return_ 1]
/-- SofaStair$Pad.isFull -/
noncomputable def xc_22 : List (Nat × xa_I) := [xP 0 (.aload_n 0) 1, xQ 1 (.getfield 15) 3 2 1 110, xP 4 (.aload_n 0) 1, xQ 5 (.getfield 9) 3 2 0 109, xP 8 .arraylength 1, xP 9 (.if_icmp .lt 7) 3, xP 12 (.iconst 1) 1, xP 13 (.goto 4) 3, xP 16 (.iconst 0) 1, xP 17 .ireturn 1]
/-- SofaStair$Pad.add -/
noncomputable def xc_23 : List (Nat × xa_I) := [xP 0 (.aload_n 0) 1, xQ 1 (.getfield 9) 3 2 0 109, xP 4 (.aload_n 0) 1, xQ 5 (.getfield 15) 3 2 1 110, xP 8 (.iload_n 1) 1, xQ 9 (.invokestatic 19) 3 131 3 451, xP 12 (.aload_n 0) 1, xP 13 .dup 1, xQ 14 (.getfield 15) 3 2 1 110, xP 17 (.iconst 1) 1, xP 18 .iadd 1, xQ 19 (.putfield 15) 3 2 1 110, xP 22 (.aload_n 0) 1, xQ 23 (.getfield 15) 3 2 1 110, xP 26 .ireturn 1]
/-- SofaStair$Pad.clear -/
noncomputable def xc_24 : List (Nat × xa_I) := [xP 0 (.aload_n 0) 1, xQ 1 (.getfield 15) 3 2 1 110, xP 4 (.istore_n 1) 1, xP 5 (.aload_n 0) 1, xP 6 (.iconst 0) 1, xQ 7 (.putfield 15) 3 2 1 110, xP 10 (.iload_n 1) 1, xP 11 .ireturn 1]
/-- SofaStair$Pad.digitAt -/
noncomputable def xc_25 : List (Nat × xa_I) := [xP 0 (.aload_n 0) 1, xQ 1 (.getfield 9) 3 2 0 109, xP 4 (.iload_n 1) 1, xQ 5 (.invokestatic 23) 3 130 2 479, xP 8 (.bipush 48) 2, xP 10 .isub 1, xP 11 .ireturn 1]
/-- SofaStair$Pad.groupAt -/
noncomputable def xc_26 : List (Nat × xa_I) := [xP 0 (.aload_n 0) 1, xQ 1 (.getfield 9) 3 2 0 109, xP 4 (.iload_n 1) 1, xQ 5 (.invokestatic 23) 3 130 2 479, xP 8 (.istore_n 2) 1, xP 9 (.iload_n 2) 1, xP 10 (.bipush 45) 2, xP 12 (.if_icmp .ne 5) 3, xP 15 (.iconst 0) 1, xP 16 .ireturn 1, xP 17 (.iload_n 2) 1, xP 18 (.bipush 97) 2, xP 20 (.if_icmp .lt 18) 3, xP 23 (.iload_n 2) 1, xP 24 (.bipush 101) 2, xP 26 (.if_icmp .ge 12) 3, xP 29 (.iload_n 2) 1, xP 30 (.bipush 97) 2, xP 32 .isub 1, xP 33 (.iconst 1) 1, xP 34 .iadd 1, xP 35 (.goto 5) 3, xP 38 (.bipush (-6)) 2, xP 40 .ireturn 1]
/-- SofaStair$Pad.moveAt -/
noncomputable def xc_27 : List (Nat × xa_I) := [xQ 0 (.ldc 27) 2 0 1 503, xP 2 (.aload_n 0) 1, xQ 3 (.getfield 9) 3 2 0 109, xP 6 (.iload_n 1) 1, xQ 7 (.invokestatic 23) 3 130 2 479, xP 10 .i2c 1, xQ 11 (.invokevirtual 29) 3 5000 2 504, xP 14 .ireturn 1]
/-- SofaStair$Pad.rowFault -/
noncomputable def xc_28 : List (Nat × xa_I) := [xP 0 (.iconst 0) 1, xP 1 (.istore_n 1) 1, xP 2 (.iload_n 1) 1, xP 3 (.aload_n 0) 1, xQ 4 (.getfield 15) 3 2 1 110, xP 7 (.if_icmp .ge 25) 3, xP 10 (.iload_n 1) 1, xP 11 (.bipush 40) 2, xP 13 (.if_icmp .ge 11) 3, xP 16 (.aload_n 0) 1, xP 17 (.iload_n 1) 1, xQ 18 (.invokevirtual 35) 3 27 2 499, xP 21 (.ifCond .ge 5) 3, xP 24 (.iload_n 1) 1, xP 25 .ireturn 1, xP 26 (.iinc 1 1) 3, xP 29 (.goto (-27)) 3, xP 32 (.bipush (-6)) 2, xP 34 .ireturn 1]
/-- SofaStair$Pad.thingFault -/
noncomputable def xc_29 : List (Nat × xa_I) := [xP 0 (.iconst 0) 1, xP 1 (.istore_n 1) 1, xP 2 (.iload_n 1) 1, xP 3 (.aload_n 0) 1, xQ 4 (.getfield 15) 3 2 1 110, xP 7 (.if_icmp .ge 19) 3, xP 10 (.aload_n 0) 1, xP 11 (.iload_n 1) 1, xQ 12 (.invokevirtual 38) 3 30 2 471, xP 15 (.ifCond .ne 5) 3, xP 18 (.iload_n 1) 1, xP 19 .ireturn 1, xP 20 (.iinc 1 1) 3, xP 23 (.goto (-21)) 3, xP 26 (.aload_n 0) 1, xQ 27 (.getfield 15) 3 2 1 110, xP 30 (.ifCond .le 16) 3, xP 33 (.aload_n 0) 1, xQ 34 (.getfield 15) 3 2 1 110, xP 37 (.iconst 4) 1, xP 38 .irem 1, xP 39 (.ifCond .ne 7) 3, xP 42 (.iconst 1) 1, xP 43 (.goto 4) 3, xP 46 (.iconst 0) 1, xP 47 (.istore_n 1) 1, xP 48 (.iload_n 1) 1, xP 49 (.ifCond .eq 15) 3, xP 52 (.aload_n 0) 1, xQ 53 (.invokevirtual 42) 3 32 1 488, xP 56 (.ifCond .eq 8) 3, xP 59 (.bipush (-6)) 2, xP 61 (.goto 7) 3, xP 64 (.aload_n 0) 1, xQ 65 (.getfield 15) 3 2 1 110, xP 68 .ireturn 1]
/-- SofaStair$Pad.standsInThing -/
noncomputable def xc_30 : List (Nat × xa_I) := [xP 0 (.iload_n 1) 1, xP 1 (.bipush 40) 2, xP 3 (.if_icmp .lt 5) 3, xP 6 (.iconst 0) 1, xP 7 .ireturn 1, xP 8 (.iload_n 1) 1, xP 9 (.iconst 4) 1, xP 10 .irem 1, xP 11 (.istore_n 2) 1, xP 12 (.iload_n 2) 1, xP 13 (.iconst 3) 1, xP 14 (.if_icmp .ne 28) 3, xP 17 (.aload_n 0) 1, xP 18 (.iload_n 1) 1, xQ 19 (.invokevirtual 46) 3 26 2 475, xP 22 (.istore_n 3) 1, xP 23 (.iload_n 3) 1, xP 24 (.ifCond .eq 12) 3, xP 27 (.iload_n 1) 1, xP 28 (.iconst 3) 1, xP 29 (.if_icmp .le 11) 3, xP 32 (.iload_n 3) 1, xP 33 (.ifCond .le 7) 3, xP 36 (.iconst 1) 1, xP 37 (.goto 4) 3, xP 40 (.iconst 0) 1, xP 41 .ireturn 1, xP 42 (.aload_n 0) 1, xP 43 (.iload_n 1) 1, xQ 44 (.invokevirtual 49) 3 25 2 480, xP 47 (.ifCond .lt 16) 3, xP 50 (.aload_n 0) 1, xP 51 (.iload_n 1) 1, xQ 52 (.invokevirtual 49) 3 25 2 480, xP 55 (.iconst 3) 1, xP 56 (.if_icmp .gt 7) 3, xP 59 (.iconst 1) 1, xP 60 (.goto 4) 3, xP 63 (.iconst 0) 1, xP 64 (.istore_n 3) 1, xP 65 (.iload_n 3) 1, xP 66 (.ifCond .eq 22) 3, xP 69 (.iload_n 2) 1, xP 70 (.iconst 2) 1, xP 71 (.if_icmp .lt 13) 3, xP 74 (.aload_n 0) 1, xP 75 (.iload_n 1) 1, xP 76 (.iconst 2) 1, xP 77 .isub 1, xQ 78 (.invokevirtual 52) 3 31 2 484, xP 81 (.ifCond .ne 7) 3, xP 84 (.iconst 1) 1, xP 85 (.goto 4) 3, xP 88 (.iconst 0) 1, xP 89 .ireturn 1]
/-- SofaStair$Pad.isThere -/
noncomputable def xc_31 : List (Nat × xa_I) := [xP 0 (.iconst 0) 1, xP 1 (.istore_n 2) 1, xP 2 (.iload_n 2) 1, xP 3 (.iload_n 1) 1, xP 4 (.if_icmp .ge 58) 3, xP 7 (.aload_n 0) 1, xP 8 (.iload_n 2) 1, xQ 9 (.invokevirtual 49) 3 25 2 480, xP 12 (.aload_n 0) 1, xP 13 (.iload_n 1) 1, xQ 14 (.invokevirtual 49) 3 25 2 480, xP 17 (.if_icmp .ne 39) 3, xP 20 (.aload_n 0) 1, xP 21 (.iload_n 2) 1, xP 22 (.iconst 1) 1, xP 23 .iadd 1, xQ 24 (.invokevirtual 49) 3 25 2 480, xP 27 (.aload_n 0) 1, xP 28 (.iload_n 1) 1, xP 29 (.iconst 1) 1, xP 30 .iadd 1, xQ 31 (.invokevirtual 49) 3 25 2 480, xP 34 (.if_icmp .ne 22) 3, xP 37 (.aload_n 0) 1, xP 38 (.iload_n 2) 1, xP 39 (.iconst 2) 1, xP 40 .iadd 1, xQ 41 (.invokevirtual 49) 3 25 2 480, xP 44 (.aload_n 0) 1, xP 45 (.iload_n 1) 1, xP 46 (.iconst 2) 1, xP 47 .iadd 1, xQ 48 (.invokevirtual 49) 3 25 2 480, xP 51 (.if_icmp .ne 5) 3, xP 54 (.iconst 1) 1, xP 55 .ireturn 1, xP 56 (.iinc 2 4) 3, xP 59 (.goto (-57)) 3, xP 62 (.iconst 0) 1, xP 63 .ireturn 1]
/-- SofaStair$Pad.leastIsZero -/
noncomputable def xc_32 : List (Nat × xa_I) := [xP 0 (.iconst 0) 1, xP 1 (.istore_n 1) 1, xP 2 (.iload_n 1) 1, xP 3 (.iconst 3) 1, xP 4 (.if_icmp .ge 43) 3, xP 7 (.iconst 3) 1, xP 8 (.istore_n 2) 1, xP 9 (.iload_n 1) 1, xP 10 (.istore_n 3) 1, xP 11 (.iload_n 3) 1, xP 12 (.aload_n 0) 1, xQ 13 (.getfield 15) 3 2 1 110, xP 16 (.if_icmp .ge 19) 3, xP 19 (.iload_n 2) 1, xP 20 (.aload_n 0) 1, xP 21 (.iload_n 3) 1, xQ 22 (.invokevirtual 49) 3 25 2 480, xQ 25 (.invokestatic 55) 3 5005 2 492, xP 28 (.istore_n 2) 1, xP 29 (.iinc 3 4) 3, xP 32 (.goto (-21)) 3, xP 35 (.iload_n 2) 1, xP 36 (.ifCond .le 5) 3, xP 39 (.iconst 0) 1, xP 40 .ireturn 1, xP 41 (.iinc 1 1) 3, xP 44 (.goto (-42)) 3, xP 47 (.iconst 1) 1, xP 48 .ireturn 1]
/-- SofaStair$Search.<init> -/
noncomputable def xc_33 : List (Nat × xa_I) := [xP 0 (.aload_n 0) 1, xQ 1 (.invokespecial 3) 3 9999 1 267, xP 4 (.aload_n 0) 1, xP 5 (.sipush 1089) 3, xP 8 (.newarray .int) 2, xQ 10 (.putfield 11) 3 3 2 278, xP 13 (.aload_n 0) 1, xP 14 (.sipush 144) 3, xP 17 (.newarray .int) 2, xQ 19 (.putfield 15) 3 3 3 279, xP 22 (.aload_n 0) 1, xP 23 (.sipush 240) 3, xP 26 (.newarray .int) 2, xQ 28 (.putfield 18) 3 3 4 280, xP 31 (.aload_n 0) 1, xP 32 (.sipush 3456) 3, xP 35 (.newarray .int) 2, xQ 37 (.putfield 21) 3 3 5 281, xP 40 (.aload_n 0) 1, xP 41 (.sipush 3456) 3, xP 44 (.newarray .int) 2, xQ 46 (.putfield 24) 3 3 6 282, xP 49 (.aload_n 0) 1, xP 50 (.sipush 3456) 3, xP 53 (.newarray .int) 2, xQ 55 (.putfield 27) 3 3 7 283, xP 58 (.aload_n 0) 1, xP 59 (.aload_n 1) 1, xQ 60 (.putfield 30) 3 3 0 276, xP 63 (.aload_n 0) 1, xP 64 (.aload_n 2) 1, xQ 65 (.putfield 34) 3 3 1 277, xP 68 (.aload_n 0) 1, xQ 69 (.getfield 27) 3 3 7 283, xP 72 (.iconst (-1)) 1, xQ 73 (.invokestatic 38) 3 0 2 268, xP 76 (.iconst 0) 1, xP 77 (.istore_n 3) 1, xP 78 (.iload_n 3) 1, xP 79 (.sipush 144) 3, xP 82 (.if_icmp .ge 32) 3, xP 85 (.aload_n 0) 1, xQ 86 (.getfield 15) 3 3 3 279, xP 89 (.iload_n 3) 1, xP 90 (.iload_n 3) 1, xQ 91 (.invokestatic 44) 3 133 1 269, xP 94 (.iload_n 3) 1, xQ 95 (.invokestatic 48) 3 134 1 270, xP 98 (.iload_n 3) 1, xQ 99 (.invokestatic 51) 3 135 1 271, xQ 102 (.invokestatic 54) 3 49 3 272, xQ 105 (.invokestatic 58) 3 131 3 275, xP 108 (.iinc 3 1) 3, xP 111 (.goto (-33)) 3, xP 114 .return_ 1]
/-- SofaStair$Search.forget -/
noncomputable def xc_34 : List (Nat × xa_I) := [xP 0 (.aload_n 0) 1, xP 1 .aconst_null 1, xQ 2 (.putfield 62) 3 3 8 284, xP 5 .return_ 1]
/-- SofaStair$Search.about -/
noncomputable def xc_35 : List (Nat × xa_I) := [xP 0 (.aload_n 0) 1, xQ 1 (.getfield 62) 3 3 8 284, xP 4 (.aload_n 1) 1, xP 5 (.if_acmp .ne 4) 3, xP 8 .return_ 1, xP 9 (.aload_n 0) 1, xP 10 (.aload_n 1) 1, xQ 11 (.putfield 62) 3 3 8 284, xP 14 (.aload_n 0) 1, xQ 15 (.getfield 21) 3 3 5 281, xP 18 (.iconst (-1)) 1, xQ 19 (.invokestatic 38) 3 0 2 268, xP 22 (.aload_n 0) 1, xQ 23 (.invokevirtual 66) 3 47 1 649, xP 26 (.iconst 0) 1, xP 27 (.istore_n 2) 1, xP 28 (.iload_n 2) 1, xP 29 (.bipush 24) 2, xP 31 (.if_icmp .ge 74) 3, xP 34 (.iconst 0) 1, xP 35 (.istore_n 3) 1, xP 36 (.iload_n 3) 1, xP 37 (.aload_n 1) 1, xQ 38 (.getfield 69) 3 5 0 178, xP 41 (.if_icmp .ge 58) 3, xP 44 (.aload_n 0) 1, xQ 45 (.getfield 18) 3 3 4 280, xP 48 (.iload_n 2) 1, xP 49 (.bipush 10) 2, xP 51 .imul 1, xP 52 (.iload_n 3) 1, xP 53 .iadd 1, xP 54 (.aload_n 1) 1, xP 55 (.aload_n 0) 1, xQ 56 (.getfield 30) 3 3 0 276, xP 59 (.iload_n 2) 1, xP 60 (.iload_n 3) 1, xP 61 (.iconst 0) 1, xQ 62 (.invokevirtual 75) 3 61 5 662, xP 65 (.aload_n 1) 1, xP 66 (.aload_n 0) 1, xQ 67 (.getfield 30) 3 3 0 276, xP 70 (.iload_n 2) 1, xP 71 (.iload_n 3) 1, xP 72 (.iconst 1) 1, xQ 73 (.invokevirtual 75) 3 61 5 662, xP 76 (.aload_n 1) 1, xP 77 (.aload_n 0) 1, xQ 78 (.getfield 30) 3 3 0 276, xP 81 (.iload_n 2) 1, xP 82 (.iload_n 3) 1, xP 83 (.iconst 2) 1, xQ 84 (.invokevirtual 75) 3 61 5 662, xQ 87 (.invokestatic 54) 3 49 3 272, xQ 90 (.invokestatic 58) 3 131 3 275, xP 93 (.iinc 3 1) 3, xP 96 (.goto (-60)) 3, xP 99 (.iinc 2 1) 3, xP 102 (.goto (-74)) 3, xP 105 .return_ 1]
/-- SofaStair$Search.wall -/
noncomputable def xc_36 : List (Nat × xa_I) := [xP 0 (.iconst 0) 1, xP 1 (.istore_n 2) 1, xP 2 (.iload_n 2) 1, xP 3 (.aload_n 1) 1, xQ 4 (.getfield 69) 3 5 0 178, xP 7 (.if_icmp .ge 77) 3, xP 10 (.aload_n 1) 1, xP 11 (.aload_n 0) 1, xQ 12 (.getfield 30) 3 3 0 276, xP 15 (.aload_n 1) 1, xQ 16 (.getfield 79) 3 5 2 183, xP 19 (.iload_n 2) 1, xP 20 (.iconst 0) 1, xQ 21 (.invokevirtual 75) 3 61 5 662, xP 24 (.aload_n 1) 1, xP 25 (.aload_n 0) 1, xQ 26 (.getfield 30) 3 3 0 276, xP 29 (.aload_n 1) 1, xQ 30 (.getfield 79) 3 5 2 183, xP 33 (.iload_n 2) 1, xP 34 (.iconst 1) 1, xQ 35 (.invokevirtual 75) 3 61 5 662, xP 38 (.aload_n 1) 1, xP 39 (.aload_n 0) 1, xQ 40 (.getfield 30) 3 3 0 276, xP 43 (.aload_n 1) 1, xQ 44 (.getfield 79) 3 5 2 183, xP 47 (.iload_n 2) 1, xP 48 (.iconst 2) 1, xQ 49 (.invokevirtual 75) 3 61 5 662, xQ 52 (.invokestatic 54) 3 49 3 272, xP 55 (.istore_n 3) 1, xP 56 (.aload_n 0) 1, xQ 57 (.getfield 11) 3 3 2 278, xP 60 (.aload_n 0) 1, xQ 61 (.getfield 15) 3 3 3 279, xP 64 (.aload_n 1) 1, xQ 65 (.getfield 82) 3 5 1 182, xQ 68 (.invokestatic 85) 3 130 2 657, xP 71 (.iload_n 3) 1, xP 72 .iadd 1, xP 73 (.bipush 16) 2, xQ 75 (.invokestatic 58) 3 131 3 275, xP 78 (.iinc 2 1) 3, xP 81 (.goto (-79)) 3, xP 84 .return_ 1]
/-- SofaStair$Search.off -/
noncomputable def xc_37 : List (Nat × xa_I) := [xP 0 (.bipush 48) 2, xP 2 (.bipush 15) 2, xP 4 (.iload_n 2) 1, xP 5 (.iconst (-1)) 1, xP 6 .ixor 1, xP 7 .iand 1, xP 8 .ior 1, xP 9 (.istore_n 3) 1, xP 10 (.aload_n 0) 1, xP 11 (.iconst 0) 1, xQ 12 (.putfield 89) 3 3 9 285, xP 15 (.iconst 0) 1, xP 16 (.istore 4) 2, xP 18 (.iload 4) 2, xP 20 (.iconst 5) 1, xP 21 (.if_icmp .ge 40) 3, xP 24 (.aload_n 0) 1, xP 25 .dup 1, xQ 26 (.getfield 89) 3 3 9 285, xP 29 (.iload_n 1) 1, xP 30 (.iconst 1) 1, xP 31 .ishl 1, xP 32 (.iload 4) 2, xQ 34 (.invokestatic 92) 3 129 2 726, xP 37 (.ifCond .eq 7) 3, xP 40 (.iconst 0) 1, xP 41 (.goto 10) 3, xP 44 (.iload_n 3) 1, xP 45 (.iload 4) 2, xP 47 (.bipush 6) 2, xP 49 .imul 1, xP 50 .ishl 1, xP 51 .ior 1, xQ 52 (.putfield 89) 3 3 9 285, xP 55 (.iinc 4 1) 3, xP 58 (.goto (-40)) 3, xP 61 .return_ 1]
/-- SofaStair$Search.fits -/
noncomputable def xc_38 : List (Nat × xa_I) := [xP 0 (.aload_n 0) 1, xQ 1 (.getfield 21) 3 3 5 281, xP 4 (.iload_n 1) 1, xQ 5 (.invokestatic 85) 3 130 2 657, xP 8 (.istore_n 2) 1, xP 9 (.iload_n 2) 1, xP 10 (.iconst (-1)) 1, xP 11 (.if_icmp .ne 18) 3, xP 14 (.aload_n 0) 1, xP 15 (.iload_n 1) 1, xQ 16 (.invokevirtual 96) 3 46 2 668, xP 19 (.istore_n 2) 1, xP 20 (.aload_n 0) 1, xQ 21 (.getfield 21) 3 3 5 281, xP 24 (.iload_n 1) 1, xP 25 (.iload_n 2) 1, xQ 26 (.invokestatic 58) 3 131 3 275, xP 29 (.iload_n 2) 1, xP 30 (.aload_n 0) 1, xQ 31 (.getfield 89) 3 3 9 285, xP 34 .iand 1, xP 35 (.ifCond .ne 7) 3, xP 38 (.iconst 1) 1, xP 39 (.goto 4) 3, xP 42 (.iconst 0) 1, xP 43 .ireturn 1]
/-- SofaStair$Search.why -/
noncomputable def xc_39 : List (Nat × xa_I) := [xP 0 (.iload_n 1) 1, xP 1 (.ifCond .ge 8) 3, xQ 4 (.ldc 99) 2 545392672 0 667, xP 6 (.goto 8) 3, xP 9 (.aload_n 0) 1, xP 10 (.iload_n 1) 1, xQ 11 (.invokevirtual 96) 3 46 2 668, xP 14 (.istore_n 2) 1, xP 15 (.iload_n 2) 1, xQ 16 (.ldc 99) 2 545392672 0 667, xP 18 .iand 1, xP 19 (.ifCond .eq 7) 3, xP 22 (.iconst 1) 1, xP 23 (.goto 12) 3, xP 26 (.iload_n 2) 1, xP 27 (.ifCond .eq 7) 3, xP 30 (.iconst 2) 1, xP 31 (.goto 4) 3, xP 34 (.iconst 0) 1, xP 35 .ireturn 1]
/-- SofaStair$Search.step -/
noncomputable def xc_40 : List (Nat × xa_I) := [xP 0 (.iload_n 1) 1, xP 1 (.bipush 24) 2, xP 3 .idiv 1, xP 4 (.istore_n 3) 1, xP 5 (.iload_n 1) 1, xP 6 (.bipush 24) 2, xP 8 .irem 1, xP 9 (.istore 4) 2, xP 11 (.iload_n 2) 1, xP 12 (.bipush 6) 2, xP 14 (.if_icmp .lt 22) 3, xP 17 (.iload_n 3) 1, xP 18 (.bipush 24) 2, xP 20 .imul 1, xP 21 (.aload_n 0) 1, xQ 22 (.getfield 30) 3 3 0 276, xP 25 (.iload 4) 2, xP 27 (.iload_n 2) 1, xP 28 (.bipush 6) 2, xP 30 .isub 1, xQ 31 (.invokevirtual 100) 3 65 3 698, xP 34 .iadd 1, xP 35 .ireturn 1, xP 36 (.aload_n 0) 1, xQ 37 (.getfield 34) 3 3 1 277, xP 40 (.iload_n 3) 1, xP 41 (.iload_n 2) 1, xQ 42 (.invokevirtual 106) 3 76 3 699, xP 45 (.istore 5) 2, xP 47 (.iload 5) 2, xP 49 (.ifCond .ge 8) 3, xP 52 (.bipush (-6)) 2, xP 54 (.goto 11) 3, xP 57 (.iload 5) 2, xP 59 (.bipush 24) 2, xP 61 .imul 1, xP 62 (.iload 4) 2, xP 64 .iadd 1, xP 65 .ireturn 1]
/-- SofaStair$Search.flood -/
noncomputable def xc_41 : List (Nat × xa_I) := [xP 0 (.iconst 0) 1, xP 1 (.istore_n 3) 1, xP 2 (.iload_n 3) 1, xP 3 (.aload_n 0) 1, xQ 4 (.getfield 111) 3 3 10 286, xP 7 (.if_icmp .ge 32) 3, xP 10 (.iload_n 3) 1, xP 11 (.aload_n 0) 1, xQ 12 (.getfield 24) 3 3 6 282, xP 15 .arraylength 1, xP 16 (.if_icmp .ge 23) 3, xP 19 (.aload_n 0) 1, xQ 20 (.getfield 27) 3 3 7 283, xP 23 (.aload_n 0) 1, xQ 24 (.getfield 24) 3 3 6 282, xP 27 (.iload_n 3) 1, xP 28 .iaload 1, xP 29 (.iconst (-1)) 1, xQ 30 (.invokestatic 58) 3 131 3 275, xP 33 (.iinc 3 1) 3, xP 36 (.goto (-34)) 3, xP 39 (.aload_n 0) 1, xP 40 (.iconst 0) 1, xQ 41 (.putfield 111) 3 3 10 286, xP 44 (.aload_n 0) 1, xP 45 (.iload_n 1) 1, xQ 46 (.invokevirtual 114) 3 38 2 737, xP 49 (.ifCond .eq 10) 3, xP 52 (.aload_n 0) 1, xP 53 (.iload_n 1) 1, xP 54 (.bipush 12) 2, xQ 56 (.invokevirtual 118) 3 45 3 741, xP 59 (.iconst 0) 1, xP 60 (.istore_n 3) 1, xP 61 (.iload_n 3) 1, xP 62 (.aload_n 0) 1, xQ 63 (.getfield 111) 3 3 10 286, xP 66 (.if_icmp .ge 99) 3, xP 69 (.iload_n 3) 1, xP 70 (.aload_n 0) 1, xQ 71 (.getfield 24) 3 3 6 282, xP 74 .arraylength 1, xP 75 (.if_icmp .ge 90) 3, xP 78 (.aload_n 0) 1, xQ 79 (.getfield 24) 3 3 6 282, xP 82 (.iload_n 3) 1, xP 83 .iaload 1, xP 84 (.istore 4) 2, xP 86 (.iload 4) 2, xP 88 (.bipush 24) 2, xP 90 .idiv 1, xP 91 (.iload_n 2) 1, xP 92 (.if_icmp .ne 6) 3, xP 95 (.iload 4) 2, xP 97 .ireturn 1, xP 98 (.iconst 0) 1, xP 99 (.istore 5) 2, xP 101 (.iload 5) 2, xP 103 (.bipush 12) 2, xP 105 (.if_icmp .ge 54) 3, xP 108 (.aload_n 0) 1, xP 109 (.iload 4) 2, xP 111 (.iload 5) 2, xQ 113 (.invokevirtual 122) 3 40 3 745, xP 116 (.istore 6) 2, xP 118 (.iload 6) 2, xP 120 (.ifCond .lt 33) 3, xP 123 (.aload_n 0) 1, xQ 124 (.getfield 27) 3 3 7 283, xP 127 (.iload 6) 2, xQ 129 (.invokestatic 85) 3 130 2 657, xP 132 (.iconst (-1)) 1, xP 133 (.if_icmp .ne 20) 3, xP 136 (.aload_n 0) 1, xP 137 (.iload 6) 2, xQ 139 (.invokevirtual 114) 3 38 2 737, xP 142 (.ifCond .eq 11) 3, xP 145 (.aload_n 0) 1, xP 146 (.iload 6) 2, xP 148 (.iload 5) 2, xQ 150 (.invokevirtual 118) 3 45 3 741, xP 153 (.iinc 5 1) 3, xP 156 (.goto (-55)) 3, xP 159 (.iinc 3 1) 3, xP 162 (.goto (-101)) 3, xP 165 (.bipush (-6)) 2, xP 167 .ireturn 1]
/-- SofaStair$Search.trace -/
noncomputable def xc_42 : List (Nat × xa_I) := [xP 0 (.iconst 0) 1, xP 1 (.istore_n 3) 1, xP 2 (.iload_n 1) 1, xP 3 (.istore 4) 2, xP 5 (.iload_n 3) 1, xP 6 (.sipush 3456) 3, xP 9 (.if_icmp .ge 43) 3, xP 12 (.aload_n 0) 1, xQ 13 (.getfield 27) 3 3 7 283, xP 16 (.iload 4) 2, xQ 18 (.invokestatic 85) 3 130 2 657, xP 21 (.bipush 12) 2, xP 23 (.if_icmp .ge 29) 3, xP 26 (.aload_n 0) 1, xP 27 (.iload 4) 2, xP 29 (.aload_n 0) 1, xQ 30 (.getfield 27) 3 3 7 283, xP 33 (.iload 4) 2, xQ 35 (.invokestatic 85) 3 130 2 657, xQ 38 (.invokestatic 125) 3 43 1 754, xQ 41 (.invokevirtual 122) 3 40 3 745, xP 44 (.istore 4) 2, xP 46 (.iinc 3 1) 3, xP 49 (.goto (-44)) 3, xP 52 (.aload_n 2) 1, xQ 53 (.invokevirtual 128) 3 7 1 757, xP 56 (.aload_n 2) 1, xP 57 (.iload_n 3) 1, xQ 58 (.putfield 133) 3 0 2 346, xP 61 (.iload_n 1) 1, xP 62 (.istore 4) 2, xP 64 (.iload_n 3) 1, xP 65 (.iconst 1) 1, xP 66 .isub 1, xP 67 (.istore 5) 2, xP 69 (.iload 5) 2, xP 71 (.ifCond .lt 47) 3, xP 74 (.aload_n 0) 1, xQ 75 (.getfield 27) 3 3 7 283, xP 78 (.iload 4) 2, xQ 80 (.invokestatic 85) 3 130 2 657, xP 83 (.istore 6) 2, xP 85 (.aload_n 2) 1, xQ 86 (.getfield 136) 3 0 0 343, xP 89 (.iload 5) 2, xP 91 (.iload 6) 2, xQ 93 (.invokestatic 139) 3 44 1 758, xQ 96 (.invokestatic 58) 3 131 3 275, xP 99 (.aload_n 0) 1, xP 100 (.iload 4) 2, xP 102 (.iload 6) 2, xQ 104 (.invokestatic 125) 3 43 1 754, xQ 107 (.invokevirtual 122) 3 40 3 745, xP 110 (.istore 4) 2, xP 112 (.iinc 5 (-1)) 3, xP 115 (.goto (-46)) 3, xP 118 .return_ 1]
/-- SofaStair$Search.opposite -/
noncomputable def xc_43 : List (Nat × xa_I) := [xP 0 (.iload_n 0) 1, xP 1 (.bipush 6) 2, xP 3 (.if_icmp .ge 7) 3, xP 6 (.iload_n 0) 1, xP 7 (.iconst 1) 1, xP 8 .ixor 1, xP 9 .ireturn 1, xP 10 (.iload_n 0) 1, xP 11 (.bipush 9) 2, xP 13 (.if_icmp .ge 9) 3, xP 16 (.iload_n 0) 1, xP 17 (.iconst 3) 1, xP 18 .iadd 1, xP 19 (.goto 6) 3, xP 22 (.iload_n 0) 1, xP 23 (.iconst 3) 1, xP 24 .isub 1, xP 25 .ireturn 1]
/-- SofaStair$Search.signOf -/
noncomputable def xc_44 : List (Nat × xa_I) := [xP 0 (.iload_n 0) 1, xP 1 (.ifCond .lt 21) 3, xP 4 (.iload_n 0) 1, xQ 5 (.ldc 142) 2 1 1 761, xQ 7 (.invokevirtual 144) 3 5002 1 762, xP 10 (.if_icmp .ge 12) 3, xQ 13 (.ldc 142) 2 1 1 761, xP 15 (.iload_n 0) 1, xQ 16 (.invokevirtual 150) 3 5001 2 763, xP 19 (.goto 5) 3, xP 22 (.bipush (-6)) 2, xP 24 .ireturn 1]
/-- SofaStair$Search.reach -/
noncomputable def xc_45 : List (Nat × xa_I) := [xP 0 (.aload_n 0) 1, xQ 1 (.getfield 27) 3 3 7 283, xP 4 (.iload_n 1) 1, xP 5 (.iload_n 2) 1, xQ 6 (.invokestatic 58) 3 131 3 275, xP 9 (.aload_n 0) 1, xQ 10 (.getfield 24) 3 3 6 282, xP 13 (.aload_n 0) 1, xQ 14 (.getfield 111) 3 3 10 286, xP 17 (.iload_n 1) 1, xQ 18 (.invokestatic 58) 3 131 3 275, xP 21 (.aload_n 0) 1, xP 22 .dup 1, xQ 23 (.getfield 111) 3 3 10 286, xP 26 (.iconst 1) 1, xP 27 .iadd 1, xQ 28 (.putfield 111) 3 3 10 286, xP 31 .return_ 1]
/-- SofaStair$Search.lookAt -/
noncomputable def xc_46 : List (Nat × xa_I) := [xP 0 (.iconst 0) 1, xP 1 (.istore_n 2) 1, xP 2 (.aload_n 0) 1, xQ 3 (.getfield 62) 3 3 8 284, xP 6 (.ifnull 89) 3, xP 9 (.aload_n 0) 1, xQ 10 (.getfield 15) 3 3 3 279, xP 13 (.iload_n 1) 1, xP 14 (.bipush 24) 2, xP 16 .idiv 1, xQ 17 (.invokestatic 85) 3 130 2 657, xP 20 (.istore_n 3) 1, xP 21 (.iload_n 1) 1, xP 22 (.bipush 24) 2, xP 24 .irem 1, xP 25 (.bipush 10) 2, xP 27 .imul 1, xP 28 (.istore 4) 2, xP 30 (.iconst 0) 1, xP 31 (.istore 5) 2, xP 33 (.iload 5) 2, xP 35 (.aload_n 0) 1, xQ 36 (.getfield 62) 3 3 8 284, xQ 39 (.getfield 69) 3 5 0 178, xP 42 (.if_icmp .ge 53) 3, xP 45 (.aload_n 0) 1, xQ 46 (.getfield 11) 3 3 2 278, xP 49 (.iload_n 3) 1, xP 50 (.aload_n 0) 1, xQ 51 (.getfield 18) 3 3 4 280, xP 54 (.iload 4) 2, xP 56 (.iload 5) 2, xP 58 .iadd 1, xQ 59 (.invokestatic 85) 3 130 2 657, xP 62 .iadd 1, xQ 63 (.invokestatic 85) 3 130 2 657, xP 66 (.istore 6) 2, xP 68 (.iload_n 2) 1, xP 69 (.iload 6) 2, xP 71 (.aload_n 0) 1, xQ 72 (.getfield 62) 3 3 8 284, xQ 75 (.getfield 154) 3 5 5 190, xP 78 (.iload 5) 2, xQ 80 (.invokestatic 85) 3 130 2 657, xP 83 (.bipush 6) 2, xP 85 .imul 1, xP 86 .ishl 1, xP 87 .ior 1, xP 88 (.istore_n 2) 1, xP 89 (.iinc 5 1) 3, xP 92 (.goto (-59)) 3, xP 95 (.iload_n 2) 1, xP 96 .ireturn 1]
/-- SofaStair$Search.drawGrid -/
noncomputable def xc_47 : List (Nat × xa_I) := [xP 0 (.aload_n 0) 1, xQ 1 (.getfield 11) 3 3 2 278, xP 4 (.bipush 32) 2, xQ 6 (.invokestatic 38) 3 0 2 268, xP 9 (.iconst 0) 1, xP 10 (.istore_n 1) 1, xP 11 (.iload_n 1) 1, xP 12 (.sipush 144) 3, xP 15 (.if_icmp .ge 46) 3, xP 18 (.aload_n 0) 1, xQ 19 (.getfield 34) 3 3 1 277, xP 22 (.iload_n 1) 1, xQ 23 (.invokevirtual 157) 3 75 2 653, xP 26 (.ifCond .eq 29) 3, xP 29 (.aload_n 0) 1, xQ 30 (.getfield 11) 3 3 2 278, xP 33 (.aload_n 0) 1, xQ 34 (.getfield 15) 3 3 3 279, xP 37 (.iload_n 1) 1, xQ 38 (.invokestatic 85) 3 130 2 657, xP 41 (.aload_n 0) 1, xQ 42 (.getfield 34) 3 3 1 277, xP 45 (.iload_n 1) 1, xQ 46 (.invokevirtual 160) 3 77 2 658, xQ 49 (.invokestatic 163) 3 48 1 659, xQ 52 (.invokestatic 58) 3 131 3 275, xP 55 (.iinc 1 1) 3, xP 58 (.goto (-47)) 3, xP 61 .return_ 1]
/-- SofaStair$Search.hindranceOf -/
noncomputable def xc_48 : List (Nat × xa_I) := [xP 0 (.iload_n 0) 1, xP 1 (.ifCond .ne 7) 3, xP 4 (.iconst 0) 1, xP 5 (.goto 18) 3, xP 8 (.iload_n 0) 1, xP 9 (.iconst 1) 1, xP 10 (.if_icmp .ne 8) 3, xP 13 (.bipush 16) 2, xP 15 (.goto 8) 3, xP 18 (.iconst 1) 1, xP 19 (.iload_n 0) 1, xP 20 (.iconst 2) 1, xP 21 .isub 1, xP 22 .ishl 1, xP 23 .ireturn 1]
/-- SofaStair$Search.gridAt -/
noncomputable def xc_49 : List (Nat × xa_I) := [xP 0 (.iload_n 0) 1, xP 1 (.bipush 11) 2, xP 3 .imul 1, xP 4 (.iload_n 1) 1, xP 5 .iadd 1, xP 6 (.bipush 9) 2, xP 8 .imul 1, xP 9 (.iload_n 2) 1, xP 10 .iadd 1, xP 11 .ireturn 1]
/-- SofaStair$Stair.<init> -/
noncomputable def xc_50 : List (Nat × xa_I) := [xP 0 (.aload_n 0) 1, xQ 1 (.invokespecial 3) 3 9999 1 124, xP 4 (.aload_n 0) 1, xP 5 (.new 9) 3, xP 8 .dup 1, xQ 9 (.invokespecial 11) 3 69 1 127, xQ 12 (.putfield 12) 3 4 0 213, xP 15 (.aload_n 0) 1, xP 16 (.iconst 4) 1, xP 17 (.anewarray 18) 3, xQ 20 (.putfield 20) 3 4 1 215, xP 23 (.aload_n 0) 1, xP 24 (.iconst 4) 1, xP 25 (.newarray .int) 2, xQ 27 (.putfield 24) 3 4 2 216, xP 30 (.aload_n 0) 1, xP 31 (.iconst 4) 1, xP 32 (.newarray .int) 2, xQ 34 (.putfield 28) 3 4 3 218, xP 37 (.iconst 0) 1, xP 38 (.istore_n 1) 1, xP 39 (.iload_n 1) 1, xP 40 (.iconst 4) 1, xP 41 (.if_icmp .ge 22) 3, xP 44 (.aload_n 0) 1, xQ 45 (.getfield 20) 3 4 1 215, xP 48 (.iload_n 1) 1, xP 49 (.new 18) 3, xP 52 .dup 1, xQ 53 (.invokespecial 31) 3 54 1 170, xP 56 .aastore 1, xP 57 (.iinc 1 1) 3, xP 60 (.goto (-21)) 3, xP 63 (.aload_n 0) 1, xQ 64 (.getfield 24) 3 4 2 216, xP 67 (.iconst 1) 1, xQ 68 (.invokestatic 32) 3 0 2 212, xP 71 (.aload_n 0) 1, xQ 72 (.getfield 28) 3 4 3 218, xP 75 (.iconst 1) 1, xQ 76 (.invokestatic 32) 3 0 2 212, xP 79 .return_ 1]
/-- SofaStair$Stair.thingAt -/
noncomputable def xc_51 : List (Nat × xa_I) := [xP 0 (.iload_n 1) 1, xP 1 (.ifCond .lt 21) 3, xP 4 (.iload_n 1) 1, xP 5 (.aload_n 0) 1, xQ 6 (.getfield 20) 3 4 1 215, xP 9 .arraylength 1, xP 10 (.if_icmp .ge 12) 3, xP 13 (.aload_n 0) 1, xQ 14 (.getfield 20) 3 4 1 215, xP 17 (.iload_n 1) 1, xP 18 .aaload 1, xP 19 (.goto 4) 3, xP 22 .aconst_null 1, xP 23 .areturn 1]
/-- SofaStair$Stair.costsOf -/
noncomputable def xc_52 : List (Nat × xa_I) := [xP 0 (.aload_n 0) 1, xP 1 (.iload_n 1) 1, xQ 2 (.invokevirtual 38) 3 51 2 631, xP 5 (.astore_n 2) 1, xP 6 (.aload_n 2) 1, xP 7 (.ifnull 8) 3, xP 10 (.aload_n 2) 1, xQ 11 (.getfield 42) 3 5 7 193, xP 14 .areturn 1, xP 15 (.iload_n 1) 1, xP 16 (.iconst (-1)) 1, xP 17 (.if_icmp .ne 10) 3, xP 20 (.aload_n 0) 1, xQ 21 (.getfield 24) 3 4 2 216, xP 24 (.goto 17) 3, xP 27 (.iload_n 1) 1, xP 28 (.bipush (-2)) 2, xP 30 (.if_icmp .ne 10) 3, xP 33 (.aload_n 0) 1, xQ 34 (.getfield 28) 3 4 3 218, xP 37 (.goto 4) 3, xP 40 .aconst_null 1, xP 41 .areturn 1]
/-- SofaStair$Stair.copyFrom -/
noncomputable def xc_53 : List (Nat × xa_I) := [xP 0 (.aload_n 0) 1, xQ 1 (.getfield 12) 3 4 0 213, xP 4 (.aload_n 1) 1, xQ 5 (.getfield 12) 3 4 0 213, xQ 8 (.invokevirtual 45) 3 71 2 965, xP 11 (.aload_n 1) 1, xQ 12 (.getfield 24) 3 4 2 216, xP 15 (.aload_n 0) 1, xQ 16 (.getfield 24) 3 4 2 216, xQ 19 (.invokestatic 49) 3 132 2 972, xP 22 (.aload_n 1) 1, xQ 23 (.getfield 28) 3 4 3 218, xP 26 (.aload_n 0) 1, xQ 27 (.getfield 28) 3 4 3 218, xQ 30 (.invokestatic 49) 3 132 2 972, xP 33 (.iconst 0) 1, xP 34 (.istore_n 2) 1, xP 35 (.iload_n 2) 1, xP 36 (.iconst 4) 1, xP 37 (.if_icmp .ge 37) 3, xP 40 (.aload_n 0) 1, xP 41 (.iload_n 2) 1, xQ 42 (.invokevirtual 38) 3 51 2 631, xP 45 (.astore_n 3) 1, xP 46 (.aload_n 1) 1, xP 47 (.iload_n 2) 1, xQ 48 (.invokevirtual 38) 3 51 2 631, xP 51 (.astore 4) 2, xP 53 (.aload_n 3) 1, xP 54 (.ifnull 14) 3, xP 57 (.aload 4) 2, xP 59 (.ifnull 9) 3, xP 62 (.aload_n 3) 1, xP 63 (.aload 4) 2, xQ 65 (.invokevirtual 53) 3 58 2 973, xP 68 (.iinc 2 1) 3, xP 71 (.goto (-36)) 3, xP 74 .return_ 1]
/-- SofaStair$Thing.<init> -/
noncomputable def xc_54 : List (Nat × xa_I) := [xP 0 (.aload_n 0) 1, xQ 1 (.invokespecial 3) 3 9999 1 173, xP 4 (.aload_n 0) 1, xP 5 (.bipush (-6)) 2, xQ 7 (.putfield 9) 3 5 1 180, xP 10 (.aload_n 0) 1, xP 11 (.bipush 30) 2, xP 13 (.newarray .int) 2, xQ 15 (.putfield 15) 3 5 4 188, xP 18 (.aload_n 0) 1, xP 19 (.bipush 10) 2, xP 21 (.newarray .int) 2, xQ 23 (.putfield 19) 3 5 5 189, xP 26 (.aload_n 0) 1, xP 27 (.iconst 3) 1, xP 28 (.newarray .int) 2, xQ 30 (.putfield 22) 3 5 6 191, xP 33 (.aload_n 0) 1, xP 34 (.iconst 4) 1, xP 35 (.newarray .int) 2, xQ 37 (.putfield 25) 3 5 7 192, xP 40 (.aload_n 0) 1, xQ 41 (.getfield 25) 3 5 7 192, xP 44 (.iconst 1) 1, xQ 45 (.invokestatic 28) 3 0 2 174, xP 48 .return_ 1]
/-- SofaStair$Thing.tell -/
noncomputable def xc_55 : List (Nat × xa_I) := [xP 0 (.aload_n 0) 1, xP 1 (.aload_n 1) 1, xQ 2 (.getfield 34) 3 2 1 111, xP 5 (.iconst 4) 1, xP 6 .idiv 1, xP 7 (.bipush 10) 2, xQ 9 (.invokestatic 39) 3 5005 2 597, xQ 12 (.putfield 45) 3 5 0 177, xP 15 (.aload_n 0) 1, xP 16 (.bipush (-6)) 2, xQ 18 (.putfield 9) 3 5 1 180, xP 21 (.aload_n 0) 1, xQ 22 (.getfield 22) 3 5 6 191, xP 25 (.iconst 0) 1, xQ 26 (.invokestatic 28) 3 0 2 174, xP 29 (.iconst 0) 1, xP 30 (.istore_n 2) 1, xP 31 (.iload_n 2) 1, xP 32 (.aload_n 0) 1, xQ 33 (.getfield 45) 3 5 0 177, xP 36 (.if_icmp .ge 52) 3, xP 39 (.iload_n 2) 1, xP 40 (.iconst 4) 1, xP 41 .imul 1, xP 42 (.istore_n 3) 1, xP 43 (.aload_n 0) 1, xP 44 (.iload_n 2) 1, xP 45 (.aload_n 1) 1, xP 46 (.iload_n 3) 1, xQ 47 (.invokevirtual 48) 3 25 2 598, xP 50 (.aload_n 1) 1, xP 51 (.iload_n 3) 1, xP 52 (.iconst 1) 1, xP 53 .iadd 1, xQ 54 (.invokevirtual 48) 3 25 2 598, xP 57 (.aload_n 1) 1, xP 58 (.iload_n 3) 1, xP 59 (.iconst 2) 1, xP 60 .iadd 1, xQ 61 (.invokevirtual 48) 3 25 2 598, xQ 64 (.invokevirtual 52) 3 57 5 599, xP 67 (.aload_n 0) 1, xQ 68 (.getfield 19) 3 5 5 189, xP 71 (.iload_n 2) 1, xP 72 (.aload_n 1) 1, xP 73 (.iload_n 3) 1, xP 74 (.iconst 3) 1, xP 75 .iadd 1, xQ 76 (.invokevirtual 56) 3 26 2 605, xQ 79 (.invokestatic 59) 3 131 3 603, xP 82 (.iinc 2 1) 3, xP 85 (.goto (-54)) 3, xP 88 .return_ 1]
/-- SofaStair$Thing.becomeBar -/
noncomputable def xc_56 : List (Nat × xa_I) := [xP 0 (.aload_n 0) 1, xP 1 (.iload_n 1) 1, xP 2 (.bipush 6) 2, xQ 4 (.invokestatic 39) 3 5005 2 597, xQ 7 (.putfield 45) 3 5 0 177, xP 10 (.aload_n 0) 1, xQ 11 (.getfield 22) 3 5 6 191, xP 14 (.iconst 0) 1, xQ 15 (.invokestatic 28) 3 0 2 174, xP 18 (.iconst 0) 1, xP 19 (.istore_n 2) 1, xP 20 (.iload_n 2) 1, xP 21 (.aload_n 0) 1, xQ 22 (.getfield 45) 3 5 0 177, xP 25 (.if_icmp .ge 17) 3, xP 28 (.aload_n 0) 1, xP 29 (.iload_n 2) 1, xP 30 (.iload_n 2) 1, xP 31 (.iconst 0) 1, xP 32 (.iconst 0) 1, xQ 33 (.invokevirtual 52) 3 57 5 599, xP 36 (.iinc 2 1) 3, xP 39 (.goto (-19)) 3, xP 42 .return_ 1]
/-- SofaStair$Thing.put -/
noncomputable def xc_57 : List (Nat × xa_I) := [xP 0 (.aload_n 0) 1, xQ 1 (.getfield 15) 3 5 4 188, xP 4 (.iload_n 1) 1, xP 5 (.iconst 3) 1, xP 6 .imul 1, xP 7 (.iload_n 2) 1, xQ 8 (.invokestatic 59) 3 131 3 603, xP 11 (.aload_n 0) 1, xQ 12 (.getfield 15) 3 5 4 188, xP 15 (.iload_n 1) 1, xP 16 (.iconst 3) 1, xP 17 .imul 1, xP 18 (.iconst 1) 1, xP 19 .iadd 1, xP 20 (.iload_n 3) 1, xQ 21 (.invokestatic 59) 3 131 3 603, xP 24 (.aload_n 0) 1, xQ 25 (.getfield 15) 3 5 4 188, xP 28 (.iload_n 1) 1, xP 29 (.iconst 3) 1, xP 30 .imul 1, xP 31 (.iconst 2) 1, xP 32 .iadd 1, xP 33 (.iload 4) 2, xQ 35 (.invokestatic 59) 3 131 3 603, xP 38 (.aload_n 0) 1, xQ 39 (.getfield 22) 3 5 6 191, xP 42 (.iconst 0) 1, xP 43 (.aload_n 0) 1, xQ 44 (.getfield 22) 3 5 6 191, xP 47 (.iconst 0) 1, xP 48 .iaload 1, xP 49 (.iload_n 2) 1, xQ 50 (.invokestatic 63) 3 5004 2 604, xP 53 .iastore 1, xP 54 (.aload_n 0) 1, xQ 55 (.getfield 22) 3 5 6 191, xP 58 (.iconst 1) 1, xP 59 (.aload_n 0) 1, xQ 60 (.getfield 22) 3 5 6 191, xP 63 (.iconst 1) 1, xP 64 .iaload 1, xP 65 (.iload_n 3) 1, xQ 66 (.invokestatic 63) 3 5004 2 604, xP 69 .iastore 1, xP 70 (.aload_n 0) 1, xQ 71 (.getfield 22) 3 5 6 191, xP 74 (.iconst 2) 1, xP 75 (.aload_n 0) 1, xQ 76 (.getfield 22) 3 5 6 191, xP 79 (.iconst 2) 1, xP 80 .iaload 1, xP 81 (.iload 4) 2, xQ 83 (.invokestatic 63) 3 5004 2 604, xP 86 .iastore 1, xP 87 .return_ 1]
/-- SofaStair$Thing.copyFrom -/
noncomputable def xc_58 : List (Nat × xa_I) := [xP 0 (.aload_n 0) 1, xP 1 (.aload_n 1) 1, xQ 2 (.getfield 45) 3 5 0 177, xQ 5 (.putfield 45) 3 5 0 177, xP 8 (.aload_n 0) 1, xP 9 (.aload_n 1) 1, xQ 10 (.getfield 9) 3 5 1 180, xQ 13 (.putfield 9) 3 5 1 180, xP 16 (.aload_n 0) 1, xP 17 (.aload_n 1) 1, xQ 18 (.getfield 66) 3 5 2 184, xQ 21 (.putfield 66) 3 5 2 184, xP 24 (.aload_n 0) 1, xP 25 (.aload_n 1) 1, xQ 26 (.getfield 69) 3 5 3 187, xQ 29 (.putfield 69) 3 5 3 187, xP 32 (.aload_n 1) 1, xQ 33 (.getfield 15) 3 5 4 188, xP 36 (.aload_n 0) 1, xQ 37 (.getfield 15) 3 5 4 188, xQ 40 (.invokestatic 72) 3 132 2 977, xP 43 (.aload_n 1) 1, xQ 44 (.getfield 19) 3 5 5 189, xP 47 (.aload_n 0) 1, xQ 48 (.getfield 19) 3 5 5 189, xQ 51 (.invokestatic 72) 3 132 2 977, xP 54 (.aload_n 1) 1, xQ 55 (.getfield 22) 3 5 6 191, xP 58 (.aload_n 0) 1, xQ 59 (.getfield 22) 3 5 6 191, xQ 62 (.invokestatic 72) 3 132 2 977, xP 65 (.aload_n 1) 1, xQ 66 (.getfield 25) 3 5 7 192, xP 69 (.aload_n 0) 1, xQ 70 (.getfield 25) 3 5 7 192, xQ 73 (.invokestatic 72) 3 132 2 977, xP 76 .return_ 1]
/-- SofaStair$Thing.stand -/
noncomputable def xc_59 : List (Nat × xa_I) := [xP 0 (.aload_n 0) 1, xQ 1 (.getfield 9) 3 5 1 180, xP 4 (.bipush 24) 2, xP 6 .imul 1, xP 7 (.aload_n 0) 1, xQ 8 (.getfield 66) 3 5 2 184, xP 11 .iadd 1, xP 12 .ireturn 1]
/-- SofaStair$Thing.groupOf -/
noncomputable def xc_60 : List (Nat × xa_I) := [xP 0 (.aload_n 0) 1, xQ 1 (.getfield 19) 3 5 5 189, xP 4 (.iload_n 1) 1, xQ 5 (.invokestatic 76) 3 130 2 614, xP 8 .ireturn 1]
/-- SofaStair$Thing.along -/
noncomputable def xc_61 : List (Nat × xa_I) := [xP 0 (.aload_n 1) 1, xP 1 (.iload_n 2) 1, xP 2 (.iload 4) 2, xQ 4 (.invokevirtual 80) 3 66 3 619, xP 7 (.istore 5) 2, xP 9 (.iload 5) 2, xQ 11 (.invokestatic 85) 3 5003 1 620, xP 14 (.iconst 1) 1, xP 15 .isub 1, xP 16 (.istore 6) 2, xP 18 (.aload_n 0) 1, xQ 19 (.getfield 15) 3 5 4 188, xP 22 (.iload_n 3) 1, xP 23 (.iconst 3) 1, xP 24 .imul 1, xP 25 (.iload 6) 2, xP 27 .iadd 1, xQ 28 (.invokestatic 76) 3 130 2 614, xP 31 (.istore 7) 2, xP 33 (.iload 5) 2, xP 35 (.ifCond .le 8) 3, xP 38 (.iload 7) 2, xP 40 (.goto 15) 3, xP 43 (.aload_n 0) 1, xQ 44 (.getfield 22) 3 5 6 191, xP 47 (.iload 6) 2, xQ 49 (.invokestatic 76) 3 130 2 614, xP 52 (.iload 7) 2, xP 54 .isub 1, xP 55 .ireturn 1]
/-- SofaStair$Thing.partsSet -/
noncomputable def xc_62 : List (Nat × xa_I) := [xP 0 (.iconst 0) 1, xP 1 (.istore_n 1) 1, xP 2 (.iconst 0) 1, xP 3 (.istore_n 2) 1, xP 4 (.iload_n 2) 1, xP 5 (.aload_n 0) 1, xQ 6 (.getfield 45) 3 5 0 177, xP 9 (.if_icmp .ge 21) 3, xP 12 (.iload_n 1) 1, xP 13 (.iconst 1) 1, xP 14 (.aload_n 0) 1, xP 15 (.iload_n 2) 1, xQ 16 (.invokevirtual 88) 3 60 2 787, xP 19 .ishl 1, xP 20 (.iconst 1) 1, xP 21 .ishr 1, xP 22 .ior 1, xP 23 (.istore_n 1) 1, xP 24 (.iinc 2 1) 3, xP 27 (.goto (-23)) 3, xP 30 (.iload_n 1) 1, xP 31 .ireturn 1]
/-- SofaStair$Thing.cubesOn -/
noncomputable def xc_63 : List (Nat × xa_I) := [xP 0 (.iconst 0) 1, xP 1 (.istore_n 2) 1, xP 2 (.iconst 0) 1, xP 3 (.istore_n 3) 1, xP 4 (.iload_n 3) 1, xP 5 (.aload_n 0) 1, xQ 6 (.getfield 45) 3 5 0 177, xP 9 (.if_icmp .ge 31) 3, xP 12 (.iload_n 2) 1, xP 13 (.iload_n 1) 1, xP 14 (.iconst 1) 1, xP 15 .ishl 1, xP 16 (.aload_n 0) 1, xP 17 (.iload_n 3) 1, xQ 18 (.invokevirtual 88) 3 60 2 787, xQ 21 (.invokestatic 91) 3 129 2 788, xP 24 (.ifCond .eq 7) 3, xP 27 (.iconst 0) 1, xP 28 (.goto 4) 3, xP 31 (.iconst 1) 1, xP 32 .iadd 1, xP 33 (.istore_n 2) 1, xP 34 (.iinc 3 1) 3, xP 37 (.goto (-33)) 3, xP 40 (.iload_n 2) 1, xP 41 .ireturn 1]
/-- SofaStair$Turns.<init> -/
noncomputable def xc_64 : List (Nat × xa_I) := [xP 0 (.aload_n 0) 1, xQ 1 (.invokespecial 3) 3 9999 1 238, xP 4 (.aload_n 0) 1, xP 5 (.bipush 72) 2, xP 7 (.newarray .int) 2, xQ 9 (.putfield 9) 3 6 0 255, xP 12 (.aload_n 0) 1, xP 13 (.sipush 144) 3, xP 16 (.newarray .int) 2, xQ 18 (.putfield 15) 3 6 1 256, xP 21 (.aload_n 0) 1, xQ 22 (.getfield 9) 3 6 0 255, xP 25 (.iconst 0) 1, xP 26 (.iconst 1) 1, xP 27 .iastore 1, xP 28 (.aload_n 0) 1, xQ 29 (.getfield 9) 3 6 0 255, xP 32 (.iconst 1) 1, xP 33 (.iconst 2) 1, xP 34 .iastore 1, xP 35 (.aload_n 0) 1, xQ 36 (.getfield 9) 3 6 0 255, xP 39 (.iconst 2) 1, xP 40 (.iconst 3) 1, xP 41 .iastore 1, xP 42 (.iconst 1) 1, xP 43 (.istore_n 1) 1, xP 44 (.iconst 0) 1, xP 45 (.istore_n 2) 1, xP 46 (.iload_n 2) 1, xP 47 (.iload_n 1) 1, xP 48 (.if_icmp .ge 136) 3, xP 51 (.iload_n 2) 1, xP 52 (.bipush 24) 2, xP 54 (.if_icmp .ge 130) 3, xP 57 (.iconst 0) 1, xP 58 (.istore_n 3) 1, xP 59 (.iload_n 3) 1, xP 60 (.bipush 6) 2, xP 62 (.if_icmp .ge 116) 3, xP 65 (.aload_n 0) 1, xP 66 (.iload_n 2) 1, xP 67 (.iload_n 3) 1, xP 68 (.iconst 0) 1, xQ 69 (.invokevirtual 18) 3 68 4 239, xP 72 (.istore 4) 2, xP 74 (.aload_n 0) 1, xP 75 (.iload_n 2) 1, xP 76 (.iload_n 3) 1, xP 77 (.iconst 1) 1, xQ 78 (.invokevirtual 18) 3 68 4 239, xP 81 (.istore 5) 2, xP 83 (.aload_n 0) 1, xP 84 (.iload_n 2) 1, xP 85 (.iload_n 3) 1, xP 86 (.iconst 2) 1, xQ 87 (.invokevirtual 18) 3 68 4 239, xP 90 (.istore 6) 2, xP 92 (.aload_n 0) 1, xP 93 (.iload_n 1) 1, xP 94 (.iload 4) 2, xP 96 (.iload 5) 2, xP 98 (.iload 6) 2, xQ 100 (.invokevirtual 22) 3 67 5 250, xP 103 (.istore 7) 2, xP 105 (.iload 7) 2, xP 107 (.iload_n 1) 1, xP 108 (.if_icmp .ne 49) 3, xP 111 (.aload_n 0) 1, xQ 112 (.getfield 9) 3 6 0 255, xP 115 (.iconst 3) 1, xP 116 (.iload 7) 2, xP 118 .imul 1, xP 119 (.iload 4) 2, xQ 121 (.invokestatic 26) 3 131 3 254, xP 124 (.aload_n 0) 1, xQ 125 (.getfield 9) 3 6 0 255, xP 128 (.iconst 3) 1, xP 129 (.iload 7) 2, xP 131 .imul 1, xP 132 (.iconst 1) 1, xP 133 .iadd 1, xP 134 (.iload 5) 2, xQ 136 (.invokestatic 26) 3 131 3 254, xP 139 (.aload_n 0) 1, xQ 140 (.getfield 9) 3 6 0 255, xP 143 (.iconst 3) 1, xP 144 (.iload 7) 2, xP 146 .imul 1, xP 147 (.iconst 2) 1, xP 148 .iadd 1, xP 149 (.iload 6) 2, xQ 151 (.invokestatic 26) 3 131 3 254, xP 154 (.iinc 1 1) 3, xP 157 (.aload_n 0) 1, xQ 158 (.getfield 15) 3 6 1 256, xP 161 (.iload_n 2) 1, xP 162 (.bipush 6) 2, xP 164 .imul 1, xP 165 (.iload_n 3) 1, xP 166 .iadd 1, xP 167 (.iload 7) 2, xQ 169 (.invokestatic 26) 3 131 3 254, xP 172 (.iinc 3 1) 3, xP 175 (.goto (-116)) 3, xP 178 (.iinc 2 1) 3, xP 181 (.goto (-135)) 3, xP 184 .return_ 1]
/-- SofaStair$Turns.after -/
noncomputable def xc_65 : List (Nat × xa_I) := [xP 0 (.aload_n 0) 1, xQ 1 (.getfield 15) 3 6 1 256, xP 4 (.iload_n 1) 1, xP 5 (.bipush 6) 2, xP 7 .imul 1, xP 8 (.iload_n 2) 1, xP 9 .iadd 1, xQ 10 (.invokestatic 30) 3 130 2 247, xP 13 .ireturn 1]
/-- SofaStair$Turns.axisAt -/
noncomputable def xc_66 : List (Nat × xa_I) := [xP 0 (.aload_n 0) 1, xQ 1 (.getfield 9) 3 6 0 255, xP 4 (.iload_n 1) 1, xP 5 (.iconst 3) 1, xP 6 .imul 1, xP 7 (.iload_n 2) 1, xP 8 .iadd 1, xQ 9 (.invokestatic 30) 3 130 2 247, xP 12 .ireturn 1]
/-- SofaStair$Turns.find -/
noncomputable def xc_67 : List (Nat × xa_I) := [xP 0 (.iconst 0) 1, xP 1 (.istore 5) 2, xP 3 (.iload 5) 2, xP 5 (.iload_n 1) 1, xP 6 (.if_icmp .ge 46) 3, xP 9 (.aload_n 0) 1, xP 10 (.iload 5) 2, xP 12 (.iconst 0) 1, xQ 13 (.invokevirtual 34) 3 66 3 243, xP 16 (.iload_n 2) 1, xP 17 (.if_icmp .ne 29) 3, xP 20 (.aload_n 0) 1, xP 21 (.iload 5) 2, xP 23 (.iconst 1) 1, xQ 24 (.invokevirtual 34) 3 66 3 243, xP 27 (.iload_n 3) 1, xP 28 (.if_icmp .ne 18) 3, xP 31 (.aload_n 0) 1, xP 32 (.iload 5) 2, xP 34 (.iconst 2) 1, xQ 35 (.invokevirtual 34) 3 66 3 243, xP 38 (.iload 4) 2, xP 40 (.if_icmp .ne 6) 3, xP 43 (.iload 5) 2, xP 45 .ireturn 1, xP 46 (.iinc 5 1) 3, xP 49 (.goto (-46)) 3, xP 52 (.iload_n 1) 1, xP 53 .ireturn 1]
/-- SofaStair$Turns.turnedAxis -/
noncomputable def xc_68 : List (Nat × xa_I) := [xP 0 (.iload_n 2) 1, xP 1 (.iconst 3) 1, xP 2 .irem 1, xP 3 (.istore 4) 2, xP 5 (.iload_n 3) 1, xP 6 (.iload 4) 2, xP 8 (.if_icmp .ne 10) 3, xP 11 (.aload_n 0) 1, xP 12 (.iload_n 1) 1, xP 13 (.iload_n 3) 1, xQ 14 (.invokevirtual 34) 3 66 3 243, xP 17 .ireturn 1, xP 18 (.iconst 3) 1, xP 19 (.iload 4) 2, xP 21 .isub 1, xP 22 (.iload_n 3) 1, xP 23 .isub 1, xP 24 (.istore 5) 2, xP 26 (.iload_n 3) 1, xP 27 (.iload 4) 2, xP 29 (.iconst 1) 1, xP 30 .iadd 1, xP 31 (.iconst 3) 1, xP 32 .irem 1, xP 33 (.if_icmp .ne 7) 3, xP 36 (.iconst 1) 1, xP 37 (.goto 4) 3, xP 40 (.iconst 0) 1, xP 41 (.istore 6) 2, xP 43 (.iload_n 2) 1, xP 44 (.iconst 3) 1, xP 45 (.if_icmp .lt 7) 3, xP 48 (.iconst 1) 1, xP 49 (.goto 4) 3, xP 52 (.iconst 0) 1, xP 53 (.istore 7) 2, xP 55 (.iload 6) 2, xP 57 (.iload 7) 2, xP 59 (.if_icmp .eq 14) 3, xP 62 (.aload_n 0) 1, xP 63 (.iload_n 1) 1, xP 64 (.iload 5) 2, xQ 66 (.invokevirtual 34) 3 66 3 243, xP 69 .ineg 1, xP 70 (.goto 10) 3, xP 73 (.aload_n 0) 1, xP 74 (.iload_n 1) 1, xP 75 (.iload 5) 2, xQ 77 (.invokevirtual 34) 3 66 3 243, xP 80 .ireturn 1]
/-- SofaStair$Way.<init> -/
noncomputable def xc_69 : List (Nat × xa_I) := [xP 0 (.aload_n 0) 1, xQ 1 (.invokespecial 3) 3 9999 1 130, xP 4 (.aload_n 0) 1, xP 5 (.sipush 144) 3, xP 8 (.newarray .int) 2, xQ 10 (.putfield 9) 3 7 3 154, xP 13 (.aload_n 0) 1, xP 14 (.sipush 864) 3, xP 17 (.newarray .int) 2, xQ 19 (.putfield 15) 3 7 4 155, xP 22 (.aload_n 0) 1, xP 23 (.bipush 6) 2, xP 25 (.bipush 6) 2, xP 27 (.iconst 2) 1, xQ 28 (.invokevirtual 18) 3 72 4 131, xP 31 .return_ 1]
/-- SofaStair$Way.resize -/
noncomputable def xc_70 : List (Nat × xa_I) := [xP 0 (.aload_n 0) 1, xP 1 (.iload_n 1) 1, xP 2 (.iload_n 2) 1, xP 3 (.iload_n 3) 1, xQ 4 (.invokevirtual 18) 3 72 4 131, xP 7 (.aload_n 0) 1, xQ 8 (.getfield 9) 3 7 3 154, xP 11 (.iconst 0) 1, xQ 12 (.invokestatic 22) 3 0 2 398, xP 15 .return_ 1]
/-- SofaStair$Way.copyFrom -/
noncomputable def xc_71 : List (Nat × xa_I) := [xP 0 (.aload_n 0) 1, xP 1 (.aload_n 1) 1, xQ 2 (.getfield 28) 3 7 0 151, xP 5 (.aload_n 1) 1, xQ 6 (.getfield 32) 3 7 1 152, xP 9 (.aload_n 1) 1, xQ 10 (.getfield 35) 3 7 2 153, xQ 13 (.invokevirtual 18) 3 72 4 131, xP 16 (.aload_n 1) 1, xQ 17 (.getfield 9) 3 7 3 154, xP 20 (.aload_n 0) 1, xQ 21 (.getfield 9) 3 7 3 154, xQ 24 (.invokestatic 38) 3 132 2 969, xP 27 .return_ 1]
/-- SofaStair$Way.measure -/
noncomputable def xc_72 : List (Nat × xa_I) := [xP 0 (.aload_n 0) 1, xP 1 (.iload_n 1) 1, xQ 2 (.putfield 28) 3 7 0 151, xP 5 (.aload_n 0) 1, xP 6 (.iload_n 2) 1, xQ 7 (.putfield 32) 3 7 1 152, xP 10 (.aload_n 0) 1, xP 11 (.iload_n 3) 1, xQ 12 (.putfield 35) 3 7 2 153, xP 15 (.iconst 0) 1, xP 16 (.istore 4) 2, xP 18 (.iload 4) 2, xP 20 (.sipush 144) 3, xP 23 (.if_icmp .ge 206) 3, xP 26 (.iload 4) 2, xP 28 (.bipush 6) 2, xP 30 .imul 1, xP 31 (.istore 5) 2, xP 33 (.aload_n 0) 1, xQ 34 (.getfield 15) 3 7 4 155, xP 37 (.iload 5) 2, xP 39 (.aload_n 0) 1, xP 40 (.iload 4) 2, xQ 42 (.invokestatic 42) 3 133 1 135, xP 45 (.iload 4) 2, xQ 47 (.invokestatic 46) 3 134 1 138, xP 50 (.iconst 1) 1, xP 51 .isub 1, xP 52 (.iload 4) 2, xQ 54 (.invokestatic 49) 3 135 1 141, xQ 57 (.invokevirtual 52) 3 73 4 144, xQ 60 (.invokestatic 56) 3 131 3 148, xP 63 (.aload_n 0) 1, xQ 64 (.getfield 15) 3 7 4 155, xP 67 (.iload 5) 2, xP 69 (.iconst 1) 1, xP 70 .iadd 1, xP 71 (.aload_n 0) 1, xP 72 (.iload 4) 2, xQ 74 (.invokestatic 42) 3 133 1 135, xP 77 (.iload 4) 2, xQ 79 (.invokestatic 46) 3 134 1 138, xP 82 (.iconst 1) 1, xP 83 .iadd 1, xP 84 (.iload 4) 2, xQ 86 (.invokestatic 49) 3 135 1 141, xQ 89 (.invokevirtual 52) 3 73 4 144, xQ 92 (.invokestatic 56) 3 131 3 148, xP 95 (.aload_n 0) 1, xQ 96 (.getfield 15) 3 7 4 155, xP 99 (.iload 5) 2, xP 101 (.iconst 2) 1, xP 102 .iadd 1, xP 103 (.aload_n 0) 1, xP 104 (.iload 4) 2, xQ 106 (.invokestatic 42) 3 133 1 135, xP 109 (.iconst 1) 1, xP 110 .isub 1, xP 111 (.iload 4) 2, xQ 113 (.invokestatic 46) 3 134 1 138, xP 116 (.iload 4) 2, xQ 118 (.invokestatic 49) 3 135 1 141, xQ 121 (.invokevirtual 52) 3 73 4 144, xQ 124 (.invokestatic 56) 3 131 3 148, xP 127 (.aload_n 0) 1, xQ 128 (.getfield 15) 3 7 4 155, xP 131 (.iload 5) 2, xP 133 (.iconst 3) 1, xP 134 .iadd 1, xP 135 (.aload_n 0) 1, xP 136 (.iload 4) 2, xQ 138 (.invokestatic 42) 3 133 1 135, xP 141 (.iconst 1) 1, xP 142 .iadd 1, xP 143 (.iload 4) 2, xQ 145 (.invokestatic 46) 3 134 1 138, xP 148 (.iload 4) 2, xQ 150 (.invokestatic 49) 3 135 1 141, xQ 153 (.invokevirtual 52) 3 73 4 144, xQ 156 (.invokestatic 56) 3 131 3 148, xP 159 (.aload_n 0) 1, xQ 160 (.getfield 15) 3 7 4 155, xP 163 (.iload 5) 2, xP 165 (.iconst 4) 1, xP 166 .iadd 1, xP 167 (.aload_n 0) 1, xP 168 (.iload 4) 2, xQ 170 (.invokestatic 42) 3 133 1 135, xP 173 (.iload 4) 2, xQ 175 (.invokestatic 46) 3 134 1 138, xP 178 (.iload 4) 2, xQ 180 (.invokestatic 49) 3 135 1 141, xP 183 (.iconst 1) 1, xP 184 .iadd 1, xQ 185 (.invokevirtual 52) 3 73 4 144, xQ 188 (.invokestatic 56) 3 131 3 148, xP 191 (.aload_n 0) 1, xQ 192 (.getfield 15) 3 7 4 155, xP 195 (.iload 5) 2, xP 197 (.iconst 5) 1, xP 198 .iadd 1, xP 199 (.aload_n 0) 1, xP 200 (.iload 4) 2, xQ 202 (.invokestatic 42) 3 133 1 135, xP 205 (.iload 4) 2, xQ 207 (.invokestatic 46) 3 134 1 138, xP 210 (.iload 4) 2, xQ 212 (.invokestatic 49) 3 135 1 141, xP 215 (.iconst 1) 1, xP 216 .isub 1, xQ 217 (.invokevirtual 52) 3 73 4 144, xQ 220 (.invokestatic 56) 3 131 3 148, xP 223 (.iinc 4 1) 3, xP 226 (.goto (-208)) 3, xP 229 .return_ 1]
/-- SofaStair$Way.placeAt -/
noncomputable def xc_73 : List (Nat × xa_I) := [xP 0 (.iload_n 1) 1, xP 1 (.ifCond .lt 39) 3, xP 4 (.iload_n 1) 1, xP 5 (.aload_n 0) 1, xQ 6 (.getfield 28) 3 7 0 151, xP 9 (.if_icmp .ge 31) 3, xP 12 (.iload_n 2) 1, xP 13 (.ifCond .lt 27) 3, xP 16 (.iload_n 2) 1, xP 17 (.aload_n 0) 1, xQ 18 (.getfield 32) 3 7 1 152, xP 21 (.if_icmp .ge 19) 3, xP 24 (.iload_n 3) 1, xP 25 (.ifCond .lt 15) 3, xP 28 (.iload_n 3) 1, xP 29 (.aload_n 0) 1, xQ 30 (.getfield 35) 3 7 2 153, xP 33 (.if_icmp .ge 7) 3, xP 36 (.iconst 1) 1, xP 37 (.goto 4) 3, xP 40 (.iconst 0) 1, xP 41 (.istore 4) 2, xP 43 (.iload 4) 2, xP 45 (.ifCond .eq 16) 3, xP 48 (.iload_n 1) 1, xP 49 (.bipush 6) 2, xP 51 .imul 1, xP 52 (.iload_n 2) 1, xP 53 .iadd 1, xP 54 (.iconst 4) 1, xP 55 .imul 1, xP 56 (.iload_n 3) 1, xP 57 .iadd 1, xP 58 (.goto 5) 3, xP 61 (.bipush (-6)) 2, xP 63 .ireturn 1]
/-- SofaStair$Way.placeOf -/
noncomputable def xc_74 : List (Nat × xa_I) := [xP 0 (.iload_n 1) 1, xP 1 (.ifCond .ge 8) 3, xP 4 (.bipush (-6)) 2, xP 6 (.goto 22) 3, xP 9 (.aload_n 0) 1, xP 10 (.iload_n 1) 1, xP 11 (.bipush 100) 2, xP 13 .idiv 1, xP 14 (.iload_n 1) 1, xP 15 (.bipush 10) 2, xP 17 .idiv 1, xP 18 (.bipush 10) 2, xP 20 .irem 1, xP 21 (.iload_n 1) 1, xP 22 (.bipush 10) 2, xP 24 .irem 1, xQ 25 (.invokevirtual 52) 3 73 4 144, xP 28 .ireturn 1]
/-- SofaStair$Way.isCell -/
noncomputable def xc_75 : List (Nat × xa_I) := [xP 0 (.iload_n 1) 1, xQ 1 (.invokestatic 42) 3 133 1 135, xP 4 (.aload_n 0) 1, xQ 5 (.getfield 28) 3 7 0 151, xP 8 (.if_icmp .ge 29) 3, xP 11 (.iload_n 1) 1, xQ 12 (.invokestatic 46) 3 134 1 138, xP 15 (.aload_n 0) 1, xQ 16 (.getfield 32) 3 7 1 152, xP 19 (.if_icmp .ge 18) 3, xP 22 (.iload_n 1) 1, xQ 23 (.invokestatic 49) 3 135 1 141, xP 26 (.aload_n 0) 1, xQ 27 (.getfield 35) 3 7 2 153, xP 30 (.if_icmp .ge 7) 3, xP 33 (.iconst 1) 1, xP 34 (.goto 4) 3, xP 37 (.iconst 0) 1, xP 38 .ireturn 1]
/-- SofaStair$Way.placeBeside -/
noncomputable def xc_76 : List (Nat × xa_I) := [xP 0 (.aload_n 0) 1, xQ 1 (.getfield 15) 3 7 4 155, xP 4 (.iload_n 1) 1, xP 5 (.bipush 6) 2, xP 7 .imul 1, xP 8 (.iload_n 2) 1, xP 9 .iadd 1, xQ 10 (.invokestatic 60) 3 130 2 438, xP 13 .ireturn 1]
/-- SofaStair$Way.kindAt -/
noncomputable def xc_77 : List (Nat × xa_I) := [xP 0 (.aload_n 0) 1, xQ 1 (.getfield 9) 3 7 3 154, xP 4 (.iload_n 1) 1, xQ 5 (.invokestatic 60) 3 130 2 438, xP 8 .ireturn 1]
/-- SofaStair$Way.paint -/
noncomputable def xc_78 : List (Nat × xa_I) := [xP 0 (.iconst 0) 1, xP 1 (.istore 4) 2, xP 3 (.iload_n 1) 1, xQ 4 (.invokestatic 42) 3 133 1 135, xP 7 (.istore 5) 2, xP 9 (.iload 5) 2, xP 11 (.iload_n 2) 1, xQ 12 (.invokestatic 42) 3 133 1 135, xP 15 (.if_icmp .gt 72) 3, xP 18 (.iload_n 1) 1, xQ 19 (.invokestatic 46) 3 134 1 138, xP 22 (.istore 6) 2, xP 24 (.iload 6) 2, xP 26 (.iload_n 2) 1, xQ 27 (.invokestatic 46) 3 134 1 138, xP 30 (.if_icmp .gt 51) 3, xP 33 (.iload_n 1) 1, xQ 34 (.invokestatic 49) 3 135 1 141, xP 37 (.istore 7) 2, xP 39 (.iload 7) 2, xP 41 (.iload_n 2) 1, xQ 42 (.invokestatic 49) 3 135 1 141, xP 45 (.if_icmp .gt 30) 3, xP 48 (.aload_n 0) 1, xQ 49 (.getfield 9) 3 7 3 154, xP 52 (.aload_n 0) 1, xP 53 (.iload 5) 2, xP 55 (.iload 6) 2, xP 57 (.iload 7) 2, xQ 59 (.invokevirtual 52) 3 73 4 144, xP 62 (.iload_n 3) 1, xQ 63 (.invokestatic 56) 3 131 3 148, xP 66 (.iinc 4 1) 3, xP 69 (.iinc 7 1) 3, xP 72 (.goto (-33)) 3, xP 75 (.iinc 6 1) 3, xP 78 (.goto (-54)) 3, xP 81 (.iinc 5 1) 3, xP 84 (.goto (-75)) 3, xP 87 (.iload 4) 2, xP 89 .ireturn 1]
/-- SofaStair$Way.doorsSet -/
noncomputable def xc_79 : List (Nat × xa_I) := [xP 0 (.iconst 0) 1, xP 1 (.istore_n 1) 1, xP 2 (.iconst 0) 1, xP 3 (.istore_n 2) 1, xP 4 (.iload_n 2) 1, xP 5 (.sipush 144) 3, xP 8 (.if_icmp .ge 36) 3, xP 11 (.iload_n 1) 1, xP 12 (.aload_n 0) 1, xQ 13 (.getfield 9) 3 7 3 154, xP 16 (.iload_n 2) 1, xP 17 .iaload 1, xP 18 (.iconst 2) 1, xP 19 (.if_icmp .lt 16) 3, xP 22 (.iconst 1) 1, xP 23 (.aload_n 0) 1, xQ 24 (.getfield 9) 3 7 3 154, xP 27 (.iload_n 2) 1, xP 28 .iaload 1, xP 29 (.iconst 2) 1, xP 30 .isub 1, xP 31 .ishl 1, xP 32 (.goto 4) 3, xP 35 (.iconst 0) 1, xP 36 .ior 1, xP 37 (.istore_n 1) 1, xP 38 (.iinc 2 1) 3, xP 41 (.goto (-37)) 3, xP 44 (.iload_n 1) 1, xP 45 .ireturn 1]
/-- SofaStair$Way.sizeAlong -/
noncomputable def xc_80 : List (Nat × xa_I) := [xP 0 (.iload_n 1) 1, xP 1 (.tableswitch 42 1 3 #[27, 32, 37]) 27, xP 28 (.aload_n 0) 1, xQ 29 (.getfield 28) 3 7 0 151, xP 32 .ireturn 1, xP 33 (.aload_n 0) 1, xQ 34 (.getfield 32) 3 7 1 152, xP 37 .ireturn 1, xP 38 (.aload_n 0) 1, xQ 39 (.getfield 35) 3 7 2 153, xP 42 .ireturn 1, xP 43 (.bipush (-2)) 2, xP 45 .ireturn 1]
/-- SofaStair.<init> -/
noncomputable def xc_81 : List (Nat × xa_I) := [xP 0 (.aload_n 0) 1, xQ 1 (.invokespecial 3) 3 9999 1 100, xP 4 (.aload_n 0) 1, xP 5 (.new 9) 3, xP 8 .dup 1, xQ 9 (.invokespecial 11) 3 21 1 105, xQ 12 (.putfield 12) 3 8 0 362, xP 15 (.aload_n 0) 1, xP 16 (.new 16) 3, xP 19 .dup 1, xQ 20 (.invokespecial 18) 3 50 1 121, xQ 23 (.putfield 19) 3 8 1 363, xP 26 (.aload_n 0) 1, xP 27 (.iconst 2) 1, xP 28 (.anewarray 16) 3, xQ 31 (.putfield 23) 3 8 2 364, xP 34 (.aload_n 0) 1, xP 35 (.new 27) 3, xP 38 .dup 1, xQ 39 (.invokespecial 29) 3 64 1 235, xQ 42 (.putfield 30) 3 8 3 365, xP 45 (.aload_n 0) 1, xP 46 (.new 34) 3, xP 49 .dup 1, xP 50 (.aload_n 0) 1, xQ 51 (.getfield 30) 3 8 3 365, xP 54 (.aload_n 0) 1, xQ 55 (.getfield 19) 3 8 1 363, xQ 58 (.getfield 36) 3 4 0 214, xQ 61 (.invokespecial 40) 3 33 3 264, xQ 64 (.putfield 43) 3 8 4 366, xP 67 (.aload_n 0) 1, xP 68 (.new 47) 3, xP 71 .dup 1, xP 72 (.aload_n 0) 1, xQ 73 (.getfield 43) 3 8 4 366, xQ 76 (.invokespecial 49) 3 10 2 313, xQ 79 (.putfield 52) 3 8 5 367, xP 82 (.aload_n 0) 1, xP 83 (.new 56) 3, xP 86 .dup 1, xQ 87 (.invokespecial 58) 3 4 1 338, xQ 90 (.putfield 59) 3 8 6 368, xP 93 (.aload_n 0) 1, xP 94 (.new 63) 3, xP 97 .dup 1, xQ 98 (.invokespecial 65) 3 54 1 361, xQ 101 (.putfield 66) 3 8 7 369, xP 104 (.aload_n 0) 1, xP 105 (.sipush 256) 3, xP 108 (.newarray .int) 2, xQ 110 (.putfield 70) 3 8 8 370, xP 113 (.iconst 0) 1, xP 114 (.istore_n 1) 1, xP 115 (.iload_n 1) 1, xP 116 (.iconst 2) 1, xP 117 (.if_icmp .ge 22) 3, xP 120 (.aload_n 0) 1, xQ 121 (.getfield 23) 3 8 2 364, xP 124 (.iload_n 1) 1, xP 125 (.new 16) 3, xP 128 .dup 1, xQ 129 (.invokespecial 18) 3 50 1 121, xP 132 .aastore 1, xP 133 (.iinc 1 1) 3, xP 136 (.goto (-21)) 3, xP 139 .return_ 1]
/-- SofaStair.size -/
noncomputable def xc_82 : List (Nat × xa_I) := [xP 0 (.iload_n 1) 1, xP 1 (.iconst 1) 1, xP 2 (.if_icmp .lt 30) 3, xP 5 (.iload_n 1) 1, xP 6 (.bipush 6) 2, xP 8 (.if_icmp .gt 24) 3, xP 11 (.iload_n 2) 1, xP 12 (.iconst 1) 1, xP 13 (.if_icmp .lt 19) 3, xP 16 (.iload_n 2) 1, xP 17 (.bipush 6) 2, xP 19 (.if_icmp .gt 13) 3, xP 22 (.iload_n 3) 1, xP 23 (.iconst 1) 1, xP 24 (.if_icmp .lt 8) 3, xP 27 (.iload_n 3) 1, xP 28 (.iconst 4) 1, xP 29 (.if_icmp .le 6) 3, xP 32 (.bipush (-2)) 2, xP 34 .ireturn 1, xP 35 (.aload_n 0) 1, xQ 36 (.getfield 19) 3 8 1 363, xQ 39 (.getfield 36) 3 4 0 214, xP 42 (.iload_n 1) 1, xP 43 (.iload_n 2) 1, xP 44 (.iload_n 3) 1, xQ 45 (.invokevirtual 74) 3 70 4 394, xP 48 (.iconst 0) 1, xP 49 (.istore 4) 2, xP 51 (.iload 4) 2, xP 53 (.iconst 4) 1, xP 54 (.if_icmp .ge 38) 3, xP 57 (.aload_n 0) 1, xQ 58 (.getfield 19) 3 8 1 363, xP 61 (.iload 4) 2, xQ 63 (.invokevirtual 80) 3 51 2 399, xP 66 (.astore 5) 2, xP 68 (.aload 5) 2, xP 70 (.ifnull 16) 3, xP 73 (.aload 5) 2, xP 75 (.bipush (-6)) 2, xQ 77 (.putfield 84) 3 5 1 181, xP 80 (.aload 5) 2, xP 82 (.iconst 0) 1, xQ 83 (.putfield 88) 3 5 3 186, xP 86 (.iinc 4 1) 3, xP 89 (.goto (-38)) 3, xP 92 (.aload_n 0) 1, xQ 93 (.invokevirtual 91) 3 125 1 403, xP 96 (.iload_n 1) 1, xP 97 (.iload_n 2) 1, xP 98 .imul 1, xP 99 (.iload_n 3) 1, xP 100 .imul 1, xP 101 .ireturn 1]
/-- SofaStair.fill -/
noncomputable def xc_83 : List (Nat × xa_I) := [xP 0 (.aload_n 0) 1, xQ 1 (.getfield 19) 3 8 1 363, xQ 4 (.getfield 36) 3 4 0 214, xP 7 (.iload_n 1) 1, xQ 8 (.invokevirtual 94) 3 74 2 419, xP 11 (.istore 4) 2, xP 13 (.aload_n 0) 1, xQ 14 (.getfield 19) 3 8 1 363, xQ 17 (.getfield 36) 3 4 0 214, xP 20 (.iload_n 2) 1, xQ 21 (.invokevirtual 94) 3 74 2 419, xP 24 (.istore 5) 2, xP 26 (.iload 4) 2, xP 28 (.ifCond .lt 8) 3, xP 31 (.iload 5) 2, xP 33 (.ifCond .ge 5) 3, xP 36 (.iconst (-1)) 1, xP 37 .ireturn 1, xP 38 (.iload 4) 2, xQ 40 (.invokestatic 98) 3 133 1 423, xP 43 (.iload 5) 2, xQ 45 (.invokestatic 98) 3 133 1 423, xP 48 (.if_icmp .gt 33) 3, xP 51 (.iload 4) 2, xQ 53 (.invokestatic 101) 3 134 1 424, xP 56 (.iload 5) 2, xQ 58 (.invokestatic 101) 3 134 1 424, xP 61 (.if_icmp .gt 20) 3, xP 64 (.iload 4) 2, xQ 66 (.invokestatic 104) 3 135 1 425, xP 69 (.iload 5) 2, xQ 71 (.invokestatic 104) 3 135 1 425, xP 74 (.if_icmp .gt 7) 3, xP 77 (.iconst 1) 1, xP 78 (.goto 4) 3, xP 81 (.iconst 0) 1, xP 82 (.istore 6) 2, xP 84 (.iload_n 3) 1, xP 85 (.ifCond .lt 14) 3, xP 88 (.iload_n 3) 1, xP 89 (.bipush 6) 2, xP 91 (.if_icmp .ge 8) 3, xP 94 (.iload 6) 2, xP 96 (.ifCond .ne 6) 3, xP 99 (.bipush (-2)) 2, xP 101 .ireturn 1, xP 102 (.aload_n 0) 1, xQ 103 (.invokevirtual 91) 3 125 1 403, xP 106 (.aload_n 0) 1, xQ 107 (.getfield 19) 3 8 1 363, xQ 110 (.getfield 36) 3 4 0 214, xP 113 (.iload 4) 2, xP 115 (.iload 5) 2, xP 117 (.iload_n 3) 1, xQ 118 (.invokevirtual 107) 3 78 4 426, xP 121 .ireturn 1]
/-- SofaStair.cell -/
noncomputable def xc_84 : List (Nat × xa_I) := [xP 0 (.aload_n 0) 1, xQ 1 (.getfield 19) 3 8 1 363, xQ 4 (.getfield 36) 3 4 0 214, xP 7 (.iload_n 1) 1, xQ 8 (.invokevirtual 94) 3 74 2 419, xP 11 (.istore_n 2) 1, xP 12 (.iload_n 2) 1, xP 13 (.ifCond .ge 7) 3, xP 16 (.iconst (-1)) 1, xP 17 (.goto 14) 3, xP 20 (.aload_n 0) 1, xQ 21 (.getfield 19) 3 8 1 363, xQ 24 (.getfield 36) 3 4 0 214, xP 27 (.iload_n 2) 1, xQ 28 (.invokevirtual 111) 3 77 2 434, xP 31 .ireturn 1]
/-- SofaStair.say -/
noncomputable def xc_85 : List (Nat × xa_I) := [xP 0 (.iload_n 1) 1, xP 1 (.bipush 33) 2, xP 3 (.if_icmp .lt 9) 3, xP 6 (.iload_n 1) 1, xP 7 (.bipush 126) 2, xP 9 (.if_icmp .le 6) 3, xP 12 (.bipush (-2)) 2, xP 14 .ireturn 1, xP 15 (.aload_n 0) 1, xQ 16 (.getfield 12) 3 8 0 362, xQ 19 (.invokevirtual 114) 3 22 1 443, xP 22 (.ifCond .eq 8) 3, xP 25 (.bipush (-4)) 2, xP 27 (.goto 11) 3, xP 30 (.aload_n 0) 1, xQ 31 (.getfield 12) 3 8 0 362, xP 34 (.iload_n 1) 1, xQ 35 (.invokevirtual 118) 3 23 2 447, xP 38 .ireturn 1]
/-- SofaStair.wipe -/
noncomputable def xc_86 : List (Nat × xa_I) := [xP 0 (.aload_n 0) 1, xQ 1 (.getfield 12) 3 8 0 362, xQ 4 (.invokevirtual 121) 3 24 1 456, xP 7 .ireturn 1]
/-- SofaStair.fault -/
noncomputable def xc_87 : List (Nat × xa_I) := [xP 0 (.iload_n 1) 1, xP 1 (.iconst 1) 1, xQ 2 (.invokestatic 125) 3 127 2 464, xP 5 (.ifCond .ne 6) 3, xP 8 (.bipush (-2)) 2, xP 10 .ireturn 1, xP 11 (.iload_n 1) 1, xP 12 (.ifCond .ne 13) 3, xP 15 (.aload_n 0) 1, xQ 16 (.getfield 12) 3 8 0 362, xQ 19 (.invokevirtual 129) 3 29 1 467, xP 22 (.goto 10) 3, xP 25 (.aload_n 0) 1, xQ 26 (.getfield 12) 3 8 0 362, xQ 29 (.invokevirtual 132) 3 28 1 495, xP 32 .ireturn 1]
/-- SofaStair.thing -/
noncomputable def xc_88 : List (Nat × xa_I) := [xP 0 (.aload_n 0) 1, xQ 1 (.getfield 19) 3 8 1 363, xP 4 (.iload_n 1) 1, xQ 5 (.invokevirtual 80) 3 51 2 399, xP 8 (.astore_n 2) 1, xP 9 (.aload_n 2) 1, xP 10 (.ifnonnull 5) 3, xP 13 (.iconst (-1)) 1, xP 14 .ireturn 1, xP 15 (.aload_n 0) 1, xQ 16 (.getfield 12) 3 8 0 362, xQ 19 (.invokevirtual 129) 3 29 1 467, xP 22 (.bipush (-6)) 2, xP 24 (.if_icmp .eq 6) 3, xP 27 (.bipush (-5)) 2, xP 29 .ireturn 1, xP 30 (.aload_n 2) 1, xP 31 (.aload_n 0) 1, xQ 32 (.getfield 12) 3 8 0 362, xQ 35 (.invokevirtual 135) 3 55 2 593, xP 38 (.aload_n 0) 1, xQ 39 (.getfield 12) 3 8 0 362, xQ 42 (.invokevirtual 121) 3 24 1 456, xP 45 .pop 1, xP 46 (.aload_n 0) 1, xQ 47 (.invokevirtual 91) 3 125 1 403, xP 50 (.aload_n 2) 1, xQ 51 (.getfield 139) 3 5 0 179, xP 54 .ireturn 1]
/-- SofaStair.cube -/
noncomputable def xc_89 : List (Nat × xa_I) := [xP 0 (.aload_n 0) 1, xQ 1 (.getfield 19) 3 8 1 363, xP 4 (.iload_n 1) 1, xQ 5 (.invokevirtual 80) 3 51 2 399, xP 8 (.astore 4) 2, xP 10 (.aload 4) 2, xP 12 (.ifnull 16) 3, xP 15 (.iload_n 2) 1, xP 16 (.ifCond .lt 12) 3, xP 19 (.iload_n 2) 1, xP 20 (.aload 4) 2, xQ 22 (.getfield 139) 3 5 0 179, xP 25 (.if_icmp .lt 5) 3, xP 28 (.iconst (-1)) 1, xP 29 .ireturn 1, xP 30 (.iload_n 3) 1, xP 31 (.iconst 3) 1, xQ 32 (.invokestatic 125) 3 127 2 464, xP 35 (.ifCond .ne 6) 3, xP 38 (.bipush (-2)) 2, xP 40 .ireturn 1, xP 41 (.iload_n 3) 1, xP 42 (.iconst 3) 1, xP 43 (.if_icmp .ne 26) 3, xP 46 (.aload 4) 2, xP 48 (.iload_n 2) 1, xQ 49 (.invokevirtual 142) 3 60 2 610, xP 52 (.istore 5) 2, xP 54 (.iload 5) 2, xP 56 (.ifCond .ne 8) 3, xP 59 (.bipush (-6)) 2, xP 61 (.goto 7) 3, xP 64 (.iload 5) 2, xP 66 (.iconst 1) 1, xP 67 .isub 1, xP 68 .ireturn 1, xP 69 (.aload 4) 2, xP 71 (.aload_n 0) 1, xQ 72 (.getfield 30) 3 8 3 365, xP 75 (.aload 4) 2, xQ 77 (.getfield 84) 3 5 1 181, xP 80 (.ifCond .ge 7) 3, xP 83 (.iconst 0) 1, xP 84 (.goto 8) 3, xP 87 (.aload 4) 2, xQ 89 (.getfield 145) 3 5 2 185, xP 92 (.iload_n 2) 1, xP 93 (.iload_n 3) 1, xQ 94 (.invokevirtual 148) 3 61 5 615, xP 97 .ireturn 1]
/-- SofaStair.cost -/
noncomputable def xc_90 : List (Nat × xa_I) := [xP 0 (.aload_n 0) 1, xQ 1 (.getfield 19) 3 8 1 363, xP 4 (.iload_n 1) 1, xQ 5 (.invokevirtual 152) 3 52 2 627, xP 8 (.astore 4) 2, xP 10 (.aload 4) 2, xP 12 (.ifnonnull 5) 3, xP 15 (.iconst (-1)) 1, xP 16 .ireturn 1, xP 17 (.iload_n 2) 1, xP 18 (.ifCond .lt 20) 3, xP 21 (.iload_n 2) 1, xP 22 (.aload 4) 2, xP 24 .arraylength 1, xP 25 (.if_icmp .ge 13) 3, xP 28 (.iload_n 3) 1, xP 29 (.ifCond .lt 9) 3, xP 32 (.iload_n 3) 1, xP 33 (.bipush 9) 2, xP 35 (.if_icmp .le 6) 3, xP 38 (.bipush (-2)) 2, xP 40 .ireturn 1, xP 41 (.aload 4) 2, xP 43 (.iload_n 2) 1, xP 44 .iaload 1, xP 45 (.istore 5) 2, xP 47 (.aload 4) 2, xP 49 (.iload_n 2) 1, xP 50 (.iload_n 3) 1, xP 51 .iastore 1, xP 52 (.aload_n 0) 1, xQ 53 (.getfield 59) 3 8 6 368, xQ 56 (.invokevirtual 156) 3 5 1 411, xP 59 (.iload 5) 2, xP 61 .ireturn 1]
/-- SofaStair.lay -/
noncomputable def xc_91 : List (Nat × xa_I) := [xP 0 (.aload_n 0) 1, xQ 1 (.getfield 19) 3 8 1 363, xP 4 (.iload_n 1) 1, xQ 5 (.invokevirtual 80) 3 51 2 399, xP 8 (.astore_n 3) 1, xP 9 (.aload_n 0) 1, xQ 10 (.getfield 19) 3 8 1 363, xQ 13 (.getfield 36) 3 4 0 214, xP 16 (.iload_n 2) 1, xQ 17 (.invokevirtual 94) 3 74 2 419, xP 20 (.istore 4) 2, xP 22 (.aload_n 3) 1, xP 23 (.ifnull 8) 3, xP 26 (.iload 4) 2, xP 28 (.ifCond .ge 5) 3, xP 31 (.iconst (-1)) 1, xP 32 .ireturn 1, xP 33 (.aload_n 3) 1, xQ 34 (.getfield 139) 3 5 0 179, xP 37 (.ifCond .ne 6) 3, xP 40 (.bipush (-3)) 2, xP 42 .ireturn 1, xP 43 (.aload_n 0) 1, xQ 44 (.getfield 12) 3 8 0 362, xQ 47 (.invokevirtual 132) 3 28 1 495, xP 50 (.bipush (-6)) 2, xP 52 (.if_icmp .ne 10) 3, xP 55 (.aload_n 0) 1, xQ 56 (.invokevirtual 159) 3 105 1 636, xP 59 (.goto 5) 3, xP 62 (.bipush (-5)) 2, xP 64 (.istore 5) 2, xP 66 (.iload 5) 2, xP 68 (.ifCond .ge 6) 3, xP 71 (.bipush (-5)) 2, xP 73 .ireturn 1, xP 74 (.aload_n 0) 1, xQ 75 (.getfield 43) 3 8 4 366, xP 78 (.aload_n 3) 1, xQ 79 (.invokevirtual 162) 3 35 2 645, xP 82 (.aload_n 0) 1, xQ 83 (.getfield 43) 3 8 4 366, xP 86 (.iload 4) 2, xP 88 (.bipush 24) 2, xP 90 .imul 1, xP 91 (.iload 5) 2, xP 93 .iadd 1, xQ 94 (.invokevirtual 166) 3 39 2 663, xP 97 (.ifCond .eq 6) 3, xP 100 (.bipush (-5)) 2, xP 102 .ireturn 1, xP 103 (.aload_n 3) 1, xP 104 (.iload 4) 2, xQ 106 (.putfield 84) 3 5 1 181, xP 109 (.aload_n 3) 1, xP 110 (.iload 5) 2, xQ 112 (.putfield 145) 3 5 2 185, xP 115 (.aload_n 0) 1, xQ 116 (.getfield 12) 3 8 0 362, xQ 119 (.invokevirtual 121) 3 24 1 456, xP 122 .pop 1, xP 123 (.aload_n 0) 1, xQ 124 (.getfield 59) 3 8 6 368, xQ 127 (.invokevirtual 156) 3 5 1 411, xP 130 (.iconst 1) 1, xP 131 .ireturn 1]
/-- SofaStair.goal -/
noncomputable def xc_92 : List (Nat × xa_I) := [xP 0 (.aload_n 0) 1, xQ 1 (.getfield 19) 3 8 1 363, xP 4 (.iload_n 1) 1, xQ 5 (.invokevirtual 80) 3 51 2 399, xP 8 (.astore_n 3) 1, xP 9 (.aload_n 0) 1, xQ 10 (.getfield 19) 3 8 1 363, xQ 13 (.getfield 36) 3 4 0 214, xP 16 (.iload_n 2) 1, xQ 17 (.invokevirtual 94) 3 74 2 419, xP 20 (.istore 4) 2, xP 22 (.aload_n 3) 1, xP 23 (.ifnull 8) 3, xP 26 (.iload 4) 2, xP 28 (.ifCond .ge 5) 3, xP 31 (.iconst (-1)) 1, xP 32 .ireturn 1, xP 33 (.aload_n 3) 1, xQ 34 (.getfield 88) 3 5 3 186, xP 37 (.istore 5) 2, xP 39 (.aload_n 3) 1, xP 40 (.iload 4) 2, xQ 42 (.putfield 88) 3 5 3 186, xP 45 (.aload_n 0) 1, xQ 46 (.getfield 59) 3 8 6 368, xQ 49 (.invokevirtual 156) 3 5 1 411, xP 52 (.iload 5) 2, xQ 54 (.invokestatic 169) 3 136 1 676, xP 57 .ireturn 1]
/-- SofaStair.judge -/
noncomputable def xc_93 : List (Nat × xa_I) := [xP 0 (.aload_n 0) 1, xQ 1 (.getfield 19) 3 8 1 363, xP 4 (.iload_n 1) 1, xQ 5 (.invokevirtual 80) 3 51 2 399, xP 8 (.astore_n 3) 1, xP 9 (.aload_n 3) 1, xP 10 (.iload_n 2) 1, xP 11 (.iconst 1) 1, xQ 12 (.invokestatic 125) 3 127 2 464, xQ 15 (.invokestatic 172) 3 126 2 683, xP 18 (.istore 4) 2, xP 20 (.aload_n 3) 1, xP 21 (.ifnull 8) 3, xP 24 (.iload 4) 2, xP 26 (.ifCond .eq 6) 3, xP 29 (.iload 4) 2, xP 31 .ireturn 1, xP 32 (.aload_n 0) 1, xQ 33 (.getfield 12) 3 8 0 362, xQ 36 (.invokevirtual 132) 3 28 1 495, xP 39 (.bipush (-6)) 2, xP 41 (.if_icmp .ne 12) 3, xP 44 (.aload_n 0) 1, xP 45 (.aload_n 3) 1, xP 46 (.iload_n 2) 1, xQ 47 (.invokevirtual 176) 3 106 3 686, xP 50 (.goto 5) 3, xP 53 (.bipush (-5)) 2, xP 55 .ireturn 1]
/-- SofaStair.move -/
noncomputable def xc_94 : List (Nat × xa_I) := [xP 0 (.aload_n 0) 1, xQ 1 (.getfield 19) 3 8 1 363, xP 4 (.iload_n 1) 1, xQ 5 (.invokevirtual 80) 3 51 2 399, xP 8 (.astore_n 2) 1, xP 9 (.aload_n 2) 1, xP 10 (.iconst 1) 1, xQ 11 (.invokestatic 172) 3 126 2 683, xP 14 (.istore_n 3) 1, xP 15 (.aload_n 2) 1, xP 16 (.ifnull 7) 3, xP 19 (.iload_n 3) 1, xP 20 (.ifCond .eq 5) 3, xP 23 (.iload_n 3) 1, xP 24 .ireturn 1, xP 25 (.aload_n 0) 1, xQ 26 (.getfield 12) 3 8 0 362, xQ 29 (.invokevirtual 132) 3 28 1 495, xP 32 (.bipush (-6)) 2, xP 34 (.if_icmp .ne 14) 3, xP 37 (.aload_n 0) 1, xP 38 (.aload_n 2) 1, xP 39 (.iconst 0) 1, xQ 40 (.invokevirtual 176) 3 106 3 686, xP 43 (.bipush (-6)) 2, xP 45 (.if_icmp .eq 6) 3, xP 48 (.bipush (-5)) 2, xP 50 .ireturn 1, xP 51 (.aload_n 2) 1, xQ 52 (.invokevirtual 180) 3 59 1 690, xP 55 (.istore 4) 2, xP 57 (.iconst 0) 1, xP 58 (.istore 5) 2, xP 60 (.iload 5) 2, xP 62 (.aload_n 0) 1, xQ 63 (.getfield 12) 3 8 0 362, xQ 66 (.getfield 183) 3 2 1 112, xP 69 (.if_icmp .ge 29) 3, xP 72 (.aload_n 0) 1, xQ 73 (.getfield 43) 3 8 4 366, xP 76 (.iload 4) 2, xP 78 (.aload_n 0) 1, xQ 79 (.getfield 12) 3 8 0 362, xP 82 (.iload 5) 2, xQ 84 (.invokevirtual 186) 3 27 2 640, xQ 87 (.invokevirtual 189) 3 40 3 694, xP 90 (.istore 4) 2, xP 92 (.iinc 5 1) 3, xP 95 (.goto (-35)) 3, xP 98 (.aload_n 2) 1, xP 99 (.iload 4) 2, xP 101 (.bipush 24) 2, xP 103 .idiv 1, xQ 104 (.putfield 84) 3 5 1 181, xP 107 (.aload_n 2) 1, xP 108 (.iload 4) 2, xP 110 (.bipush 24) 2, xP 112 .irem 1, xQ 113 (.putfield 145) 3 5 2 185, xP 116 (.aload_n 0) 1, xQ 117 (.getfield 12) 3 8 0 362, xQ 120 (.invokevirtual 121) 3 24 1 456, xP 123 .pop 1, xP 124 (.aload_n 0) 1, xQ 125 (.getfield 59) 3 8 6 368, xQ 128 (.invokevirtual 156) 3 5 1 411, xP 131 (.aload_n 2) 1, xQ 132 (.getfield 84) 3 5 1 181, xQ 135 (.invokestatic 169) 3 136 1 676, xP 138 .ireturn 1]
/-- SofaStair.goes -/
noncomputable def xc_95 : List (Nat × xa_I) := [xP 0 (.aload_n 0) 1, xP 1 (.iconst 1) 1, xP 2 (.iload_n 1) 1, xP 3 (.iload_n 2) 1, xP 4 (.iload_n 3) 1, xP 5 (.iload 4) 2, xQ 7 (.invokevirtual 193) 3 107 6 711, xP 10 .ireturn 1]
/-- SofaStair.effort -/
noncomputable def xc_96 : List (Nat × xa_I) := [xP 0 (.aload_n 0) 1, xP 1 (.iconst 2) 1, xP 2 (.iload_n 1) 1, xP 3 (.iload_n 2) 1, xP 4 (.iload_n 3) 1, xP 5 (.iload 4) 2, xQ 7 (.invokevirtual 193) 3 107 6 711, xP 10 .ireturn 1]
/-- SofaStair.room -/
noncomputable def xc_97 : List (Nat × xa_I) := [xP 0 (.aload_n 0) 1, xQ 1 (.getfield 19) 3 8 1 363, xP 4 (.iload_n 1) 1, xQ 5 (.invokevirtual 80) 3 51 2 399, xP 8 (.astore_n 3) 1, xP 9 (.aload_n 3) 1, xP 10 (.iload_n 2) 1, xP 11 (.iconst 2) 1, xQ 12 (.invokestatic 125) 3 127 2 464, xQ 15 (.invokestatic 172) 3 126 2 683, xP 18 (.istore 4) 2, xP 20 (.aload_n 3) 1, xP 21 (.ifnull 8) 3, xP 24 (.iload 4) 2, xP 26 (.ifCond .eq 6) 3, xP 29 (.iload 4) 2, xP 31 .ireturn 1, xP 32 (.iload_n 2) 1, xP 33 (.iconst 1) 1, xP 34 (.if_icmp .ne 9) 3, xP 37 (.aload_n 0) 1, xP 38 (.aload_n 3) 1, xQ 39 (.invokevirtual 197) 3 109 2 856, xP 42 .ireturn 1, xP 43 (.aload_n 0) 1, xQ 44 (.getfield 43) 3 8 4 366, xP 47 (.aload_n 3) 1, xQ 48 (.invokevirtual 162) 3 35 2 645, xP 51 (.aload_n 0) 1, xQ 52 (.getfield 43) 3 8 4 366, xP 55 (.iconst 0) 1, xP 56 (.iconst 0) 1, xQ 57 (.invokevirtual 201) 3 37 3 722, xP 60 (.iload_n 2) 1, xP 61 (.iconst 2) 1, xP 62 (.if_icmp .ne 9) 3, xP 65 (.aload_n 0) 1, xP 66 (.aload_n 3) 1, xQ 67 (.invokevirtual 205) 3 111 2 865, xP 70 .ireturn 1, xP 71 (.aload_n 0) 1, xQ 72 (.getfield 43) 3 8 4 366, xP 75 (.aload_n 3) 1, xQ 76 (.invokevirtual 180) 3 59 1 690, xP 79 (.bipush (-6)) 2, xQ 81 (.invokevirtual 208) 3 41 3 733, xP 84 .pop 1, xP 85 (.aload_n 0) 1, xQ 86 (.getfield 43) 3 8 4 366, xQ 89 (.getfield 211) 3 3 10 287, xP 92 .ireturn 1]
/-- SofaStair.least -/
noncomputable def xc_98 : List (Nat × xa_I) := [xP 0 (.aload_n 0) 1, xQ 1 (.getfield 19) 3 8 1 363, xP 4 (.iload_n 1) 1, xQ 5 (.invokevirtual 80) 3 51 2 399, xP 8 (.astore_n 3) 1, xP 9 (.aload_n 3) 1, xP 10 (.iload_n 2) 1, xP 11 (.iconst 2) 1, xQ 12 (.invokestatic 125) 3 127 2 464, xQ 15 (.invokestatic 172) 3 126 2 683, xP 18 (.istore 4) 2, xP 20 (.aload_n 3) 1, xP 21 (.ifnull 8) 3, xP 24 (.iload 4) 2, xP 26 (.ifCond .eq 6) 3, xP 29 (.iload 4) 2, xP 31 .ireturn 1, xP 32 (.aload_n 0) 1, xQ 33 (.getfield 59) 3 8 6 368, xP 36 (.iconst 3) 1, xP 37 (.iload_n 1) 1, xP 38 (.iconst 0) 1, xP 39 (.iconst 0) 1, xQ 40 (.invokevirtual 214) 3 6 5 718, xP 43 (.ifCond .eq 8) 3, xP 46 (.aload_n 0) 1, xP 47 (.aload_n 3) 1, xQ 48 (.invokevirtual 218) 3 114 2 879, xP 51 (.aload_n 0) 1, xQ 52 (.getfield 59) 3 8 6 368, xP 55 (.iload_n 2) 1, xQ 56 (.invokevirtual 221) 3 9 2 843, xP 59 .ireturn 1]
/-- SofaStair.bar -/
noncomputable def xc_99 : List (Nat × xa_I) := [xP 0 (.iload_n 1) 1, xQ 1 (.invokestatic 224) 3 128 1 715, xP 4 (.ifCond .ne 6) 3, xP 7 (.bipush (-2)) 2, xP 9 .ireturn 1, xP 10 (.aload_n 0) 1, xQ 11 (.getfield 19) 3 8 1 363, xP 14 (.iconst 0) 1, xQ 15 (.invokevirtual 80) 3 51 2 399, xP 18 (.astore_n 2) 1, xP 19 (.aload_n 2) 1, xP 20 (.ifnull 10) 3, xP 23 (.aload_n 2) 1, xQ 24 (.getfield 84) 3 5 1 181, xP 27 (.ifCond .ge 6) 3, xP 30 (.bipush (-3)) 2, xP 32 .ireturn 1, xP 33 (.aload_n 0) 1, xQ 34 (.getfield 59) 3 8 6 368, xP 37 (.iconst 4) 1, xP 38 (.iconst 0) 1, xP 39 (.iconst 0) 1, xP 40 (.iload_n 1) 1, xQ 41 (.invokevirtual 214) 3 6 5 718, xP 44 (.ifCond .eq 9) 3, xP 47 (.aload_n 0) 1, xP 48 (.aload_n 2) 1, xP 49 (.iload_n 1) 1, xQ 50 (.invokevirtual 228) 3 119 3 910, xP 53 (.aload_n 0) 1, xQ 54 (.getfield 59) 3 8 6 368, xP 57 (.iconst 0) 1, xQ 58 (.invokevirtual 221) 3 9 2 843, xP 61 .ireturn 1]
/-- SofaStair.order -/
noncomputable def xc_100 : List (Nat × xa_I) := [xP 0 (.iload_n 1) 1, xP 1 (.iconst 1) 1, xP 2 (.if_icmp .lt 10) 3, xP 5 (.iload_n 1) 1, xQ 6 (.invokestatic 224) 3 128 1 715, xP 9 (.ifCond .ne 6) 3, xP 12 (.bipush (-2)) 2, xP 14 .ireturn 1, xP 15 (.iconst 0) 1, xP 16 (.istore_n 3) 1, xP 17 (.iload_n 3) 1, xP 18 (.iconst 4) 1, xP 19 (.if_icmp .ge 43) 3, xP 22 (.aload_n 0) 1, xQ 23 (.getfield 19) 3 8 1 363, xP 26 (.iload_n 3) 1, xQ 27 (.invokevirtual 80) 3 51 2 399, xP 30 (.astore 4) 2, xP 32 (.iload_n 1) 1, xP 33 (.iload_n 3) 1, xQ 34 (.invokestatic 232) 3 129 2 899, xP 37 (.ifCond .eq 19) 3, xP 40 (.aload 4) 2, xP 42 (.ifnull 11) 3, xP 45 (.aload 4) 2, xQ 47 (.getfield 84) 3 5 1 181, xP 50 (.ifCond .ge 6) 3, xP 53 (.bipush (-3)) 2, xP 55 .ireturn 1, xP 56 (.iinc 3 1) 3, xP 59 (.goto (-42)) 3, xP 62 (.aload_n 0) 1, xQ 63 (.getfield 59) 3 8 6 368, xP 66 (.iconst 5) 1, xP 67 (.iconst 0) 1, xP 68 (.iconst 0) 1, xP 69 (.iload_n 1) 1, xQ 70 (.invokevirtual 214) 3 6 5 718, xP 73 (.ifCond .eq 8) 3, xP 76 (.aload_n 0) 1, xP 77 (.iload_n 1) 1, xQ 78 (.invokevirtual 235) 3 121 2 926, xP 81 (.aload_n 0) 1, xQ 82 (.getfield 59) 3 8 6 368, xP 85 (.iload_n 2) 1, xQ 86 (.invokevirtual 221) 3 9 2 843, xP 89 .ireturn 1]
/-- SofaStair.came -/
noncomputable def xc_101 : List (Nat × xa_I) := [xP 0 (.aload_n 0) 1, xQ 1 (.getfield 19) 3 8 1 363, xP 4 (.iload_n 1) 1, xQ 5 (.invokevirtual 80) 3 51 2 399, xP 8 (.astore_n 3) 1, xP 9 (.aload_n 3) 1, xP 10 (.iload_n 2) 1, xP 11 (.iconst 1) 1, xQ 12 (.invokestatic 125) 3 127 2 464, xQ 15 (.invokestatic 172) 3 126 2 683, xP 18 (.istore 4) 2, xP 20 (.aload_n 3) 1, xP 21 (.ifnull 8) 3, xP 24 (.iload 4) 2, xP 26 (.ifCond .eq 6) 3, xP 29 (.iload 4) 2, xP 31 .ireturn 1, xP 32 (.aload_n 0) 1, xQ 33 (.getfield 59) 3 8 6 368, xP 36 (.bipush 6) 2, xP 38 (.iload_n 1) 1, xP 39 (.iconst 0) 1, xP 40 (.iconst 0) 1, xQ 41 (.invokevirtual 214) 3 6 5 718, xP 44 (.ifCond .eq 8) 3, xP 47 (.aload_n 0) 1, xP 48 (.aload_n 3) 1, xQ 49 (.invokevirtual 239) 3 117 2 946, xP 52 (.aload_n 0) 1, xQ 53 (.getfield 59) 3 8 6 368, xP 56 (.iload_n 2) 1, xQ 57 (.invokevirtual 221) 3 9 2 843, xP 60 .ireturn 1]
/-- SofaStair.image -/
noncomputable def xc_102 : List (Nat × xa_I) := [xP 0 (.aload_n 0) 1, xP 1 (.iload_n 1) 1, xQ 2 (.invokevirtual 242) 3 124 2 957, xP 5 (.astore_n 2) 1, xP 6 (.aload_n 2) 1, xP 7 (.ifnonnull 6) 3, xP 10 (.bipush (-2)) 2, xP 12 .ireturn 1, xP 13 (.aload_n 2) 1, xP 14 (.aload_n 0) 1, xQ 15 (.getfield 19) 3 8 1 363, xQ 18 (.invokevirtual 246) 3 53 2 961, xP 21 (.aload_n 2) 1, xP 22 (.iconst 1) 1, xQ 23 (.putfield 250) 3 4 4 220, xP 26 (.iconst 1) 1, xP 27 .ireturn 1]
/-- SofaStair.restore -/
noncomputable def xc_103 : List (Nat × xa_I) := [xP 0 (.aload_n 0) 1, xP 1 (.iload_n 1) 1, xQ 2 (.invokevirtual 242) 3 124 2 957, xP 5 (.astore_n 2) 1, xP 6 (.aload_n 2) 1, xP 7 (.ifnonnull 6) 3, xP 10 (.bipush (-2)) 2, xP 12 .ireturn 1, xP 13 (.aload_n 2) 1, xQ 14 (.getfield 250) 3 4 4 220, xP 17 (.ifCond .ne 6) 3, xP 20 (.bipush (-3)) 2, xP 22 .ireturn 1, xP 23 (.aload_n 0) 1, xQ 24 (.getfield 19) 3 8 1 363, xP 27 (.aload_n 2) 1, xQ 28 (.invokevirtual 246) 3 53 2 961, xP 31 (.aload_n 0) 1, xQ 32 (.invokevirtual 91) 3 125 1 403, xP 35 (.iconst 1) 1, xP 36 .ireturn 1]
/-- SofaStair.told -/
noncomputable def xc_104 : List (Nat × xa_I) := [xP 0 (.iload_n 1) 1, xP 1 (.bipush 10) 2, xP 3 (.if_icmp .ge 7) 3, xP 6 .aconst_null 1, xP 7 (.goto 14) 3, xP 10 (.aload_n 0) 1, xQ 11 (.getfield 19) 3 8 1 363, xP 14 (.iload_n 1) 1, xP 15 (.bipush 10) 2, xP 17 .irem 1, xQ 18 (.invokevirtual 80) 3 51 2 399, xP 21 (.astore_n 2) 1, xP 22 (.aload_n 2) 1, xP 23 (.ifnonnull 29) 3, xP 26 (.iload_n 1) 1, xP 27 (.ifCond .ne 13) 3, xP 30 (.aload_n 0) 1, xQ 31 (.getfield 12) 3 8 0 362, xQ 34 (.getfield 183) 3 2 1 112, xP 37 (.goto 14) 3, xP 40 (.aload_n 0) 1, xQ 41 (.getfield 19) 3 8 1 363, xQ 44 (.getfield 36) 3 4 0 214, xP 47 (.iload_n 1) 1, xQ 48 (.invokevirtual 254) 3 80 2 986, xP 51 .ireturn 1, xP 52 (.iload_n 1) 1, xP 53 (.bipush 10) 2, xP 55 .idiv 1, xP 56 (.tableswitch 61 1 3 #[28, 33, 53]) 28, xP 84 (.aload_n 2) 1, xQ 85 (.getfield 139) 3 5 0 179, xP 88 .ireturn 1, xP 89 (.aload_n 2) 1, xQ 90 (.getfield 84) 3 5 1 181, xP 93 (.ifCond .ge 8) 3, xP 96 (.bipush (-6)) 2, xP 98 (.goto 10) 3, xP 101 (.aload_n 2) 1, xQ 102 (.getfield 84) 3 5 1 181, xQ 105 (.invokestatic 169) 3 136 1 676, xP 108 .ireturn 1, xP 109 (.aload_n 2) 1, xQ 110 (.getfield 88) 3 5 3 186, xQ 113 (.invokestatic 169) 3 136 1 676, xP 116 .ireturn 1, xP 117 (.bipush (-2)) 2, xP 119 .ireturn 1]
/-- SofaStair.turnedByPad -/
noncomputable def xc_105 : List (Nat × xa_I) := [xP 0 (.iconst 0) 1, xP 1 (.istore_n 1) 1, xP 2 (.iconst 0) 1, xP 3 (.istore_n 2) 1, xP 4 (.iload_n 2) 1, xP 5 (.aload_n 0) 1, xQ 6 (.getfield 12) 3 8 0 362, xQ 9 (.getfield 183) 3 2 1 112, xP 12 (.if_icmp .ge 38) 3, xP 15 (.aload_n 0) 1, xQ 16 (.getfield 12) 3 8 0 362, xP 19 (.iload_n 2) 1, xQ 20 (.invokevirtual 186) 3 27 2 640, xP 23 (.bipush 6) 2, xP 25 .isub 1, xP 26 (.istore_n 3) 1, xP 27 (.iload_n 3) 1, xP 28 (.ifCond .ge 6) 3, xP 31 (.bipush (-5)) 2, xP 33 .ireturn 1, xP 34 (.aload_n 0) 1, xQ 35 (.getfield 30) 3 8 3 365, xP 38 (.iload_n 1) 1, xP 39 (.iload_n 3) 1, xQ 40 (.invokevirtual 257) 3 65 3 641, xP 43 (.istore_n 1) 1, xP 44 (.iinc 2 1) 3, xP 47 (.goto (-43)) 3, xP 50 (.iload_n 1) 1, xP 51 .ireturn 1]
/-- SofaStair.judged -/
noncomputable def xc_106 : List (Nat × xa_I) := [xP 0 (.aload_n 0) 1, xQ 1 (.getfield 43) 3 8 4 366, xP 4 (.aload_n 1) 1, xQ 5 (.invokevirtual 162) 3 35 2 645, xP 8 (.aload_n 1) 1, xQ 9 (.invokevirtual 180) 3 59 1 690, xP 12 (.istore_n 3) 1, xP 13 (.iconst 0) 1, xP 14 (.istore 4) 2, xP 16 (.iload 4) 2, xP 18 (.aload_n 0) 1, xQ 19 (.getfield 12) 3 8 0 362, xQ 22 (.getfield 183) 3 2 1 112, xP 25 (.if_icmp .ge 54) 3, xP 28 (.aload_n 0) 1, xQ 29 (.getfield 43) 3 8 4 366, xP 32 (.iload_n 3) 1, xP 33 (.aload_n 0) 1, xQ 34 (.getfield 12) 3 8 0 362, xP 37 (.iload 4) 2, xQ 39 (.invokevirtual 186) 3 27 2 640, xQ 42 (.invokevirtual 189) 3 40 3 694, xP 45 (.istore_n 3) 1, xP 46 (.aload_n 0) 1, xQ 47 (.getfield 43) 3 8 4 366, xP 50 (.iload_n 3) 1, xQ 51 (.invokevirtual 166) 3 39 2 663, xP 54 (.istore 5) 2, xP 56 (.iload 5) 2, xP 58 (.ifCond .eq 15) 3, xP 61 (.iload_n 2) 1, xP 62 (.ifCond .ne 8) 3, xP 65 (.iload 4) 2, xP 67 (.goto 5) 3, xP 70 (.iload 5) 2, xP 72 .ireturn 1, xP 73 (.iinc 4 1) 3, xP 76 (.goto (-60)) 3, xP 79 (.bipush (-6)) 2, xP 81 .ireturn 1]
/-- SofaStair.rowAnswer -/
noncomputable def xc_107 : List (Nat × xa_I) := [xP 0 (.aload_n 0) 1, xQ 1 (.getfield 19) 3 8 1 363, xP 4 (.iload_n 2) 1, xQ 5 (.invokevirtual 80) 3 51 2 399, xP 8 (.astore 6) 2, xP 10 (.aload 6) 2, xP 12 (.iload_n 3) 1, xQ 13 (.invokestatic 224) 3 128 1 715, xP 16 (.ifCond .eq 15) 3, xP 19 (.iload 4) 2, xQ 21 (.invokestatic 224) 3 128 1 715, xP 24 (.ifCond .eq 7) 3, xP 27 (.iconst 1) 1, xP 28 (.goto 4) 3, xP 31 (.iconst 0) 1, xQ 32 (.invokestatic 172) 3 126 2 683, xP 35 (.istore 7) 2, xP 37 (.aload 6) 2, xP 39 (.ifnull 8) 3, xP 42 (.iload 7) 2, xP 44 (.ifCond .eq 6) 3, xP 47 (.iload 7) 2, xP 49 .ireturn 1, xP 50 (.aload_n 0) 1, xQ 51 (.getfield 59) 3 8 6 368, xP 54 (.iload_n 1) 1, xP 55 (.iload_n 2) 1, xP 56 (.iload_n 3) 1, xP 57 (.iload 4) 2, xQ 59 (.invokevirtual 214) 3 6 5 718, xP 62 (.ifCond .eq 77) 3, xP 65 (.aload_n 0) 1, xQ 66 (.getfield 43) 3 8 4 366, xP 69 (.aload 6) 2, xQ 71 (.invokevirtual 162) 3 35 2 645, xP 74 (.aload_n 0) 1, xQ 75 (.getfield 43) 3 8 4 366, xP 78 (.iload_n 3) 1, xP 79 (.iload 4) 2, xQ 81 (.invokevirtual 201) 3 37 3 722, xP 84 (.iload_n 1) 1, xP 85 (.iconst 1) 1, xP 86 (.if_icmp .ne 12) 3, xP 89 (.aload_n 0) 1, xP 90 (.aload 6) 2, xQ 92 (.invokevirtual 260) 3 108 2 729, xP 95 (.goto 44) 3, xP 98 (.aload_n 0) 1, xQ 99 (.getfield 52) 3 8 5 367, xP 102 (.aload_n 0) 1, xQ 103 (.getfield 19) 3 8 1 363, xQ 106 (.getfield 263) 3 4 3 219, xP 109 (.aload 6) 2, xP 111 (.iload_n 3) 1, xQ 112 (.invokevirtual 266) 3 63 2 783, xQ 115 (.invokevirtual 269) 3 11 3 789, xP 118 (.aload_n 0) 1, xQ 119 (.getfield 52) 3 8 5 367, xP 122 (.aload 6) 2, xQ 124 (.invokevirtual 180) 3 59 1 690, xP 127 (.aload 6) 2, xQ 129 (.getfield 88) 3 5 3 186, xP 132 (.aload_n 0) 1, xQ 133 (.getfield 59) 3 8 6 368, xQ 136 (.invokevirtual 273) 3 12 4 794, xP 139 (.iload 5) 2, xP 141 (.iconst (-1)) 1, xP 142 (.if_icmp .ne 13) 3, xP 145 (.aload_n 0) 1, xQ 146 (.getfield 59) 3 8 6 368, xQ 149 (.getfield 277) 3 0 3 350, xP 152 (.goto 12) 3, xP 155 (.aload_n 0) 1, xQ 156 (.getfield 59) 3 8 6 368, xP 159 (.iload 5) 2, xQ 161 (.invokevirtual 221) 3 9 2 843, xP 164 .ireturn 1]
/-- SofaStair.findGoes -/
noncomputable def xc_108 : List (Nat × xa_I) := [xP 0 (.aload_n 0) 1, xQ 1 (.getfield 43) 3 8 4 366, xP 4 (.aload_n 1) 1, xQ 5 (.invokevirtual 180) 3 59 1 690, xP 8 (.aload_n 1) 1, xQ 9 (.getfield 88) 3 5 3 186, xQ 12 (.invokevirtual 208) 3 41 3 733, xP 15 (.istore_n 2) 1, xP 16 (.iload_n 2) 1, xP 17 (.ifCond .ge 11) 3, xP 20 (.aload_n 0) 1, xQ 21 (.getfield 59) 3 8 6 368, xQ 24 (.invokevirtual 280) 3 7 1 746, xP 27 .return_ 1, xP 28 (.aload_n 0) 1, xQ 29 (.getfield 43) 3 8 4 366, xP 32 (.iload_n 2) 1, xP 33 (.aload_n 0) 1, xQ 34 (.getfield 59) 3 8 6 368, xQ 37 (.invokevirtual 283) 3 42 3 750, xP 40 (.aload_n 0) 1, xQ 41 (.getfield 59) 3 8 6 368, xP 44 (.aload_n 0) 1, xQ 45 (.getfield 59) 3 8 6 368, xQ 48 (.getfield 287) 3 0 2 347, xQ 51 (.putfield 277) 3 0 3 350, xP 54 .return_ 1]
/-- SofaStair.scrapes -/
noncomputable def xc_109 : List (Nat × xa_I) := [xP 0 (.iconst 0) 1, xP 1 (.istore_n 2) 1, xP 2 (.iconst 0) 1, xP 3 (.istore_n 3) 1, xP 4 (.iload_n 3) 1, xP 5 (.aload_n 1) 1, xQ 6 (.getfield 139) 3 5 0 179, xP 9 (.if_icmp .ge 157) 3, xP 12 (.aload_n 1) 1, xQ 13 (.getfield 84) 3 5 1 181, xQ 16 (.invokestatic 98) 3 133 1 423, xP 19 (.aload_n 1) 1, xP 20 (.aload_n 0) 1, xQ 21 (.getfield 30) 3 8 3 365, xP 24 (.aload_n 1) 1, xQ 25 (.getfield 145) 3 5 2 185, xP 28 (.iload_n 3) 1, xP 29 (.iconst 0) 1, xQ 30 (.invokevirtual 148) 3 61 5 615, xP 33 .iadd 1, xP 34 (.istore 4) 2, xP 36 (.aload_n 1) 1, xQ 37 (.getfield 84) 3 5 1 181, xQ 40 (.invokestatic 101) 3 134 1 424, xP 43 (.aload_n 1) 1, xP 44 (.aload_n 0) 1, xQ 45 (.getfield 30) 3 8 3 365, xP 48 (.aload_n 1) 1, xQ 49 (.getfield 145) 3 5 2 185, xP 52 (.iload_n 3) 1, xP 53 (.iconst 1) 1, xQ 54 (.invokevirtual 148) 3 61 5 615, xP 57 .iadd 1, xP 58 (.istore 5) 2, xP 60 (.aload_n 1) 1, xQ 61 (.getfield 84) 3 5 1 181, xQ 64 (.invokestatic 104) 3 135 1 425, xP 67 (.aload_n 1) 1, xP 68 (.aload_n 0) 1, xQ 69 (.getfield 30) 3 8 3 365, xP 72 (.aload_n 1) 1, xQ 73 (.getfield 145) 3 5 2 185, xP 76 (.iload_n 3) 1, xP 77 (.iconst 2) 1, xQ 78 (.invokevirtual 148) 3 61 5 615, xP 81 .iadd 1, xP 82 (.istore 6) 2, xP 84 (.iload_n 2) 1, xP 85 (.aload_n 0) 1, xP 86 (.aload_n 1) 1, xP 87 (.iload 4) 2, xP 89 (.iconst 1) 1, xP 90 .isub 1, xP 91 (.iload 5) 2, xP 93 (.iload 6) 2, xQ 95 (.invokevirtual 288) 3 110 5 860, xP 98 (.aload_n 0) 1, xP 99 (.aload_n 1) 1, xP 100 (.iload 4) 2, xP 102 (.iconst 1) 1, xP 103 .iadd 1, xP 104 (.iload 5) 2, xP 106 (.iload 6) 2, xQ 108 (.invokevirtual 288) 3 110 5 860, xP 111 .iadd 1, xP 112 .iadd 1, xP 113 (.istore_n 2) 1, xP 114 (.iload_n 2) 1, xP 115 (.aload_n 0) 1, xP 116 (.aload_n 1) 1, xP 117 (.iload 4) 2, xP 119 (.iload 5) 2, xP 121 (.iconst 1) 1, xP 122 .isub 1, xP 123 (.iload 6) 2, xQ 125 (.invokevirtual 288) 3 110 5 860, xP 128 (.aload_n 0) 1, xP 129 (.aload_n 1) 1, xP 130 (.iload 4) 2, xP 132 (.iload 5) 2, xP 134 (.iconst 1) 1, xP 135 .iadd 1, xP 136 (.iload 6) 2, xQ 138 (.invokevirtual 288) 3 110 5 860, xP 141 .iadd 1, xP 142 .iadd 1, xP 143 (.istore_n 2) 1, xP 144 (.iload_n 2) 1, xP 145 (.aload_n 0) 1, xP 146 (.aload_n 1) 1, xP 147 (.iload 4) 2, xP 149 (.iload 5) 2, xP 151 (.iload 6) 2, xP 153 (.iconst 1) 1, xP 154 .iadd 1, xQ 155 (.invokevirtual 288) 3 110 5 860, xP 158 .iadd 1, xP 159 (.istore_n 2) 1, xP 160 (.iinc 3 1) 3, xP 163 (.goto (-159)) 3, xP 166 (.iload_n 2) 1, xP 167 .ireturn 1]
/-- SofaStair.scrapesAt -/
noncomputable def xc_110 : List (Nat × xa_I) := [xP 0 (.iconst 0) 1, xP 1 (.istore 5) 2, xP 3 (.iload 5) 2, xP 5 (.aload_n 1) 1, xQ 6 (.getfield 139) 3 5 0 179, xP 9 (.if_icmp .ge 93) 3, xP 12 (.iload_n 2) 1, xP 13 (.aload_n 1) 1, xQ 14 (.getfield 84) 3 5 1 181, xQ 17 (.invokestatic 98) 3 133 1 423, xP 20 (.aload_n 1) 1, xP 21 (.aload_n 0) 1, xQ 22 (.getfield 30) 3 8 3 365, xP 25 (.aload_n 1) 1, xQ 26 (.getfield 145) 3 5 2 185, xP 29 (.iload 5) 2, xP 31 (.iconst 0) 1, xQ 32 (.invokevirtual 148) 3 61 5 615, xP 35 .iadd 1, xP 36 (.if_icmp .ne 60) 3, xP 39 (.iload_n 3) 1, xP 40 (.aload_n 1) 1, xQ 41 (.getfield 84) 3 5 1 181, xQ 44 (.invokestatic 101) 3 134 1 424, xP 47 (.aload_n 1) 1, xP 48 (.aload_n 0) 1, xQ 49 (.getfield 30) 3 8 3 365, xP 52 (.aload_n 1) 1, xQ 53 (.getfield 145) 3 5 2 185, xP 56 (.iload 5) 2, xP 58 (.iconst 1) 1, xQ 59 (.invokevirtual 148) 3 61 5 615, xP 62 .iadd 1, xP 63 (.if_icmp .ne 33) 3, xP 66 (.iload 4) 2, xP 68 (.aload_n 1) 1, xQ 69 (.getfield 84) 3 5 1 181, xQ 72 (.invokestatic 104) 3 135 1 425, xP 75 (.aload_n 1) 1, xP 76 (.aload_n 0) 1, xQ 77 (.getfield 30) 3 8 3 365, xP 80 (.aload_n 1) 1, xQ 81 (.getfield 145) 3 5 2 185, xP 84 (.iload 5) 2, xP 86 (.iconst 2) 1, xQ 87 (.invokevirtual 148) 3 61 5 615, xP 90 .iadd 1, xP 91 (.if_icmp .ne 5) 3, xP 94 (.iconst 0) 1, xP 95 .ireturn 1, xP 96 (.iinc 5 1) 3, xP 99 (.goto (-96)) 3, xP 102 (.aload_n 0) 1, xQ 103 (.getfield 19) 3 8 1 363, xQ 106 (.getfield 36) 3 4 0 214, xP 109 (.iload_n 2) 1, xP 110 (.iload_n 3) 1, xP 111 (.iload 4) 2, xQ 113 (.invokevirtual 292) 3 73 4 864, xP 116 (.istore 5) 2, xP 118 (.iload 5) 2, xP 120 (.ifCond .lt 18) 3, xP 123 (.aload_n 0) 1, xQ 124 (.getfield 19) 3 8 1 363, xQ 127 (.getfield 36) 3 4 0 214, xP 130 (.iload 5) 2, xQ 132 (.invokevirtual 111) 3 77 2 434, xP 135 (.ifCond .eq 7) 3, xP 138 (.iconst 1) 1, xP 139 (.goto 4) 3, xP 142 (.iconst 0) 1, xP 143 .ireturn 1]
/-- SofaStair.turnable -/
noncomputable def xc_111 : List (Nat × xa_I) := [xP 0 (.iconst 0) 1, xP 1 (.istore_n 2) 1, xP 2 (.iconst 0) 1, xP 3 (.istore_n 3) 1, xP 4 (.iload_n 3) 1, xP 5 (.sipush 144) 3, xP 8 (.if_icmp .ge 38) 3, xP 11 (.aload_n 0) 1, xQ 12 (.getfield 19) 3 8 1 363, xQ 15 (.getfield 36) 3 4 0 214, xP 18 (.iload_n 3) 1, xQ 19 (.invokevirtual 295) 3 75 2 869, xP 22 (.ifCond .eq 18) 3, xP 25 (.aload_n 0) 1, xP 26 (.iload_n 3) 1, xP 27 (.aload_n 1) 1, xQ 28 (.getfield 145) 3 5 2 185, xQ 31 (.invokevirtual 298) 3 112 3 870, xP 34 (.ifCond .eq 6) 3, xP 37 (.iinc 2 1) 3, xP 40 (.iinc 3 1) 3, xP 43 (.goto (-39)) 3, xP 46 (.iload_n 2) 1, xP 47 .ireturn 1]
/-- SofaStair.fitsAllRound -/
noncomputable def xc_112 : List (Nat × xa_I) := [xP 0 (.iload_n 2) 1, xP 1 (.istore_n 3) 1, xP 2 (.iconst 0) 1, xP 3 (.istore 4) 2, xP 5 (.iload 4) 2, xP 7 (.iconst 4) 1, xP 8 (.if_icmp .ge 37) 3, xP 11 (.aload_n 0) 1, xQ 12 (.getfield 43) 3 8 4 366, xP 15 (.iload_n 1) 1, xP 16 (.bipush 24) 2, xP 18 .imul 1, xP 19 (.iload_n 3) 1, xP 20 .iadd 1, xQ 21 (.invokevirtual 301) 3 38 2 874, xP 24 (.ifCond .ne 5) 3, xP 27 (.iconst 0) 1, xP 28 .ireturn 1, xP 29 (.aload_n 0) 1, xQ 30 (.getfield 30) 3 8 3 365, xP 33 (.iload_n 3) 1, xP 34 (.iconst 2) 1, xQ 35 (.invokevirtual 257) 3 65 3 641, xP 38 (.istore_n 3) 1, xP 39 (.iinc 4 1) 3, xP 42 (.goto (-37)) 3, xP 45 (.iconst 1) 1, xP 46 .ireturn 1]
/-- SofaStair.goesWith -/
noncomputable def xc_113 : List (Nat × xa_I) := [xP 0 (.aload_n 0) 1, xQ 1 (.getfield 43) 3 8 4 366, xP 4 (.iload_n 2) 1, xP 5 (.bipush 16) 2, xP 7 .idiv 1, xP 8 (.iload_n 2) 1, xP 9 (.bipush 16) 2, xP 11 .irem 1, xQ 12 (.invokevirtual 201) 3 37 3 722, xP 15 (.aload_n 0) 1, xQ 16 (.getfield 43) 3 8 4 366, xP 19 (.aload_n 1) 1, xQ 20 (.invokevirtual 180) 3 59 1 690, xP 23 (.aload_n 1) 1, xQ 24 (.getfield 88) 3 5 3 186, xQ 27 (.invokevirtual 208) 3 41 3 733, xP 30 (.ifCond .lt 7) 3, xP 33 (.iconst 1) 1, xP 34 (.goto 4) 3, xP 37 (.iconst 0) 1, xP 38 .ireturn 1]
/-- SofaStair.findLeast -/
noncomputable def xc_114 : List (Nat × xa_I) := [xP 0 (.aload_n 0) 1, xQ 1 (.getfield 59) 3 8 6 368, xQ 4 (.invokevirtual 280) 3 7 1 746, xP 7 (.aload_n 0) 1, xQ 8 (.getfield 43) 3 8 4 366, xP 11 (.aload_n 1) 1, xQ 12 (.invokevirtual 162) 3 35 2 645, xP 15 (.aload_n 1) 1, xQ 16 (.invokevirtual 304) 3 62 1 883, xP 19 (.bipush 16) 2, xP 21 .imul 1, xP 22 (.aload_n 0) 1, xQ 23 (.getfield 19) 3 8 1 363, xQ 26 (.getfield 36) 3 4 0 214, xQ 29 (.invokevirtual 307) 3 79 1 887, xP 32 .iadd 1, xP 33 (.istore_n 2) 1, xP 34 (.aload_n 0) 1, xP 35 (.aload_n 1) 1, xP 36 (.iload_n 2) 1, xQ 37 (.invokevirtual 310) 3 113 3 891, xP 40 (.ifCond .ne 4) 3, xP 43 .return_ 1, xP 44 (.aload_n 0) 1, xP 45 (.aload_n 1) 1, xP 46 (.iload_n 2) 1, xQ 47 (.invokevirtual 314) 3 115 3 895, xP 50 (.istore_n 3) 1, xP 51 (.aload_n 0) 1, xP 52 (.aload_n 1) 1, xQ 53 (.invokevirtual 317) 3 116 2 900, xP 56 (.iconst 0) 1, xP 57 (.istore 4) 2, xP 59 (.iload 4) 2, xP 61 (.bipush 72) 2, xP 63 (.if_icmp .gt 114) 3, xP 66 (.iconst 0) 1, xP 67 (.istore 5) 2, xP 69 (.iload 5) 2, xP 71 (.aload_n 0) 1, xQ 72 (.getfield 70) 3 8 8 370, xP 75 .arraylength 1, xP 76 (.if_icmp .ge 95) 3, xP 79 (.aload_n 0) 1, xQ 80 (.getfield 70) 3 8 8 370, xP 83 (.iload 5) 2, xP 85 .iaload 1, xP 86 (.iload 4) 2, xP 88 (.if_icmp .ne 25) 3, xP 91 (.iload 5) 2, xP 93 (.iload_n 2) 1, xP 94 (.iconst (-1)) 1, xP 95 .ixor 1, xP 96 .iand 1, xP 97 (.ifCond .ne 16) 3, xP 100 (.iload_n 3) 1, xP 101 (.iload 5) 2, xP 103 (.iconst (-1)) 1, xP 104 .ixor 1, xP 105 .iand 1, xP 106 (.ifCond .ne 7) 3, xP 109 (.iconst 1) 1, xP 110 (.goto 4) 3, xP 113 (.iconst 0) 1, xP 114 (.istore 6) 2, xP 116 (.iload 6) 2, xP 118 (.ifCond .eq 47) 3, xP 121 (.aload_n 0) 1, xP 122 (.aload_n 1) 1, xP 123 (.iload 5) 2, xQ 125 (.invokevirtual 310) 3 113 3 891, xP 128 (.ifCond .eq 37) 3, xP 131 (.aload_n 0) 1, xQ 132 (.getfield 59) 3 8 6 368, xP 135 (.iload 4) 2, xQ 137 (.invokevirtual 320) 3 8 2 905, xP 140 (.aload_n 0) 1, xQ 141 (.getfield 59) 3 8 6 368, xP 144 (.iload 5) 2, xP 146 (.bipush 16) 2, xP 148 .idiv 1, xQ 149 (.invokevirtual 320) 3 8 2 905, xP 152 (.aload_n 0) 1, xQ 153 (.getfield 59) 3 8 6 368, xP 156 (.iload 5) 2, xP 158 (.bipush 16) 2, xP 160 .irem 1, xQ 161 (.invokevirtual 320) 3 8 2 905, xP 164 .return_ 1, xP 165 (.iinc 5 1) 3, xP 168 (.goto (-99)) 3, xP 171 (.iinc 4 1) 3, xP 174 (.goto (-115)) 3, xP 177 .return_ 1]
/-- SofaStair.neededOf -/
noncomputable def xc_115 : List (Nat × xa_I) := [xP 0 (.iconst 0) 1, xP 1 (.istore_n 3) 1, xP 2 (.iconst 0) 1, xP 3 (.istore 4) 2, xP 5 (.iload 4) 2, xP 7 (.bipush 8) 2, xP 9 (.if_icmp .ge 41) 3, xP 12 (.iload_n 2) 1, xP 13 (.iload 4) 2, xQ 15 (.invokestatic 232) 3 129 2 899, xP 18 (.ifCond .eq 26) 3, xP 21 (.aload_n 0) 1, xP 22 (.aload_n 1) 1, xP 23 (.iload_n 2) 1, xP 24 (.iconst 1) 1, xP 25 (.iload 4) 2, xP 27 .ishl 1, xP 28 (.iconst (-1)) 1, xP 29 .ixor 1, xP 30 .iand 1, xQ 31 (.invokevirtual 310) 3 113 3 891, xP 34 (.ifCond .ne 10) 3, xP 37 (.iload_n 3) 1, xP 38 (.iconst 1) 1, xP 39 (.iload 4) 2, xP 41 .ishl 1, xP 42 .ior 1, xP 43 (.istore_n 3) 1, xP 44 (.iinc 4 1) 3, xP 47 (.goto (-42)) 3, xP 50 (.iload_n 3) 1, xP 51 .ireturn 1]
/-- SofaStair.sumSetCosts -/
noncomputable def xc_116 : List (Nat × xa_I) := [xP 0 (.iconst 0) 1, xP 1 (.istore_n 2) 1, xP 2 (.iload_n 2) 1, xP 3 (.aload_n 0) 1, xQ 4 (.getfield 70) 3 8 8 370, xP 7 .arraylength 1, xP 8 (.if_icmp .ge 89) 3, xP 11 (.iconst 0) 1, xP 12 (.istore_n 3) 1, xP 13 (.iconst 0) 1, xP 14 (.istore 4) 2, xP 16 (.iload 4) 2, xP 18 (.iconst 4) 1, xP 19 (.if_icmp .ge 65) 3, xP 22 (.iload_n 3) 1, xP 23 (.iload_n 2) 1, xP 24 (.iload 4) 2, xQ 26 (.invokestatic 232) 3 129 2 899, xP 29 (.ifCond .eq 18) 3, xP 32 (.aload_n 0) 1, xQ 33 (.getfield 19) 3 8 1 363, xQ 36 (.getfield 322) 3 4 2 217, xP 39 (.iload 4) 2, xQ 41 (.invokestatic 325) 3 130 2 904, xP 44 (.goto 4) 3, xP 47 (.iconst 0) 1, xP 48 .iadd 1, xP 49 (.istore_n 3) 1, xP 50 (.iload_n 3) 1, xP 51 (.iload_n 2) 1, xP 52 (.bipush 16) 2, xP 54 .idiv 1, xP 55 (.iload 4) 2, xQ 57 (.invokestatic 232) 3 129 2 899, xP 60 (.ifCond .eq 15) 3, xP 63 (.aload_n 1) 1, xQ 64 (.getfield 329) 3 5 7 194, xP 67 (.iload 4) 2, xQ 69 (.invokestatic 325) 3 130 2 904, xP 72 (.goto 4) 3, xP 75 (.iconst 0) 1, xP 76 .iadd 1, xP 77 (.istore_n 3) 1, xP 78 (.iinc 4 1) 3, xP 81 (.goto (-65)) 3, xP 84 (.aload_n 0) 1, xQ 85 (.getfield 70) 3 8 8 370, xP 88 (.iload_n 2) 1, xP 89 (.iload_n 3) 1, xP 90 .iastore 1, xP 91 (.iinc 2 1) 3, xP 94 (.goto (-92)) 3, xP 97 .return_ 1]
/-- SofaStair.findCame -/
noncomputable def xc_117 : List (Nat × xa_I) := [xP 0 (.aload_n 0) 1, xQ 1 (.getfield 59) 3 8 6 368, xQ 4 (.invokevirtual 280) 3 7 1 746, xP 7 (.aload_n 0) 1, xQ 8 (.getfield 43) 3 8 4 366, xP 11 (.aload_n 1) 1, xQ 12 (.invokevirtual 162) 3 35 2 645, xP 15 (.aload_n 0) 1, xQ 16 (.getfield 19) 3 8 1 363, xQ 19 (.getfield 36) 3 4 0 214, xQ 22 (.invokevirtual 307) 3 79 1 887, xP 25 (.istore_n 2) 1, xP 26 (.iconst 0) 1, xP 27 (.istore_n 3) 1, xP 28 (.iconst 0) 1, xP 29 (.istore 4) 2, xP 31 (.bipush 15) 2, xP 33 (.istore 5) 2, xP 35 (.iconst 0) 1, xP 36 (.istore 6) 2, xP 38 (.iload 6) 2, xP 40 (.bipush 16) 2, xP 42 (.if_icmp .ge 54) 3, xP 45 (.iload_n 3) 1, xP 46 (.iload 6) 2, xQ 48 (.invokestatic 332) 3 118 2 950, xP 51 (.ifCond .ne 22) 3, xP 54 (.iload 6) 2, xP 56 (.iload_n 2) 1, xP 57 (.iconst (-1)) 1, xP 58 .ixor 1, xP 59 .iand 1, xP 60 (.ifCond .ne 30) 3, xP 63 (.aload_n 0) 1, xP 64 (.aload_n 1) 1, xP 65 (.iload 6) 2, xQ 67 (.invokevirtual 310) 3 113 3 891, xP 70 (.ifCond .eq 20) 3, xP 73 (.iload_n 3) 1, xP 74 (.iconst 1) 1, xP 75 (.iload 6) 2, xP 77 .ishl 1, xP 78 .ior 1, xP 79 (.istore_n 3) 1, xP 80 (.iinc 4 1) 3, xP 83 (.iload 5) 2, xP 85 (.iload 6) 2, xP 87 .iand 1, xP 88 (.istore 5) 2, xP 90 (.iinc 6 1) 3, xP 93 (.goto (-55)) 3, xP 96 (.aload_n 0) 1, xQ 97 (.getfield 59) 3 8 6 368, xP 100 (.iload 4) 2, xQ 102 (.invokevirtual 320) 3 8 2 905, xP 105 (.iload 4) 2, xP 107 (.ifCond .le 12) 3, xP 110 (.aload_n 0) 1, xQ 111 (.getfield 59) 3 8 6 368, xP 114 (.iload 5) 2, xQ 116 (.invokevirtual 320) 3 8 2 905, xP 119 .return_ 1]
/-- SofaStair.goesByLess -/
noncomputable def xc_118 : List (Nat × xa_I) := [xP 0 (.iconst 0) 1, xP 1 (.istore_n 2) 1, xP 2 (.iload_n 2) 1, xP 3 (.iconst 4) 1, xP 4 (.if_icmp .ge 33) 3, xP 7 (.iload_n 1) 1, xP 8 (.iload_n 2) 1, xQ 9 (.invokestatic 232) 3 129 2 899, xP 12 (.ifCond .eq 19) 3, xP 15 (.iload_n 0) 1, xP 16 (.iload_n 1) 1, xP 17 (.iconst 1) 1, xP 18 (.iload_n 2) 1, xP 19 .ishl 1, xP 20 (.iconst (-1)) 1, xP 21 .ixor 1, xP 22 .iand 1, xQ 23 (.invokestatic 232) 3 129 2 899, xP 26 (.ifCond .eq 5) 3, xP 29 (.iconst 1) 1, xP 30 .ireturn 1, xP 31 (.iinc 2 1) 3, xP 34 (.goto (-32)) 3, xP 37 (.iconst 0) 1, xP 38 .ireturn 1]
/-- SofaStair.findBar -/
noncomputable def xc_119 : List (Nat × xa_I) := [xP 0 (.aload_n 0) 1, xQ 1 (.getfield 59) 3 8 6 368, xQ 4 (.invokevirtual 280) 3 7 1 746, xP 7 (.bipush 6) 2, xP 9 (.istore_n 3) 1, xP 10 (.iload_n 3) 1, xP 11 (.ifCond .le 28) 3, xP 14 (.aload_n 0) 1, xP 15 (.aload_n 1) 1, xP 16 (.iload_n 3) 1, xP 17 (.iload_n 2) 1, xQ 18 (.invokevirtual 335) 3 120 4 914, xP 21 (.ifCond .eq 12) 3, xP 24 (.aload_n 0) 1, xQ 25 (.getfield 59) 3 8 6 368, xP 28 (.iload_n 3) 1, xQ 29 (.invokevirtual 320) 3 8 2 905, xP 32 .return_ 1, xP 33 (.iinc 3 (-1)) 3, xP 36 (.goto (-26)) 3, xP 39 .return_ 1]
/-- SofaStair.barGoes -/
noncomputable def xc_120 : List (Nat × xa_I) := [xP 0 (.aload_n 0) 1, xQ 1 (.getfield 66) 3 8 7 369, xP 4 (.iload_n 2) 1, xQ 5 (.invokevirtual 339) 3 56 2 918, xP 8 (.aload_n 0) 1, xQ 9 (.getfield 43) 3 8 4 366, xQ 12 (.invokevirtual 342) 3 34 1 407, xP 15 (.aload_n 0) 1, xQ 16 (.getfield 43) 3 8 4 366, xP 19 (.aload_n 0) 1, xQ 20 (.getfield 66) 3 8 7 369, xQ 23 (.invokevirtual 162) 3 35 2 645, xP 26 (.aload_n 0) 1, xQ 27 (.getfield 43) 3 8 4 366, xP 30 (.iconst 0) 1, xP 31 (.iload_n 3) 1, xQ 32 (.invokevirtual 201) 3 37 3 722, xP 35 (.aload_n 1) 1, xQ 36 (.getfield 84) 3 5 1 181, xP 39 (.bipush 24) 2, xP 41 .imul 1, xP 42 (.istore 4) 2, xP 44 (.iload 4) 2, xP 46 (.aload_n 0) 1, xQ 47 (.getfield 30) 3 8 3 365, xP 50 (.iconst 0) 1, xP 51 (.iconst 2) 1, xQ 52 (.invokevirtual 257) 3 65 3 641, xP 55 .iadd 1, xP 56 (.istore 5) 2, xP 58 (.iload 4) 2, xP 60 (.aload_n 0) 1, xQ 61 (.getfield 30) 3 8 3 365, xP 64 (.iconst 0) 1, xP 65 (.iconst 1) 1, xQ 66 (.invokevirtual 257) 3 65 3 641, xP 69 .iadd 1, xP 70 (.istore 6) 2, xP 72 (.aload_n 0) 1, xQ 73 (.getfield 43) 3 8 4 366, xP 76 (.iload 4) 2, xQ 78 (.invokevirtual 301) 3 38 2 874, xP 81 (.ifCond .eq 8) 3, xP 84 (.iload 4) 2, xP 86 (.goto 22) 3, xP 89 (.aload_n 0) 1, xQ 90 (.getfield 43) 3 8 4 366, xP 93 (.iload 5) 2, xQ 95 (.invokevirtual 301) 3 38 2 874, xP 98 (.ifCond .eq 8) 3, xP 101 (.iload 5) 2, xP 103 (.goto 5) 3, xP 106 (.iload 6) 2, xP 108 (.istore 7) 2, xP 110 (.aload_n 0) 1, xQ 111 (.getfield 43) 3 8 4 366, xP 114 (.iload 7) 2, xP 116 (.aload_n 1) 1, xQ 117 (.getfield 88) 3 5 3 186, xQ 120 (.invokevirtual 208) 3 41 3 733, xP 123 (.ifCond .lt 7) 3, xP 126 (.iconst 1) 1, xP 127 (.goto 4) 3, xP 130 (.iconst 0) 1, xP 131 .ireturn 1]
/-- SofaStair.findOrder -/
noncomputable def xc_121 : List (Nat × xa_I) := [xP 0 (.aload_n 0) 1, xQ 1 (.getfield 59) 3 8 6 368, xQ 4 (.invokevirtual 280) 3 7 1 746, xP 7 (.iload_n 1) 1, xP 8 (.istore_n 2) 1, xP 9 (.iconst 0) 1, xP 10 (.istore_n 3) 1, xP 11 (.iload_n 3) 1, xP 12 (.iconst 4) 1, xP 13 (.if_icmp .ge 53) 3, xP 16 (.iload_n 2) 1, xP 17 (.ifCond .eq 49) 3, xP 20 (.aload_n 0) 1, xP 21 (.iload_n 2) 1, xQ 22 (.invokevirtual 343) 3 122 2 930, xP 25 (.istore 4) 2, xP 27 (.iload 4) 2, xP 29 (.ifCond .ge 13) 3, xP 32 (.aload_n 0) 1, xQ 33 (.getfield 59) 3 8 6 368, xQ 36 (.invokevirtual 280) 3 7 1 746, xP 39 (.goto 27) 3, xP 42 (.aload_n 0) 1, xQ 43 (.getfield 59) 3 8 6 368, xP 46 (.iload 4) 2, xQ 48 (.invokevirtual 320) 3 8 2 905, xP 51 (.iload_n 2) 1, xP 52 (.iconst 1) 1, xP 53 (.iload 4) 2, xP 55 .ishl 1, xP 56 (.iconst (-1)) 1, xP 57 .ixor 1, xP 58 .iand 1, xP 59 (.istore_n 2) 1, xP 60 (.iinc 3 1) 3, xP 63 (.goto (-52)) 3, xP 66 (.aload_n 0) 1, xQ 67 (.getfield 43) 3 8 4 366, xQ 70 (.invokevirtual 342) 3 34 1 407, xP 73 .return_ 1]
/-- SofaStair.firstToGo -/
noncomputable def xc_122 : List (Nat × xa_I) := [xP 0 (.iconst 0) 1, xP 1 (.istore_n 2) 1, xP 2 (.iload_n 2) 1, xP 3 (.iconst 4) 1, xP 4 (.if_icmp .ge 28) 3, xP 7 (.iload_n 1) 1, xP 8 (.iload_n 2) 1, xQ 9 (.invokestatic 232) 3 129 2 899, xP 12 (.ifCond .eq 14) 3, xP 15 (.aload_n 0) 1, xP 16 (.iload_n 2) 1, xP 17 (.iload_n 1) 1, xQ 18 (.invokevirtual 346) 3 123 3 934, xP 21 (.ifCond .eq 5) 3, xP 24 (.iload_n 2) 1, xP 25 .ireturn 1, xP 26 (.iinc 2 1) 3, xP 29 (.goto (-27)) 3, xP 32 (.bipush (-6)) 2, xP 34 .ireturn 1]
/-- SofaStair.goesAmong -/
noncomputable def xc_123 : List (Nat × xa_I) := [xP 0 (.aload_n 0) 1, xQ 1 (.getfield 19) 3 8 1 363, xP 4 (.iload_n 1) 1, xQ 5 (.invokevirtual 80) 3 51 2 399, xP 8 (.astore_n 3) 1, xP 9 (.aload_n 3) 1, xP 10 (.ifnonnull 5) 3, xP 13 (.iconst 0) 1, xP 14 .ireturn 1, xP 15 (.aload_n 0) 1, xQ 16 (.getfield 43) 3 8 4 366, xQ 19 (.invokevirtual 342) 3 34 1 407, xP 22 (.aload_n 0) 1, xQ 23 (.getfield 43) 3 8 4 366, xP 26 (.aload_n 3) 1, xQ 27 (.invokevirtual 162) 3 35 2 645, xP 30 (.iconst 0) 1, xP 31 (.istore 4) 2, xP 33 (.iload 4) 2, xP 35 (.iconst 4) 1, xP 36 (.if_icmp .ge 49) 3, xP 39 (.aload_n 0) 1, xQ 40 (.getfield 19) 3 8 1 363, xP 43 (.iload 4) 2, xQ 45 (.invokevirtual 80) 3 51 2 399, xP 48 (.astore 5) 2, xP 50 (.iload 4) 2, xP 52 (.iload_n 1) 1, xP 53 (.if_icmp .eq 26) 3, xP 56 (.iload_n 2) 1, xP 57 (.iload 4) 2, xQ 59 (.invokestatic 232) 3 129 2 899, xP 62 (.ifCond .eq 17) 3, xP 65 (.aload 5) 2, xP 67 (.ifnull 12) 3, xP 70 (.aload_n 0) 1, xQ 71 (.getfield 43) 3 8 4 366, xP 74 (.aload 5) 2, xQ 76 (.invokevirtual 349) 3 36 2 938, xP 79 (.iinc 4 1) 3, xP 82 (.goto (-49)) 3, xP 85 (.aload_n 0) 1, xQ 86 (.getfield 43) 3 8 4 366, xP 89 (.iconst 0) 1, xP 90 (.iconst 0) 1, xQ 91 (.invokevirtual 201) 3 37 3 722, xP 94 (.aload_n 0) 1, xQ 95 (.getfield 43) 3 8 4 366, xP 98 (.aload_n 3) 1, xQ 99 (.invokevirtual 180) 3 59 1 690, xP 102 (.aload_n 3) 1, xQ 103 (.getfield 88) 3 5 3 186, xQ 106 (.invokevirtual 208) 3 41 3 733, xP 109 (.ifCond .lt 7) 3, xP 112 (.iconst 1) 1, xP 113 (.goto 4) 3, xP 116 (.iconst 0) 1, xP 117 .ireturn 1]
/-- SofaStair.imageAt -/
noncomputable def xc_124 : List (Nat × xa_I) := [xP 0 (.iload_n 1) 1, xP 1 (.ifCond .lt 21) 3, xP 4 (.iload_n 1) 1, xP 5 (.aload_n 0) 1, xQ 6 (.getfield 23) 3 8 2 364, xP 9 .arraylength 1, xP 10 (.if_icmp .ge 12) 3, xP 13 (.aload_n 0) 1, xQ 14 (.getfield 23) 3 8 2 364, xP 17 (.iload_n 1) 1, xP 18 .aaload 1, xP 19 (.goto 4) 3, xP 22 .aconst_null 1, xP 23 .areturn 1]
/-- SofaStair.forgetWay -/
noncomputable def xc_125 : List (Nat × xa_I) := [xP 0 (.aload_n 0) 1, xQ 1 (.getfield 43) 3 8 4 366, xQ 4 (.invokevirtual 342) 3 34 1 407, xP 7 (.aload_n 0) 1, xQ 8 (.getfield 59) 3 8 6 368, xQ 11 (.invokevirtual 156) 3 5 1 411, xP 14 .return_ 1]
/-- SofaStair.refusalOf -/
noncomputable def xc_126 : List (Nat × xa_I) := [xP 0 (.aload_n 0) 1, xP 1 (.ifnonnull 5) 3, xP 4 (.iconst (-1)) 1, xP 5 .ireturn 1, xP 6 (.iload_n 1) 1, xP 7 (.ifCond .ne 6) 3, xP 10 (.bipush (-2)) 2, xP 12 .ireturn 1, xP 13 (.aload_n 0) 1, xQ 14 (.getfield 84) 3 5 1 181, xP 17 (.ifCond .ge 8) 3, xP 20 (.bipush (-3)) 2, xP 22 (.goto 4) 3, xP 25 (.iconst 0) 1, xP 26 .ireturn 1]
/-- SofaStair.isUpTo -/
noncomputable def xc_127 : List (Nat × xa_I) := [xP 0 (.iload_n 0) 1, xP 1 (.ifCond .lt 12) 3, xP 4 (.iload_n 0) 1, xP 5 (.iload_n 1) 1, xP 6 (.if_icmp .gt 7) 3, xP 9 (.iconst 1) 1, xP 10 (.goto 4) 3, xP 13 (.iconst 0) 1, xP 14 .ireturn 1]
/-- SofaStair.isSet -/
noncomputable def xc_128 : List (Nat × xa_I) := [xP 0 (.iload_n 0) 1, xP 1 (.bipush 15) 2, xQ 3 (.invokestatic 125) 3 127 2 464, xP 6 .ireturn 1]
/-- SofaStair.has -/
noncomputable def xc_129 : List (Nat × xa_I) := [xP 0 (.iload_n 0) 1, xP 1 (.iload_n 1) 1, xP 2 .ishr 1, xP 3 (.iconst 1) 1, xP 4 .iand 1, xP 5 (.ifCond .eq 7) 3, xP 8 (.iconst 1) 1, xP 9 (.goto 4) 3, xP 12 (.iconst 0) 1, xP 13 .ireturn 1]
/-- SofaStair.read -/
noncomputable def xc_130 : List (Nat × xa_I) := [xP 0 (.iload_n 1) 1, xP 1 (.ifCond .lt 15) 3, xP 4 (.iload_n 1) 1, xP 5 (.aload_n 0) 1, xP 6 .arraylength 1, xP 7 (.if_icmp .ge 9) 3, xP 10 (.aload_n 0) 1, xP 11 (.iload_n 1) 1, xP 12 .iaload 1, xP 13 (.goto 4) 3, xP 16 (.iconst 0) 1, xP 17 .ireturn 1]
/-- SofaStair.write -/
noncomputable def xc_131 : List (Nat × xa_I) := [xP 0 (.iload_n 1) 1, xP 1 (.ifCond .lt 13) 3, xP 4 (.iload_n 1) 1, xP 5 (.aload_n 0) 1, xP 6 .arraylength 1, xP 7 (.if_icmp .ge 7) 3, xP 10 (.aload_n 0) 1, xP 11 (.iload_n 1) 1, xP 12 (.iload_n 2) 1, xP 13 .iastore 1, xP 14 .return_ 1]
/-- SofaStair.copy -/
noncomputable def xc_132 : List (Nat × xa_I) := [xP 0 (.iconst 0) 1, xP 1 (.istore_n 2) 1, xP 2 (.iload_n 2) 1, xP 3 (.aload_n 0) 1, xP 4 .arraylength 1, xP 5 (.if_icmp .ge 21) 3, xP 8 (.iload_n 2) 1, xP 9 (.aload_n 1) 1, xP 10 .arraylength 1, xP 11 (.if_icmp .ge 15) 3, xP 14 (.aload_n 1) 1, xP 15 (.iload_n 2) 1, xP 16 (.aload_n 0) 1, xP 17 (.iload_n 2) 1, xP 18 .iaload 1, xP 19 .iastore 1, xP 20 (.iinc 2 1) 3, xP 23 (.goto (-21)) 3, xP 26 .return_ 1]
/-- SofaStair.xOf -/
noncomputable def xc_133 : List (Nat × xa_I) := [xP 0 (.iload_n 0) 1, xP 1 (.bipush 24) 2, xP 3 .idiv 1, xP 4 .ireturn 1]
/-- SofaStair.yOf -/
noncomputable def xc_134 : List (Nat × xa_I) := [xP 0 (.iload_n 0) 1, xP 1 (.iconst 4) 1, xP 2 .idiv 1, xP 3 (.bipush 6) 2, xP 5 .irem 1, xP 6 .ireturn 1]
/-- SofaStair.zOf -/
noncomputable def xc_135 : List (Nat × xa_I) := [xP 0 (.iload_n 0) 1, xP 1 (.iconst 4) 1, xP 2 .irem 1, xP 3 .ireturn 1]
/-- SofaStair.cellOf -/
noncomputable def xc_136 : List (Nat × xa_I) := [xP 0 (.bipush 100) 2, xP 2 (.iload_n 0) 1, xQ 3 (.invokestatic 98) 3 133 1 423, xP 6 .imul 1, xP 7 (.bipush 10) 2, xP 9 (.iload_n 0) 1, xQ 10 (.invokestatic 101) 3 134 1 424, xP 13 .imul 1, xP 14 .iadd 1, xP 15 (.iload_n 0) 1, xQ 16 (.invokestatic 104) 3 135 1 425, xP 19 .iadd 1, xP 20 .ireturn 1]
/-- SofaStairModel.<init> -/
noncomputable def xc_200 : List (Nat × xa_I) := [xP 0 (.aload_n 0) 1, xQ 1 (.invokespecial 1) 3 9999 1 995, xP 4 (.aload_n 0) 1, xP 5 (.sipush 216) 3, xP 8 (.newarray .int) 2, xQ 10 (.putfield 7) 3 9 0 1008, xP 13 (.aload_n 0) 1, xP 14 (.sipush 144) 3, xP 17 (.newarray .int) 2, xQ 19 (.putfield 13) 3 9 1 1009, xP 22 (.aload_n 0) 1, xP 23 (.bipush 9) 2, xP 25 (.newarray .int) 2, xQ 27 (.putfield 16) 3 9 2 1010, xP 30 (.aload_n 0) 1, xP 31 (.sipush 144) 3, xP 34 (.newarray .int) 2, xQ 36 (.putfield 19) 3 9 6 1014, xP 39 (.aload_n 0) 1, xP 40 (.iconst 5) 1, xP 41 (.newarray .int) 2, xQ 43 (.putfield 22) 3 9 7 1015, xP 46 (.aload_n 0) 1, xP 47 (.bipush 50) 2, xP 49 (.newarray .int) 2, xQ 51 (.putfield 25) 3 9 8 1016, xP 54 (.aload_n 0) 1, xP 55 (.bipush 50) 2, xP 57 (.newarray .int) 2, xQ 59 (.putfield 28) 3 9 9 1017, xP 62 (.aload_n 0) 1, xP 63 (.bipush 50) 2, xP 65 (.newarray .int) 2, xQ 67 (.putfield 31) 3 9 10 1018, xP 70 (.aload_n 0) 1, xP 71 (.bipush 50) 2, xP 73 (.newarray .int) 2, xQ 75 (.putfield 34) 3 9 11 1019, xP 78 (.aload_n 0) 1, xP 79 (.bipush 16) 2, xP 81 (.newarray .int) 2, xQ 83 (.putfield 37) 3 9 12 1020, xP 86 (.aload_n 0) 1, xP 87 (.iconst 4) 1, xP 88 (.newarray .int) 2, xQ 90 (.putfield 40) 3 9 13 1021, xP 93 (.aload_n 0) 1, xP 94 (.iconst 4) 1, xP 95 (.newarray .int) 2, xQ 97 (.putfield 43) 3 9 14 1022, xP 100 (.aload_n 0) 1, xP 101 (.iconst 5) 1, xP 102 (.newarray .int) 2, xQ 104 (.putfield 46) 3 9 15 1023, xP 107 (.aload_n 0) 1, xP 108 (.iconst 5) 1, xP 109 (.newarray .int) 2, xQ 111 (.putfield 49) 3 9 16 1024, xP 114 (.aload_n 0) 1, xP 115 (.iconst 5) 1, xP 116 (.newarray .int) 2, xQ 118 (.putfield 52) 3 9 17 1025, xP 121 (.aload_n 0) 1, xP 122 (.bipush 60) 2, xP 124 (.newarray .int) 2, xQ 126 (.putfield 55) 3 9 18 1026, xP 129 (.aload_n 0) 1, xP 130 (.bipush 10) 2, xP 132 (.newarray .int) 2, xQ 134 (.putfield 58) 3 9 20 1028, xP 137 (.aload_n 0) 1, xP 138 (.bipush 10) 2, xP 140 (.newarray .int) 2, xQ 142 (.putfield 61) 3 9 21 1029, xP 145 (.aload_n 0) 1, xP 146 (.bipush 10) 2, xP 148 (.newarray .int) 2, xQ 150 (.putfield 64) 3 9 22 1030, xP 153 (.aload_n 0) 1, xP 154 (.sipush 144) 3, xP 157 (.newarray .boolean) 2, xQ 159 (.putfield 67) 3 9 25 1033, xP 162 (.aload_n 0) 1, xP 163 (.sipush 3456) 3, xP 166 (.newarray .boolean) 2, xQ 168 (.putfield 71) 3 9 32 1040, xP 171 (.aload_n 0) 1, xP 172 (.sipush 3456) 3, xP 175 (.newarray .long) 2, xQ 177 (.putfield 74) 3 9 33 1041, xP 180 (.aload_n 0) 1, xP 181 (.sipush 3456) 3, xP 184 (.newarray .int) 2, xQ 186 (.putfield 78) 3 9 34 1042, xP 189 (.aload_n 0) 1, xP 190 (.sipush 3456) 3, xP 193 (.newarray .boolean) 2, xQ 195 (.putfield 81) 3 9 35 1043, xP 198 (.aload_n 0) 1, xP 199 (.iconst 4) 1, xP 200 (.newarray .int) 2, xQ 202 (.putfield 84) 3 9 38 1046, xP 205 (.aload_n 0) 1, xP 206 (.sipush 840) 3, xP 209 (.newarray .int) 2, xQ 211 (.putfield 87) 3 9 39 1047, xP 214 (.aload_n 0) 1, xP 215 (.iconst 2) 1, xP 216 (.newarray .boolean) 2, xQ 218 (.putfield 90) 3 9 40 1048, xP 221 (.aload_n 0) 1, xP 222 (.bipush 6) 2, xQ 224 (.putfield 93) 3 9 3 1011, xP 227 (.aload_n 0) 1, xP 228 (.bipush 6) 2, xQ 230 (.putfield 97) 3 9 4 1012, xP 233 (.aload_n 0) 1, xP 234 (.iconst 2) 1, xQ 235 (.putfield 100) 3 9 5 1013, xP 238 (.iconst 0) 1, xP 239 (.istore_n 1) 1, xP 240 (.iload_n 1) 1, xP 241 (.iconst 4) 1, xP 242 (.if_icmp .ge 55) 3, xP 245 (.aload_n 0) 1, xQ 246 (.getfield 46) 3 9 15 1023, xP 249 (.iload_n 1) 1, xP 250 (.bipush (-6)) 2, xP 252 .iastore 1, xP 253 (.aload_n 0) 1, xQ 254 (.getfield 40) 3 9 13 1021, xP 257 (.iload_n 1) 1, xP 258 (.iconst 1) 1, xP 259 .iastore 1, xP 260 (.aload_n 0) 1, xQ 261 (.getfield 43) 3 9 14 1022, xP 264 (.iload_n 1) 1, xP 265 (.iconst 1) 1, xP 266 .iastore 1, xP 267 (.iconst 0) 1, xP 268 (.istore_n 2) 1, xP 269 (.iload_n 2) 1, xP 270 (.iconst 4) 1, xP 271 (.if_icmp .ge 20) 3, xP 274 (.aload_n 0) 1, xQ 275 (.getfield 37) 3 9 12 1020, xP 278 (.iconst 4) 1, xP 279 (.iload_n 1) 1, xP 280 .imul 1, xP 281 (.iload_n 2) 1, xP 282 .iadd 1, xP 283 (.iconst 1) 1, xP 284 .iastore 1, xP 285 (.iinc 2 1) 3, xP 288 (.goto (-19)) 3, xP 291 (.iinc 1 1) 3, xP 294 (.goto (-54)) 3, xP 297 (.aload_n 0) 1, xQ 298 (.invokevirtual 103) 3 205 1 996, xP 301 .return_ 1]
/-- SofaStairModel.in -/
noncomputable def xc_201 : List (Nat × xa_I) := [xP 0 (.lload_n 0) 1, xP 1 (.lload_n 2) 1, xP 2 .lcmp 1, xP 3 (.ifCond .lt 14) 3, xP 6 (.lload_n 0) 1, xP 7 (.lload 4) 2, xP 9 .lcmp 1, xP 10 (.ifCond .gt 7) 3, xP 13 (.iconst 1) 1, xP 14 (.goto 4) 3, xP 17 (.iconst 0) 1, xP 18 .ireturn 1]
/-- SofaStairModel.isThing -/
noncomputable def xc_202 : List (Nat × xa_I) := [xP 0 (.iload_n 0) 1, xP 1 .i2l 1, xP 2 (.lconst 0) 1, xQ 3 (.ldc2_w 106) 3 3 0 1212, xQ 6 (.invokestatic 108) 3 201 3 1145, xP 9 .ireturn 1]
/-- SofaStairModel.turn -/
noncomputable def xc_203 : List (Nat × xa_I) := [xP 0 (.iload_n 2) 1, xP 1 (.iconst 3) 1, xP 2 .irem 1, xP 3 (.istore_n 3) 1, xP 4 (.iload_n 3) 1, xP 5 (.ifCond .ne 7) 3, xP 8 (.iconst 1) 1, xP 9 (.goto 13) 3, xP 12 (.iload_n 3) 1, xP 13 (.iconst 1) 1, xP 14 (.if_icmp .ne 7) 3, xP 17 (.iconst 2) 1, xP 18 (.goto 4) 3, xP 21 (.iconst 0) 1, xP 22 (.istore 4) 2, xP 24 (.iload_n 3) 1, xP 25 (.ifCond .ne 7) 3, xP 28 (.iconst 2) 1, xP 29 (.goto 13) 3, xP 32 (.iload_n 3) 1, xP 33 (.iconst 1) 1, xP 34 (.if_icmp .ne 7) 3, xP 37 (.iconst 0) 1, xP 38 (.goto 4) 3, xP 41 (.iconst 1) 1, xP 42 (.istore 5) 2, xP 44 (.iload_n 2) 1, xP 45 (.iconst 3) 1, xP 46 (.if_icmp .ge 7) 3, xP 49 (.iconst 1) 1, xP 50 (.goto 4) 3, xP 53 (.iconst (-1)) 1, xP 54 (.istore 6) 2, xP 56 (.iconst 0) 1, xP 57 (.istore 7) 2, xP 59 (.iload 7) 2, xP 61 (.iconst 3) 1, xP 62 (.if_icmp .ge 101) 3, xP 65 (.aload_n 0) 1, xQ 66 (.getfield 16) 3 9 2 1010, xP 69 (.iconst 3) 1, xP 70 (.iload_n 3) 1, xP 71 .imul 1, xP 72 (.iload 7) 2, xP 74 .iadd 1, xP 75 (.aload_n 0) 1, xQ 76 (.getfield 7) 3 9 0 1008, xP 79 (.bipush 9) 2, xP 81 (.iload_n 1) 1, xP 82 .imul 1, xP 83 (.iconst 3) 1, xP 84 (.iload_n 3) 1, xP 85 .imul 1, xP 86 .iadd 1, xP 87 (.iload 7) 2, xP 89 .iadd 1, xP 90 .iaload 1, xP 91 .iastore 1, xP 92 (.aload_n 0) 1, xQ 93 (.getfield 16) 3 9 2 1010, xP 96 (.iconst 3) 1, xP 97 (.iload 4) 2, xP 99 .imul 1, xP 100 (.iload 7) 2, xP 102 .iadd 1, xP 103 (.iload 6) 2, xP 105 .ineg 1, xP 106 (.aload_n 0) 1, xQ 107 (.getfield 7) 3 9 0 1008, xP 110 (.bipush 9) 2, xP 112 (.iload_n 1) 1, xP 113 .imul 1, xP 114 (.iconst 3) 1, xP 115 (.iload 5) 2, xP 117 .imul 1, xP 118 .iadd 1, xP 119 (.iload 7) 2, xP 121 .iadd 1, xP 122 .iaload 1, xP 123 .imul 1, xP 124 .iastore 1, xP 125 (.aload_n 0) 1, xQ 126 (.getfield 16) 3 9 2 1010, xP 129 (.iconst 3) 1, xP 130 (.iload 5) 2, xP 132 .imul 1, xP 133 (.iload 7) 2, xP 135 .iadd 1, xP 136 (.iload 6) 2, xP 138 (.aload_n 0) 1, xQ 139 (.getfield 7) 3 9 0 1008, xP 142 (.bipush 9) 2, xP 144 (.iload_n 1) 1, xP 145 .imul 1, xP 146 (.iconst 3) 1, xP 147 (.iload 4) 2, xP 149 .imul 1, xP 150 .iadd 1, xP 151 (.iload 7) 2, xP 153 .iadd 1, xP 154 .iaload 1, xP 155 .imul 1, xP 156 .iastore 1, xP 157 (.iinc 7 1) 3, xP 160 (.goto (-101)) 3, xP 163 .return_ 1]
/-- SofaStairModel.tableOf -/
noncomputable def xc_204 : List (Nat × xa_I) := [xP 0 (.iconst 0) 1, xP 1 (.istore_n 2) 1, xP 2 (.iload_n 2) 1, xP 3 (.iload_n 1) 1, xP 4 (.if_icmp .ge 65) 3, xP 7 (.iconst 1) 1, xP 8 (.istore_n 3) 1, xP 9 (.iconst 0) 1, xP 10 (.istore 4) 2, xP 12 (.iload 4) 2, xP 14 (.bipush 9) 2, xP 16 (.if_icmp .ge 41) 3, xP 19 (.iload_n 3) 1, xP 20 (.ifCond .eq 29) 3, xP 23 (.aload_n 0) 1, xQ 24 (.getfield 7) 3 9 0 1008, xP 27 (.bipush 9) 2, xP 29 (.iload_n 2) 1, xP 30 .imul 1, xP 31 (.iload 4) 2, xP 33 .iadd 1, xP 34 .iaload 1, xP 35 (.aload_n 0) 1, xQ 36 (.getfield 16) 3 9 2 1010, xP 39 (.iload 4) 2, xP 41 .iaload 1, xP 42 (.if_icmp .ne 7) 3, xP 45 (.iconst 1) 1, xP 46 (.goto 4) 3, xP 49 (.iconst 0) 1, xP 50 (.istore_n 3) 1, xP 51 (.iinc 4 1) 3, xP 54 (.goto (-42)) 3, xP 57 (.iload_n 3) 1, xP 58 (.ifCond .eq 5) 3, xP 61 (.iload_n 2) 1, xP 62 .ireturn 1, xP 63 (.iinc 2 1) 3, xP 66 (.goto (-64)) 3, xP 69 (.bipush (-6)) 2, xP 71 .ireturn 1]
/-- SofaStairModel.findTables -/
noncomputable def xc_205 : List (Nat × xa_I) := [xP 0 (.iconst 1) 1, xP 1 (.istore_n 1) 1, xP 2 (.aload_n 0) 1, xQ 3 (.getfield 7) 3 9 0 1008, xP 6 (.iconst 0) 1, xP 7 (.iconst 1) 1, xP 8 .iastore 1, xP 9 (.aload_n 0) 1, xQ 10 (.getfield 7) 3 9 0 1008, xP 13 (.iconst 4) 1, xP 14 (.iconst 1) 1, xP 15 .iastore 1, xP 16 (.aload_n 0) 1, xQ 17 (.getfield 7) 3 9 0 1008, xP 20 (.bipush 8) 2, xP 22 (.iconst 1) 1, xP 23 .iastore 1, xP 24 (.iconst 0) 1, xP 25 (.istore_n 2) 1, xP 26 (.iload_n 2) 1, xP 27 (.iload_n 1) 1, xP 28 (.if_icmp .ge 95) 3, xP 31 (.iconst 0) 1, xP 32 (.istore_n 3) 1, xP 33 (.iload_n 3) 1, xP 34 (.bipush 6) 2, xP 36 (.if_icmp .ge 81) 3, xP 39 (.aload_n 0) 1, xP 40 (.iload_n 2) 1, xP 41 (.iload_n 3) 1, xQ 42 (.invokevirtual 112) 3 203 3 1000, xP 45 (.aload_n 0) 1, xP 46 (.iload_n 1) 1, xQ 47 (.invokevirtual 116) 3 204 2 1004, xP 50 (.istore 4) 2, xP 52 (.iload 4) 2, xP 54 (.ifCond .ge 44) 3, xP 57 (.iconst 0) 1, xP 58 (.istore 5) 2, xP 60 (.iload 5) 2, xP 62 (.bipush 9) 2, xP 64 (.if_icmp .ge 28) 3, xP 67 (.aload_n 0) 1, xQ 68 (.getfield 7) 3 9 0 1008, xP 71 (.bipush 9) 2, xP 73 (.iload_n 1) 1, xP 74 .imul 1, xP 75 (.iload 5) 2, xP 77 .iadd 1, xP 78 (.aload_n 0) 1, xQ 79 (.getfield 16) 3 9 2 1010, xP 82 (.iload 5) 2, xP 84 .iaload 1, xP 85 .iastore 1, xP 86 (.iinc 5 1) 3, xP 89 (.goto (-29)) 3, xP 92 (.iload_n 1) 1, xP 93 (.istore 4) 2, xP 95 (.iinc 1 1) 3, xP 98 (.aload_n 0) 1, xQ 99 (.getfield 13) 3 9 1 1009, xP 102 (.bipush 6) 2, xP 104 (.iload_n 2) 1, xP 105 .imul 1, xP 106 (.iload_n 3) 1, xP 107 .iadd 1, xP 108 (.iload 4) 2, xP 110 .iastore 1, xP 111 (.iinc 3 1) 3, xP 114 (.goto (-81)) 3, xP 117 (.iinc 2 1) 3, xP 120 (.goto (-94)) 3, xP 123 .return_ 1]
/-- SofaStairModel.isCell -/
noncomputable def xc_206 : List (Nat × xa_I) := [xP 0 (.iload_n 1) 1, xP 1 .i2l 1, xP 2 (.lconst 0) 1, xP 3 (.aload_n 0) 1, xQ 4 (.getfield 93) 3 9 3 1011, xP 7 (.iconst 1) 1, xP 8 .isub 1, xP 9 .i2l 1, xQ 10 (.invokestatic 108) 3 201 3 1145, xP 13 (.ifCond .eq 39) 3, xP 16 (.iload_n 2) 1, xP 17 .i2l 1, xP 18 (.lconst 0) 1, xP 19 (.aload_n 0) 1, xQ 20 (.getfield 97) 3 9 4 1012, xP 23 (.iconst 1) 1, xP 24 .isub 1, xP 25 .i2l 1, xQ 26 (.invokestatic 108) 3 201 3 1145, xP 29 (.ifCond .eq 23) 3, xP 32 (.iload_n 3) 1, xP 33 .i2l 1, xP 34 (.lconst 0) 1, xP 35 (.aload_n 0) 1, xQ 36 (.getfield 100) 3 9 5 1013, xP 39 (.iconst 1) 1, xP 40 .isub 1, xP 41 .i2l 1, xQ 42 (.invokestatic 108) 3 201 3 1145, xP 45 (.ifCond .eq 7) 3, xP 48 (.iconst 1) 1, xP 49 (.goto 4) 3, xP 52 (.iconst 0) 1, xP 53 .ireturn 1]
/-- SofaStairModel.isCellNumber -/
noncomputable def xc_207 : List (Nat × xa_I) := [xP 0 (.iload_n 1) 1, xP 1 (.ifCond .lt 29) 3, xP 4 (.aload_n 0) 1, xP 5 (.iload_n 1) 1, xP 6 (.bipush 100) 2, xP 8 .idiv 1, xP 9 (.iload_n 1) 1, xP 10 (.bipush 10) 2, xP 12 .idiv 1, xP 13 (.bipush 10) 2, xP 15 .irem 1, xP 16 (.iload_n 1) 1, xP 17 (.bipush 10) 2, xP 19 .irem 1, xQ 20 (.invokevirtual 120) 3 206 4 1157, xP 23 (.ifCond .eq 7) 3, xP 26 (.iconst 1) 1, xP 27 (.goto 4) 3, xP 30 (.iconst 0) 1, xP 31 .ireturn 1]
/-- SofaStairModel.at -/
noncomputable def xc_208 : List (Nat × xa_I) := [xP 0 (.bipush 24) 2, xP 2 (.iload_n 0) 1, xP 3 .imul 1, xP 4 (.iconst 4) 1, xP 5 (.iload_n 1) 1, xP 6 .imul 1, xP 7 .iadd 1, xP 8 (.iload_n 2) 1, xP 9 .iadd 1, xP 10 .ireturn 1]
/-- SofaStairModel.placeOf -/
noncomputable def xc_209 : List (Nat × xa_I) := [xP 0 (.iload_n 0) 1, xP 1 (.bipush 100) 2, xP 3 .idiv 1, xP 4 (.iload_n 0) 1, xP 5 (.bipush 10) 2, xP 7 .idiv 1, xP 8 (.bipush 10) 2, xP 10 .irem 1, xP 11 (.iload_n 0) 1, xP 12 (.bipush 10) 2, xP 14 .irem 1, xQ 15 (.invokestatic 124) 3 208 3 1162, xP 18 .ireturn 1]
/-- SofaStairModel.numberOf -/
noncomputable def xc_210 : List (Nat × xa_I) := [xP 0 (.bipush 100) 2, xP 2 (.iload_n 0) 1, xP 3 (.bipush 24) 2, xP 5 .idiv 1, xP 6 .imul 1, xP 7 (.bipush 10) 2, xP 9 (.iload_n 0) 1, xP 10 (.iconst 4) 1, xP 11 .idiv 1, xP 12 (.bipush 6) 2, xP 14 .irem 1, xP 15 .imul 1, xP 16 .iadd 1, xP 17 (.iload_n 0) 1, xP 18 (.iconst 4) 1, xP 19 .irem 1, xP 20 .iadd 1, xP 21 .ireturn 1]
/-- SofaStairModel.size -/
noncomputable def xc_211 : List (Nat × xa_I) := [xP 0 (.iload_n 1) 1, xP 1 .i2l 1, xP 2 (.lconst 1) 1, xQ 3 (.ldc2_w 128) 3 6 0 1144, xQ 6 (.invokestatic 108) 3 201 3 1145, xP 9 (.ifCond .eq 27) 3, xP 12 (.iload_n 2) 1, xP 13 .i2l 1, xP 14 (.lconst 1) 1, xQ 15 (.ldc2_w 128) 3 6 0 1144, xQ 18 (.invokestatic 108) 3 201 3 1145, xP 21 (.ifCond .eq 15) 3, xP 24 (.iload_n 3) 1, xP 25 .i2l 1, xP 26 (.lconst 1) 1, xQ 27 (.ldc2_w 130) 3 4 0 1148, xQ 30 (.invokestatic 108) 3 201 3 1145, xP 33 (.ifCond .ne 6) 3, xP 36 (.bipush (-2)) 2, xP 38 .ireturn 1, xP 39 (.aload_n 0) 1, xP 40 (.iload_n 1) 1, xQ 41 (.putfield 93) 3 9 3 1011, xP 44 (.aload_n 0) 1, xP 45 (.iload_n 2) 1, xQ 46 (.putfield 97) 3 9 4 1012, xP 49 (.aload_n 0) 1, xP 50 (.iload_n 3) 1, xQ 51 (.putfield 100) 3 9 5 1013, xP 54 (.iconst 0) 1, xP 55 (.istore 4) 2, xP 57 (.iload 4) 2, xP 59 (.sipush 144) 3, xP 62 (.if_icmp .ge 17) 3, xP 65 (.aload_n 0) 1, xQ 66 (.getfield 19) 3 9 6 1014, xP 69 (.iload 4) 2, xP 71 (.iconst 0) 1, xP 72 .iastore 1, xP 73 (.iinc 4 1) 3, xP 76 (.goto (-19)) 3, xP 79 (.iconst 0) 1, xP 80 (.istore 4) 2, xP 82 (.iload 4) 2, xP 84 (.iconst 4) 1, xP 85 (.if_icmp .ge 26) 3, xP 88 (.aload_n 0) 1, xQ 89 (.getfield 46) 3 9 15 1023, xP 92 (.iload 4) 2, xP 94 (.bipush (-6)) 2, xP 96 .iastore 1, xP 97 (.aload_n 0) 1, xQ 98 (.getfield 52) 3 9 17 1025, xP 101 (.iload 4) 2, xP 103 (.iconst 0) 1, xP 104 .iastore 1, xP 105 (.iinc 4 1) 3, xP 108 (.goto (-26)) 3, xP 111 (.iload_n 1) 1, xP 112 (.iload_n 2) 1, xP 113 .imul 1, xP 114 (.iload_n 3) 1, xP 115 .imul 1, xP 116 .ireturn 1]
/-- SofaStairModel.fill -/
noncomputable def xc_212 : List (Nat × xa_I) := [xP 0 (.aload_n 0) 1, xP 1 (.iload_n 1) 1, xQ 2 (.invokevirtual 132) 3 207 2 1153, xP 5 (.ifCond .eq 11) 3, xP 8 (.aload_n 0) 1, xP 9 (.iload_n 2) 1, xQ 10 (.invokevirtual 132) 3 207 2 1153, xP 13 (.ifCond .ne 5) 3, xP 16 (.iconst (-1)) 1, xP 17 .ireturn 1, xP 18 (.iload_n 3) 1, xP 19 .i2l 1, xP 20 (.lconst 0) 1, xQ 21 (.ldc2_w 136) 3 5 0 1161, xQ 24 (.invokestatic 108) 3 201 3 1145, xP 27 (.ifCond .eq 42) 3, xP 30 (.iload_n 1) 1, xP 31 (.bipush 100) 2, xP 33 .idiv 1, xP 34 (.iload_n 2) 1, xP 35 (.bipush 100) 2, xP 37 .idiv 1, xP 38 (.if_icmp .gt 31) 3, xP 41 (.iload_n 1) 1, xP 42 (.bipush 10) 2, xP 44 .idiv 1, xP 45 (.bipush 10) 2, xP 47 .irem 1, xP 48 (.iload_n 2) 1, xP 49 (.bipush 10) 2, xP 51 .idiv 1, xP 52 (.bipush 10) 2, xP 54 .irem 1, xP 55 (.if_icmp .gt 14) 3, xP 58 (.iload_n 1) 1, xP 59 (.bipush 10) 2, xP 61 .irem 1, xP 62 (.iload_n 2) 1, xP 63 (.bipush 10) 2, xP 65 .irem 1, xP 66 (.if_icmp .le 6) 3, xP 69 (.bipush (-2)) 2, xP 71 .ireturn 1, xP 72 (.iconst 0) 1, xP 73 (.istore 4) 2, xP 75 (.iload_n 1) 1, xP 76 (.bipush 100) 2, xP 78 .idiv 1, xP 79 (.istore 5) 2, xP 81 (.iload 5) 2, xP 83 (.iload_n 2) 1, xP 84 (.bipush 100) 2, xP 86 .idiv 1, xP 87 (.if_icmp .gt 75) 3, xP 90 (.iload_n 1) 1, xP 91 (.bipush 10) 2, xP 93 .idiv 1, xP 94 (.bipush 10) 2, xP 96 .irem 1, xP 97 (.istore 6) 2, xP 99 (.iload 6) 2, xP 101 (.iload_n 2) 1, xP 102 (.bipush 10) 2, xP 104 .idiv 1, xP 105 (.bipush 10) 2, xP 107 .irem 1, xP 108 (.if_icmp .gt 48) 3, xP 111 (.iload_n 1) 1, xP 112 (.bipush 10) 2, xP 114 .irem 1, xP 115 (.istore 7) 2, xP 117 (.iload 7) 2, xP 119 (.iload_n 2) 1, xP 120 (.bipush 10) 2, xP 122 .irem 1, xP 123 (.if_icmp .gt 27) 3, xP 126 (.aload_n 0) 1, xQ 127 (.getfield 19) 3 9 6 1014, xP 130 (.iload 5) 2, xP 132 (.iload 6) 2, xP 134 (.iload 7) 2, xQ 136 (.invokestatic 124) 3 208 3 1162, xP 139 (.iload_n 3) 1, xP 140 .iastore 1, xP 141 (.iinc 4 1) 3, xP 144 (.iinc 7 1) 3, xP 147 (.goto (-30)) 3, xP 150 (.iinc 6 1) 3, xP 153 (.goto (-54)) 3, xP 156 (.iinc 5 1) 3, xP 159 (.goto (-78)) 3, xP 162 (.iload 4) 2, xP 164 .ireturn 1]
/-- SofaStairModel.cell -/
noncomputable def xc_213 : List (Nat × xa_I) := [xP 0 (.aload_n 0) 1, xP 1 (.iload_n 1) 1, xQ 2 (.invokevirtual 132) 3 207 2 1153, xP 5 (.ifCond .eq 15) 3, xP 8 (.aload_n 0) 1, xQ 9 (.getfield 19) 3 9 6 1014, xP 12 (.iload_n 1) 1, xQ 13 (.invokestatic 138) 3 209 1 1169, xP 16 .iaload 1, xP 17 (.goto 4) 3, xP 20 (.iconst (-1)) 1, xP 21 .ireturn 1]
/-- SofaStairModel.say -/
noncomputable def xc_214 : List (Nat × xa_I) := [xP 0 (.iload_n 1) 1, xP 1 .i2l 1, xQ 2 (.ldc2_w 141) 3 33 0 1176, xQ 5 (.ldc2_w 143) 3 126 0 1177, xQ 8 (.invokestatic 108) 3 201 3 1145, xP 11 (.ifCond .ne 6) 3, xP 14 (.bipush (-2)) 2, xP 16 .ireturn 1, xP 17 (.aload_n 0) 1, xQ 18 (.getfield 145) 3 9 19 1027, xP 21 (.bipush 60) 2, xP 23 (.if_icmp .ne 6) 3, xP 26 (.bipush (-4)) 2, xP 28 .ireturn 1, xP 29 (.aload_n 0) 1, xQ 30 (.getfield 55) 3 9 18 1026, xP 33 (.aload_n 0) 1, xQ 34 (.getfield 145) 3 9 19 1027, xP 37 (.iload_n 1) 1, xP 38 .iastore 1, xP 39 (.aload_n 0) 1, xP 40 .dup 1, xQ 41 (.getfield 145) 3 9 19 1027, xP 44 (.iconst 1) 1, xP 45 .iadd 1, xQ 46 (.putfield 145) 3 9 19 1027, xP 49 (.aload_n 0) 1, xQ 50 (.getfield 145) 3 9 19 1027, xP 53 .ireturn 1]
/-- SofaStairModel.wipe -/
noncomputable def xc_215 : List (Nat × xa_I) := [xP 0 (.aload_n 0) 1, xQ 1 (.getfield 145) 3 9 19 1027, xP 4 (.istore_n 1) 1, xP 5 (.aload_n 0) 1, xP 6 (.iconst 0) 1, xQ 7 (.putfield 145) 3 9 19 1027, xP 10 (.iload_n 1) 1, xP 11 .ireturn 1]
/-- SofaStairModel.wasTold -/
noncomputable def xc_216 : List (Nat × xa_I) := [xP 0 (.iconst 0) 1, xP 1 (.istore_n 2) 1, xP 2 (.iconst 0) 1, xP 3 (.istore_n 3) 1, xP 4 (.iload_n 3) 1, xP 5 (.iload_n 1) 1, xP 6 (.iconst 2) 1, xP 7 .isub 1, xP 8 (.if_icmp .ge 72) 3, xP 11 (.iload_n 2) 1, xP 12 (.ifCond .ne 56) 3, xP 15 (.aload_n 0) 1, xQ 16 (.getfield 55) 3 9 18 1026, xP 19 (.iload_n 3) 1, xP 20 .iaload 1, xP 21 (.aload_n 0) 1, xQ 22 (.getfield 55) 3 9 18 1026, xP 25 (.iload_n 1) 1, xP 26 (.iconst 2) 1, xP 27 .isub 1, xP 28 .iaload 1, xP 29 (.if_icmp .ne 43) 3, xP 32 (.aload_n 0) 1, xQ 33 (.getfield 55) 3 9 18 1026, xP 36 (.iload_n 3) 1, xP 37 (.iconst 1) 1, xP 38 .iadd 1, xP 39 .iaload 1, xP 40 (.aload_n 0) 1, xQ 41 (.getfield 55) 3 9 18 1026, xP 44 (.iload_n 1) 1, xP 45 (.iconst 1) 1, xP 46 .isub 1, xP 47 .iaload 1, xP 48 (.if_icmp .ne 24) 3, xP 51 (.aload_n 0) 1, xQ 52 (.getfield 55) 3 9 18 1026, xP 55 (.iload_n 3) 1, xP 56 (.iconst 2) 1, xP 57 .iadd 1, xP 58 .iaload 1, xP 59 (.aload_n 0) 1, xQ 60 (.getfield 55) 3 9 18 1026, xP 63 (.iload_n 1) 1, xP 64 .iaload 1, xP 65 (.if_icmp .ne 7) 3, xP 68 (.iconst 1) 1, xP 69 (.goto 4) 3, xP 72 (.iconst 0) 1, xP 73 (.istore_n 2) 1, xP 74 (.iinc 3 4) 3, xP 77 (.goto (-73)) 3, xP 80 (.iload_n 2) 1, xP 81 .ireturn 1]
/-- SofaStairModel.faultOfThing -/
noncomputable def xc_217 : List (Nat × xa_I) := [xP 0 (.bipush 9) 2, xP 2 (.istore_n 1) 1, xP 3 (.bipush 9) 2, xP 5 (.istore_n 2) 1, xP 6 (.bipush 9) 2, xP 8 (.istore_n 3) 1, xP 9 (.iconst 0) 1, xP 10 (.istore 4) 2, xP 12 (.iload 4) 2, xP 14 (.aload_n 0) 1, xQ 15 (.getfield 145) 3 9 19 1027, xP 18 (.if_icmp .ge 192) 3, xP 21 (.aload_n 0) 1, xQ 22 (.getfield 55) 3 9 18 1026, xP 25 (.iload 4) 2, xP 27 .iaload 1, xP 28 (.istore 5) 2, xP 30 (.iload 4) 2, xP 32 (.iconst 4) 1, xP 33 .irem 1, xP 34 (.istore 6) 2, xP 36 (.iload 4) 2, xP 38 (.bipush 40) 2, xP 40 (.if_icmp .ge 22) 3, xP 43 (.iload 5) 2, xP 45 .i2l 1, xQ 46 (.ldc2_w 148) 3 48 0 1190, xQ 49 (.ldc2_w 150) 3 51 0 1191, xQ 52 (.invokestatic 108) 3 201 3 1145, xP 55 (.ifCond .eq 7) 3, xP 58 (.iconst 1) 1, xP 59 (.goto 4) 3, xP 62 (.iconst 0) 1, xP 63 (.istore 7) 2, xP 65 (.iload 6) 2, xP 67 (.iconst 2) 1, xP 68 (.if_icmp .ne 24) 3, xP 71 (.iload 7) 2, xP 73 (.ifCond .eq 16) 3, xP 76 (.aload_n 0) 1, xP 77 (.iload 4) 2, xQ 79 (.invokevirtual 152) 3 216 2 1192, xP 82 (.ifCond .ne 7) 3, xP 85 (.iconst 1) 1, xP 86 (.goto 4) 3, xP 89 (.iconst 0) 1, xP 90 (.istore 7) 2, xP 92 (.iload 6) 2, xP 94 (.iconst 3) 1, xP 95 (.if_icmp .ne 38) 3, xP 98 (.iload 5) 2, xP 100 (.bipush 45) 2, xP 102 (.if_icmp .eq 24) 3, xP 105 (.iload 4) 2, xP 107 (.iconst 3) 1, xP 108 (.if_icmp .le 22) 3, xP 111 (.iload 5) 2, xP 113 .i2l 1, xQ 114 (.ldc2_w 155) 3 97 0 1196, xQ 117 (.ldc2_w 157) 3 100 0 1197, xQ 120 (.invokestatic 108) 3 201 3 1145, xP 123 (.ifCond .eq 7) 3, xP 126 (.iconst 1) 1, xP 127 (.goto 4) 3, xP 130 (.iconst 0) 1, xP 131 (.istore 7) 2, xP 133 (.iload 7) 2, xP 135 (.ifCond .ne 6) 3, xP 138 (.iload 4) 2, xP 140 .ireturn 1, xP 141 (.iload 5) 2, xP 143 (.bipush 48) 2, xP 145 .isub 1, xP 146 (.istore 8) 2, xP 148 (.iload 6) 2, xP 150 (.ifCond .ne 14) 3, xP 153 (.iload 8) 2, xP 155 (.iload_n 1) 1, xP 156 (.if_icmp .ge 8) 3, xP 159 (.iload 8) 2, xP 161 (.goto 4) 3, xP 164 (.iload_n 1) 1, xP 165 (.istore_n 1) 1, xP 166 (.iload 6) 2, xP 168 (.iconst 1) 1, xP 169 (.if_icmp .ne 14) 3, xP 172 (.iload 8) 2, xP 174 (.iload_n 2) 1, xP 175 (.if_icmp .ge 8) 3, xP 178 (.iload 8) 2, xP 180 (.goto 4) 3, xP 183 (.iload_n 2) 1, xP 184 (.istore_n 2) 1, xP 185 (.iload 6) 2, xP 187 (.iconst 2) 1, xP 188 (.if_icmp .ne 14) 3, xP 191 (.iload 8) 2, xP 193 (.iload_n 3) 1, xP 194 (.if_icmp .ge 8) 3, xP 197 (.iload 8) 2, xP 199 (.goto 4) 3, xP 202 (.iload_n 3) 1, xP 203 (.istore_n 3) 1, xP 204 (.iinc 4 1) 3, xP 207 (.goto (-195)) 3, xP 210 (.aload_n 0) 1, xQ 211 (.getfield 145) 3 9 19 1027, xP 214 (.ifCond .le 25) 3, xP 217 (.aload_n 0) 1, xQ 218 (.getfield 145) 3 9 19 1027, xP 221 (.iconst 4) 1, xP 222 .irem 1, xP 223 (.ifCond .ne 16) 3, xP 226 (.iload_n 1) 1, xP 227 (.iload_n 2) 1, xP 228 .iadd 1, xP 229 (.iload_n 3) 1, xP 230 .iadd 1, xP 231 (.ifCond .ne 8) 3, xP 234 (.bipush (-6)) 2, xP 236 (.goto 7) 3, xP 239 (.aload_n 0) 1, xQ 240 (.getfield 145) 3 9 19 1027, xP 243 .ireturn 1]
/-- SofaStairModel.moveOf -/
noncomputable def xc_218 : List (Nat × xa_I) := [xP 0 (.iload_n 0) 1, xP 1 (.tableswitch 185 88 122 #[176, 179, 182, 185, 185, 185, 185, 185, 185, 185, 185, 185, 185, 161, 185, 185, 185, 185, 185, 185, 185, 185, 155, 185, 185, 185, 185, 157, 185, 163, 165, 159, 167, 170, 173]) 155, xP 156 (.iconst 0) 1, xP 157 .ireturn 1, xP 158 (.iconst 1) 1, xP 159 .ireturn 1, xP 160 (.iconst 2) 1, xP 161 .ireturn 1, xP 162 (.iconst 3) 1, xP 163 .ireturn 1, xP 164 (.iconst 4) 1, xP 165 .ireturn 1, xP 166 (.iconst 5) 1, xP 167 .ireturn 1, xP 168 (.bipush 6) 2, xP 170 .ireturn 1, xP 171 (.bipush 7) 2, xP 173 .ireturn 1, xP 174 (.bipush 8) 2, xP 176 .ireturn 1, xP 177 (.bipush 9) 2, xP 179 .ireturn 1, xP 180 (.bipush 10) 2, xP 182 .ireturn 1, xP 183 (.bipush 11) 2, xP 185 .ireturn 1, xP 186 (.bipush (-6)) 2, xP 188 .ireturn 1]
/-- SofaStairModel.signOf -/
noncomputable def xc_219 : List (Nat × xa_I) := [xP 0 (.iload_n 0) 1, xP 1 (.tableswitch 57 0 5 #[39, 42, 45, 48, 51, 54]) 39, xP 40 (.bipush 110) 2, xP 42 .ireturn 1, xP 43 (.bipush 115) 2, xP 45 .ireturn 1, xP 46 (.bipush 119) 2, xP 48 .ireturn 1, xP 49 (.bipush 101) 2, xP 51 .ireturn 1, xP 52 (.bipush 117) 2, xP 54 .ireturn 1, xP 55 (.bipush 118) 2, xP 57 .ireturn 1, xP 58 (.iload_n 0) 1, xP 59 (.bipush 9) 2, xP 61 (.if_icmp .ge 13) 3, xP 64 (.bipush 120) 2, xP 66 (.iload_n 0) 1, xP 67 .iadd 1, xP 68 (.bipush 6) 2, xP 70 .isub 1, xP 71 (.goto 10) 3, xP 74 (.bipush 88) 2, xP 76 (.iload_n 0) 1, xP 77 .iadd 1, xP 78 (.bipush 9) 2, xP 80 .isub 1, xP 81 .ireturn 1]
/-- SofaStairModel.faultOfRow -/
noncomputable def xc_220 : List (Nat × xa_I) := [xP 0 (.iconst 0) 1, xP 1 (.istore_n 1) 1, xP 2 (.iload_n 1) 1, xP 3 (.aload_n 0) 1, xQ 4 (.getfield 145) 3 9 19 1027, xP 7 (.if_icmp .ge 29) 3, xP 10 (.iload_n 1) 1, xP 11 (.bipush 40) 2, xP 13 (.if_icmp .eq 15) 3, xP 16 (.aload_n 0) 1, xQ 17 (.getfield 55) 3 9 18 1026, xP 20 (.iload_n 1) 1, xP 21 .iaload 1, xQ 22 (.invokestatic 159) 3 218 1 1202, xP 25 (.ifCond .ge 5) 3, xP 28 (.iload_n 1) 1, xP 29 .ireturn 1, xP 30 (.iinc 1 1) 3, xP 33 (.goto (-31)) 3, xP 36 (.bipush (-6)) 2, xP 38 .ireturn 1]
/-- SofaStairModel.fault -/
noncomputable def xc_221 : List (Nat × xa_I) := [xP 0 (.iload_n 1) 1, xP 1 (.ifCond .ne 10) 3, xP 4 (.aload_n 0) 1, xQ 5 (.invokevirtual 162) 3 217 1 1186, xP 8 (.goto 17) 3, xP 11 (.iload_n 1) 1, xP 12 (.iconst 1) 1, xP 13 (.if_icmp .ne 10) 3, xP 16 (.aload_n 0) 1, xQ 17 (.invokevirtual 166) 3 220 1 1198, xP 20 (.goto 5) 3, xP 23 (.bipush (-2)) 2, xP 25 .ireturn 1]
/-- SofaStairModel.thing -/
noncomputable def xc_222 : List (Nat × xa_I) := [xP 0 (.iload_n 1) 1, xQ 1 (.invokestatic 169) 3 202 1 1209, xP 4 (.ifCond .ne 5) 3, xP 7 (.iconst (-1)) 1, xP 8 .ireturn 1, xP 9 (.aload_n 0) 1, xQ 10 (.invokevirtual 162) 3 217 1 1186, xP 13 (.ifCond .lt 6) 3, xP 16 (.bipush (-5)) 2, xP 18 .ireturn 1, xP 19 (.aload_n 0) 1, xQ 20 (.getfield 22) 3 9 7 1015, xP 23 (.iload_n 1) 1, xP 24 (.aload_n 0) 1, xQ 25 (.getfield 145) 3 9 19 1027, xP 28 (.iconst 4) 1, xP 29 .idiv 1, xP 30 .iastore 1, xP 31 (.iconst 0) 1, xP 32 (.istore_n 2) 1, xP 33 (.iload_n 2) 1, xP 34 (.aload_n 0) 1, xQ 35 (.getfield 22) 3 9 7 1015, xP 38 (.iload_n 1) 1, xP 39 .iaload 1, xP 40 (.if_icmp .ge 110) 3, xP 43 (.bipush 10) 2, xP 45 (.iload_n 1) 1, xP 46 .imul 1, xP 47 (.iload_n 2) 1, xP 48 .iadd 1, xP 49 (.istore_n 3) 1, xP 50 (.aload_n 0) 1, xQ 51 (.getfield 25) 3 9 8 1016, xP 54 (.iload_n 3) 1, xP 55 (.aload_n 0) 1, xQ 56 (.getfield 55) 3 9 18 1026, xP 59 (.iconst 4) 1, xP 60 (.iload_n 2) 1, xP 61 .imul 1, xP 62 .iaload 1, xP 63 (.bipush 48) 2, xP 65 .isub 1, xP 66 .iastore 1, xP 67 (.aload_n 0) 1, xQ 68 (.getfield 28) 3 9 9 1017, xP 71 (.iload_n 3) 1, xP 72 (.aload_n 0) 1, xQ 73 (.getfield 55) 3 9 18 1026, xP 76 (.iconst 4) 1, xP 77 (.iload_n 2) 1, xP 78 .imul 1, xP 79 (.iconst 1) 1, xP 80 .iadd 1, xP 81 .iaload 1, xP 82 (.bipush 48) 2, xP 84 .isub 1, xP 85 .iastore 1, xP 86 (.aload_n 0) 1, xQ 87 (.getfield 31) 3 9 10 1018, xP 90 (.iload_n 3) 1, xP 91 (.aload_n 0) 1, xQ 92 (.getfield 55) 3 9 18 1026, xP 95 (.iconst 4) 1, xP 96 (.iload_n 2) 1, xP 97 .imul 1, xP 98 (.iconst 2) 1, xP 99 .iadd 1, xP 100 .iaload 1, xP 101 (.bipush 48) 2, xP 103 .isub 1, xP 104 .iastore 1, xP 105 (.aload_n 0) 1, xQ 106 (.getfield 34) 3 9 11 1019, xP 109 (.iload_n 3) 1, xP 110 (.aload_n 0) 1, xQ 111 (.getfield 55) 3 9 18 1026, xP 114 (.iconst 4) 1, xP 115 (.iload_n 2) 1, xP 116 .imul 1, xP 117 (.iconst 3) 1, xP 118 .iadd 1, xP 119 .iaload 1, xP 120 (.bipush 45) 2, xP 122 (.if_icmp .ne 8) 3, xP 125 (.bipush (-6)) 2, xP 127 (.goto 16) 3, xP 130 (.aload_n 0) 1, xQ 131 (.getfield 55) 3 9 18 1026, xP 134 (.iconst 4) 1, xP 135 (.iload_n 2) 1, xP 136 .imul 1, xP 137 (.iconst 3) 1, xP 138 .iadd 1, xP 139 .iaload 1, xP 140 (.bipush 97) 2, xP 142 .isub 1, xP 143 .iastore 1, xP 144 (.iinc 2 1) 3, xP 147 (.goto (-114)) 3, xP 150 (.aload_n 0) 1, xQ 151 (.getfield 46) 3 9 15 1023, xP 154 (.iload_n 1) 1, xP 155 (.bipush (-6)) 2, xP 157 .iastore 1, xP 158 (.aload_n 0) 1, xP 159 (.iconst 0) 1, xQ 160 (.putfield 145) 3 9 19 1027, xP 163 (.aload_n 0) 1, xQ 164 (.getfield 22) 3 9 7 1015, xP 167 (.iload_n 1) 1, xP 168 .iaload 1, xP 169 .ireturn 1]
/-- SofaStairModel.row -/
noncomputable def xc_223 : List (Nat × xa_I) := [xP 0 (.bipush 9) 2, xP 2 (.iload_n 1) 1, xP 3 .imul 1, xP 4 (.iconst 3) 1, xP 5 (.iload_n 2) 1, xP 6 .imul 1, xP 7 .iadd 1, xP 8 (.istore 4) 2, xP 10 (.aload_n 0) 1, xQ 11 (.getfield 7) 3 9 0 1008, xP 14 (.iload 4) 2, xP 16 .iaload 1, xP 17 (.aload_n 0) 1, xQ 18 (.getfield 25) 3 9 8 1016, xP 21 (.iload_n 3) 1, xP 22 .iaload 1, xP 23 .imul 1, xP 24 (.aload_n 0) 1, xQ 25 (.getfield 7) 3 9 0 1008, xP 28 (.iload 4) 2, xP 30 (.iconst 1) 1, xP 31 .iadd 1, xP 32 .iaload 1, xP 33 (.aload_n 0) 1, xQ 34 (.getfield 28) 3 9 9 1017, xP 37 (.iload_n 3) 1, xP 38 .iaload 1, xP 39 .imul 1, xP 40 .iadd 1, xP 41 (.aload_n 0) 1, xQ 42 (.getfield 7) 3 9 0 1008, xP 45 (.iload 4) 2, xP 47 (.iconst 2) 1, xP 48 .iadd 1, xP 49 .iaload 1, xP 50 (.aload_n 0) 1, xQ 51 (.getfield 31) 3 9 10 1018, xP 54 (.iload_n 3) 1, xP 55 .iaload 1, xP 56 .imul 1, xP 57 .iadd 1, xP 58 .ireturn 1]
/-- SofaStairModel.layCubes -/
noncomputable def xc_224 : List (Nat × xa_I) := [xP 0 (.bipush 9) 2, xP 2 (.istore_n 3) 1, xP 3 (.bipush 9) 2, xP 5 (.istore 4) 2, xP 7 (.bipush 9) 2, xP 9 (.istore 5) 2, xP 11 (.iconst 0) 1, xP 12 (.istore 6) 2, xP 14 (.iload 6) 2, xP 16 (.aload_n 0) 1, xQ 17 (.getfield 22) 3 9 7 1015, xP 20 (.iload_n 1) 1, xP 21 .iaload 1, xP 22 (.if_icmp .ge 138) 3, xP 25 (.bipush 10) 2, xP 27 (.iload_n 1) 1, xP 28 .imul 1, xP 29 (.iload 6) 2, xP 31 .iadd 1, xP 32 (.istore 7) 2, xP 34 (.aload_n 0) 1, xQ 35 (.getfield 58) 3 9 20 1028, xP 38 (.iload 6) 2, xP 40 (.aload_n 0) 1, xP 41 (.iload_n 2) 1, xP 42 (.iconst 0) 1, xP 43 (.iload 7) 2, xQ 45 (.invokevirtual 172) 3 223 4 1221, xP 48 .iastore 1, xP 49 (.aload_n 0) 1, xQ 50 (.getfield 61) 3 9 21 1029, xP 53 (.iload 6) 2, xP 55 (.aload_n 0) 1, xP 56 (.iload_n 2) 1, xP 57 (.iconst 1) 1, xP 58 (.iload 7) 2, xQ 60 (.invokevirtual 172) 3 223 4 1221, xP 63 .iastore 1, xP 64 (.aload_n 0) 1, xQ 65 (.getfield 64) 3 9 22 1030, xP 68 (.iload 6) 2, xP 70 (.aload_n 0) 1, xP 71 (.iload_n 2) 1, xP 72 (.iconst 2) 1, xP 73 (.iload 7) 2, xQ 75 (.invokevirtual 172) 3 223 4 1221, xP 78 .iastore 1, xP 79 (.aload_n 0) 1, xQ 80 (.getfield 58) 3 9 20 1028, xP 83 (.iload 6) 2, xP 85 .iaload 1, xP 86 (.iload_n 3) 1, xP 87 (.if_icmp .ge 13) 3, xP 90 (.aload_n 0) 1, xQ 91 (.getfield 58) 3 9 20 1028, xP 94 (.iload 6) 2, xP 96 .iaload 1, xP 97 (.goto 4) 3, xP 100 (.iload_n 3) 1, xP 101 (.istore_n 3) 1, xP 102 (.aload_n 0) 1, xQ 103 (.getfield 61) 3 9 21 1029, xP 106 (.iload 6) 2, xP 108 .iaload 1, xP 109 (.iload 4) 2, xP 111 (.if_icmp .ge 13) 3, xP 114 (.aload_n 0) 1, xQ 115 (.getfield 61) 3 9 21 1029, xP 118 (.iload 6) 2, xP 120 .iaload 1, xP 121 (.goto 5) 3, xP 124 (.iload 4) 2, xP 126 (.istore 4) 2, xP 128 (.aload_n 0) 1, xQ 129 (.getfield 64) 3 9 22 1030, xP 132 (.iload 6) 2, xP 134 .iaload 1, xP 135 (.iload 5) 2, xP 137 (.if_icmp .ge 13) 3, xP 140 (.aload_n 0) 1, xQ 141 (.getfield 64) 3 9 22 1030, xP 144 (.iload 6) 2, xP 146 .iaload 1, xP 147 (.goto 5) 3, xP 150 (.iload 5) 2, xP 152 (.istore 5) 2, xP 154 (.iinc 6 1) 3, xP 157 (.goto (-143)) 3, xP 160 (.iconst 0) 1, xP 161 (.istore 6) 2, xP 163 (.iload 6) 2, xP 165 (.aload_n 0) 1, xQ 166 (.getfield 22) 3 9 7 1015, xP 169 (.iload_n 1) 1, xP 170 .iaload 1, xP 171 (.if_icmp .ge 44) 3, xP 174 (.aload_n 0) 1, xQ 175 (.getfield 58) 3 9 20 1028, xP 178 (.iload 6) 2, xP 180 .dup2 1, xP 181 .iaload 1, xP 182 (.iload_n 3) 1, xP 183 .isub 1, xP 184 .iastore 1, xP 185 (.aload_n 0) 1, xQ 186 (.getfield 61) 3 9 21 1029, xP 189 (.iload 6) 2, xP 191 .dup2 1, xP 192 .iaload 1, xP 193 (.iload 4) 2, xP 195 .isub 1, xP 196 .iastore 1, xP 197 (.aload_n 0) 1, xQ 198 (.getfield 64) 3 9 22 1030, xP 201 (.iload 6) 2, xP 203 .dup2 1, xP 204 .iaload 1, xP 205 (.iload 5) 2, xP 207 .isub 1, xP 208 .iastore 1, xP 209 (.iinc 6 1) 3, xP 212 (.goto (-49)) 3, xP 215 .return_ 1]
/-- SofaStairModel.cube -/
noncomputable def xc_225 : List (Nat × xa_I) := [xP 0 (.iload_n 1) 1, xQ 1 (.invokestatic 169) 3 202 1 1209, xP 4 (.ifCond .eq 21) 3, xP 7 (.iload_n 2) 1, xP 8 .i2l 1, xP 9 (.lconst 0) 1, xP 10 (.aload_n 0) 1, xQ 11 (.getfield 22) 3 9 7 1015, xP 14 (.iload_n 1) 1, xP 15 .iaload 1, xP 16 (.iconst 1) 1, xP 17 .isub 1, xP 18 .i2l 1, xQ 19 (.invokestatic 108) 3 201 3 1145, xP 22 (.ifCond .ne 5) 3, xP 25 (.iconst (-1)) 1, xP 26 .ireturn 1, xP 27 (.aload_n 0) 1, xP 28 (.iload_n 1) 1, xP 29 (.aload_n 0) 1, xQ 30 (.getfield 46) 3 9 15 1023, xP 33 (.iload_n 1) 1, xP 34 .iaload 1, xP 35 (.ifCond .ge 7) 3, xP 38 (.iconst 0) 1, xP 39 (.goto 9) 3, xP 42 (.aload_n 0) 1, xQ 43 (.getfield 49) 3 9 16 1024, xP 46 (.iload_n 1) 1, xP 47 .iaload 1, xQ 48 (.invokevirtual 175) 3 224 3 1217, xP 51 (.iload_n 3) 1, xP 52 (.ifCond .ne 12) 3, xP 55 (.aload_n 0) 1, xQ 56 (.getfield 58) 3 9 20 1028, xP 59 (.iload_n 2) 1, xP 60 .iaload 1, xP 61 (.goto 52) 3, xP 64 (.iload_n 3) 1, xP 65 (.iconst 1) 1, xP 66 (.if_icmp .ne 12) 3, xP 69 (.aload_n 0) 1, xQ 70 (.getfield 61) 3 9 21 1029, xP 73 (.iload_n 2) 1, xP 74 .iaload 1, xP 75 (.goto 38) 3, xP 78 (.iload_n 3) 1, xP 79 (.iconst 2) 1, xP 80 (.if_icmp .ne 12) 3, xP 83 (.aload_n 0) 1, xQ 84 (.getfield 64) 3 9 22 1030, xP 87 (.iload_n 2) 1, xP 88 .iaload 1, xP 89 (.goto 24) 3, xP 92 (.iload_n 3) 1, xP 93 (.iconst 3) 1, xP 94 (.if_icmp .ne 17) 3, xP 97 (.aload_n 0) 1, xQ 98 (.getfield 34) 3 9 11 1019, xP 101 (.bipush 10) 2, xP 103 (.iload_n 1) 1, xP 104 .imul 1, xP 105 (.iload_n 2) 1, xP 106 .iadd 1, xP 107 .iaload 1, xP 108 (.goto 5) 3, xP 111 (.bipush (-2)) 2, xP 113 .ireturn 1]
/-- SofaStairModel.cost -/
noncomputable def xc_226 : List (Nat × xa_I) := [xP 0 (.iload_n 1) 1, xP 1 .i2l 1, xQ 2 (.ldc2_w 178) 3 2 1 1229, xQ 5 (.ldc2_w 106) 3 3 0 1212, xQ 8 (.invokestatic 108) 3 201 3 1145, xP 11 (.ifCond .ne 5) 3, xP 14 (.iconst (-1)) 1, xP 15 .ireturn 1, xP 16 (.iload_n 2) 1, xP 17 .i2l 1, xP 18 (.lconst 0) 1, xQ 19 (.ldc2_w 106) 3 3 0 1212, xQ 22 (.invokestatic 108) 3 201 3 1145, xP 25 (.ifCond .eq 15) 3, xP 28 (.iload_n 3) 1, xP 29 .i2l 1, xP 30 (.lconst 0) 1, xQ 31 (.ldc2_w 180) 3 9 0 1230, xQ 34 (.invokestatic 108) 3 201 3 1145, xP 37 (.ifCond .ne 6) 3, xP 40 (.bipush (-2)) 2, xP 42 .ireturn 1, xP 43 (.iload_n 1) 1, xP 44 (.iconst (-1)) 1, xP 45 (.if_icmp .ne 12) 3, xP 48 (.aload_n 0) 1, xQ 49 (.getfield 40) 3 9 13 1021, xP 52 (.iload_n 2) 1, xP 53 .iaload 1, xP 54 (.goto 28) 3, xP 57 (.iload_n 1) 1, xP 58 (.bipush (-2)) 2, xP 60 (.if_icmp .ne 12) 3, xP 63 (.aload_n 0) 1, xQ 64 (.getfield 43) 3 9 14 1022, xP 67 (.iload_n 2) 1, xP 68 .iaload 1, xP 69 (.goto 13) 3, xP 72 (.aload_n 0) 1, xQ 73 (.getfield 37) 3 9 12 1020, xP 76 (.iconst 4) 1, xP 77 (.iload_n 1) 1, xP 78 .imul 1, xP 79 (.iload_n 2) 1, xP 80 .iadd 1, xP 81 .iaload 1, xP 82 (.istore 4) 2, xP 84 (.iload_n 1) 1, xP 85 (.iconst (-1)) 1, xP 86 (.if_icmp .ne 13) 3, xP 89 (.aload_n 0) 1, xQ 90 (.getfield 40) 3 9 13 1021, xP 93 (.iload_n 2) 1, xP 94 (.iload_n 3) 1, xP 95 .iastore 1, xP 96 (.goto 30) 3, xP 99 (.iload_n 1) 1, xP 100 (.bipush (-2)) 2, xP 102 (.if_icmp .ne 13) 3, xP 105 (.aload_n 0) 1, xQ 106 (.getfield 43) 3 9 14 1022, xP 109 (.iload_n 2) 1, xP 110 (.iload_n 3) 1, xP 111 .iastore 1, xP 112 (.goto 14) 3, xP 115 (.aload_n 0) 1, xQ 116 (.getfield 37) 3 9 12 1020, xP 119 (.iconst 4) 1, xP 120 (.iload_n 1) 1, xP 121 .imul 1, xP 122 (.iload_n 2) 1, xP 123 .iadd 1, xP 124 (.iload_n 3) 1, xP 125 .iastore 1, xP 126 (.iload 4) 2, xP 128 .ireturn 1]
/-- SofaStairModel.takeOff -/
noncomputable def xc_227 : List (Nat × xa_I) := [xP 0 (.aload_n 0) 1, xP 1 (.iload_n 1) 1, xQ 2 (.putfield 182) 3 9 23 1031, xP 5 (.aload_n 0) 1, xP 6 (.iload_n 2) 1, xQ 7 (.putfield 185) 3 9 24 1032, xP 10 (.iconst 0) 1, xP 11 (.istore_n 3) 1, xP 12 (.iload_n 3) 1, xP 13 (.sipush 144) 3, xP 16 (.if_icmp .ge 16) 3, xP 19 (.aload_n 0) 1, xQ 20 (.getfield 67) 3 9 25 1033, xP 23 (.iload_n 3) 1, xP 24 (.iconst 0) 1, xP 25 .bastore 1, xP 26 (.iinc 3 1) 3, xP 29 (.goto (-17)) 3, xP 32 .return_ 1]
/-- SofaStairModel.isOn -/
noncomputable def xc_228 : List (Nat × xa_I) := [xP 0 (.aload_n 0) 1, xQ 1 (.getfield 34) 3 9 11 1019, xP 4 (.bipush 10) 2, xP 6 (.iload_n 1) 1, xP 7 .imul 1, xP 8 (.iload_n 2) 1, xP 9 .iadd 1, xP 10 .iaload 1, xP 11 (.istore_n 3) 1, xP 12 (.iload_n 3) 1, xP 13 (.ifCond .lt 14) 3, xP 16 (.aload_n 0) 1, xQ 17 (.getfield 182) 3 9 23 1031, xP 20 (.iload_n 3) 1, xP 21 .ishr 1, xP 22 (.iconst 1) 1, xP 23 .iand 1, xP 24 (.ifCond .ne 7) 3, xP 27 (.iconst 1) 1, xP 28 (.goto 4) 3, xP 31 (.iconst 0) 1, xP 32 .ireturn 1]
/-- SofaStairModel.isOpen -/
noncomputable def xc_229 : List (Nat × xa_I) := [xP 0 (.aload_n 0) 1, xQ 1 (.getfield 19) 3 9 6 1014, xP 4 (.iload_n 1) 1, xP 5 .iaload 1, xP 6 (.istore_n 2) 1, xP 7 (.aload_n 0) 1, xQ 8 (.getfield 67) 3 9 25 1033, xP 11 (.iload_n 1) 1, xP 12 .baload 1, xP 13 (.ifCond .ne 30) 3, xP 16 (.iload_n 2) 1, xP 17 (.ifCond .eq 22) 3, xP 20 (.iload_n 2) 1, xP 21 (.iconst 1) 1, xP 22 (.if_icmp .le 21) 3, xP 25 (.aload_n 0) 1, xQ 26 (.getfield 185) 3 9 24 1032, xP 29 (.iload_n 2) 1, xP 30 (.iconst 2) 1, xP 31 .isub 1, xP 32 .ishr 1, xP 33 (.iconst 1) 1, xP 34 .iand 1, xP 35 (.iconst 1) 1, xP 36 (.if_icmp .ne 7) 3, xP 39 (.iconst 1) 1, xP 40 (.goto 4) 3, xP 43 (.iconst 0) 1, xP 44 .ireturn 1]
/-- SofaStairModel.whyNot -/
noncomputable def xc_230 : List (Nat × xa_I) := [xP 0 (.aload_n 0) 1, xP 1 (.iload_n 2) 1, xP 2 (.iload_n 3) 1, xP 3 (.iload 4) 2, xQ 5 (.invokevirtual 120) 3 206 4 1157, xP 8 (.ifCond .eq 8) 3, xP 11 (.bipush (-6)) 2, xP 13 (.goto 4) 3, xP 16 (.iconst 1) 1, xP 17 (.istore 5) 2, xP 19 (.iconst 0) 1, xP 20 (.istore 6) 2, xP 22 (.iload 6) 2, xP 24 (.aload_n 0) 1, xQ 25 (.getfield 22) 3 9 7 1015, xP 28 (.iload_n 1) 1, xP 29 .iaload 1, xP 30 (.if_icmp .ge 114) 3, xP 33 (.iload 5) 2, xP 35 (.iconst 1) 1, xP 36 (.if_icmp .eq 108) 3, xP 39 (.aload_n 0) 1, xP 40 (.iload_n 1) 1, xP 41 (.iload 6) 2, xQ 43 (.invokevirtual 188) 3 228 3 1251, xP 46 (.ifCond .eq 92) 3, xP 49 (.aload_n 0) 1, xP 50 (.iload_n 2) 1, xP 51 (.aload_n 0) 1, xQ 52 (.getfield 58) 3 9 20 1028, xP 55 (.iload 6) 2, xP 57 .iaload 1, xP 58 .iadd 1, xP 59 (.iload_n 3) 1, xP 60 (.aload_n 0) 1, xQ 61 (.getfield 61) 3 9 21 1029, xP 64 (.iload 6) 2, xP 66 .iaload 1, xP 67 .iadd 1, xP 68 (.iload 4) 2, xP 70 (.aload_n 0) 1, xQ 71 (.getfield 64) 3 9 22 1030, xP 74 (.iload 6) 2, xP 76 .iaload 1, xP 77 .iadd 1, xQ 78 (.invokevirtual 120) 3 206 4 1157, xP 81 (.istore 7) 2, xP 83 (.iload 7) 2, xP 85 (.ifCond .ne 7) 3, xP 88 (.iconst 1) 1, xP 89 (.goto 47) 3, xP 92 (.aload_n 0) 1, xP 93 (.iload_n 2) 1, xP 94 (.aload_n 0) 1, xQ 95 (.getfield 58) 3 9 20 1028, xP 98 (.iload 6) 2, xP 100 .iaload 1, xP 101 .iadd 1, xP 102 (.iload_n 3) 1, xP 103 (.aload_n 0) 1, xQ 104 (.getfield 61) 3 9 21 1029, xP 107 (.iload 6) 2, xP 109 .iaload 1, xP 110 .iadd 1, xP 111 (.iload 4) 2, xP 113 (.aload_n 0) 1, xQ 114 (.getfield 64) 3 9 22 1030, xP 117 (.iload 6) 2, xP 119 .iaload 1, xP 120 .iadd 1, xQ 121 (.invokestatic 124) 3 208 3 1162, xQ 124 (.invokevirtual 192) 3 229 2 1255, xP 127 (.ifCond .ne 7) 3, xP 130 (.iconst 2) 1, xP 131 (.goto 5) 3, xP 134 (.iload 5) 2, xP 136 (.istore 5) 2, xP 138 (.iinc 6 1) 3, xP 141 (.goto (-119)) 3, xP 144 (.iload 5) 2, xP 146 .ireturn 1]
/-- SofaStairModel.whyAt -/
noncomputable def xc_231 : List (Nat × xa_I) := [xP 0 (.aload_n 0) 1, xP 1 (.iload_n 1) 1, xP 2 (.iload_n 2) 1, xQ 3 (.invokevirtual 175) 3 224 3 1217, xP 6 (.aload_n 0) 1, xP 7 (.iload_n 1) 1, xP 8 (.iload_n 3) 1, xP 9 (.iload 4) 2, xP 11 (.iload 5) 2, xQ 13 (.invokevirtual 195) 3 230 5 1247, xP 16 .ireturn 1]
/-- SofaStairModel.rowFault -/
noncomputable def xc_232 : List (Nat × xa_I) := [xP 0 (.aload_n 0) 1, xQ 1 (.invokevirtual 166) 3 220 1 1198, xP 4 (.istore_n 2) 1, xP 5 (.iconst 0) 1, xP 6 (.istore_n 3) 1, xP 7 (.iload_n 3) 1, xP 8 (.aload_n 0) 1, xQ 9 (.getfield 145) 3 9 19 1027, xP 12 (.if_icmp .ge 37) 3, xP 15 (.iload_n 1) 1, xP 16 (.ifCond .eq 33) 3, xP 19 (.iload_n 2) 1, xP 20 (.ifCond .ge 29) 3, xP 23 (.aload_n 0) 1, xQ 24 (.getfield 55) 3 9 18 1026, xP 27 (.iload_n 3) 1, xP 28 .iaload 1, xQ 29 (.invokestatic 159) 3 218 1 1202, xP 32 (.bipush 6) 2, xP 34 (.if_icmp .ge 7) 3, xP 37 (.iload_n 3) 1, xP 38 (.goto 4) 3, xP 41 (.iload_n 2) 1, xP 42 (.istore_n 2) 1, xP 43 (.iinc 3 1) 3, xP 46 (.goto (-39)) 3, xP 49 (.iload_n 2) 1, xP 50 .ireturn 1]
/-- SofaStairModel.lay -/
noncomputable def xc_233 : List (Nat × xa_I) := [xP 0 (.iload_n 1) 1, xQ 1 (.invokestatic 169) 3 202 1 1209, xP 4 (.ifCond .eq 11) 3, xP 7 (.aload_n 0) 1, xP 8 (.iload_n 2) 1, xQ 9 (.invokevirtual 132) 3 207 2 1153, xP 12 (.ifCond .ne 5) 3, xP 15 (.iconst (-1)) 1, xP 16 .ireturn 1, xP 17 (.aload_n 0) 1, xQ 18 (.getfield 22) 3 9 7 1015, xP 21 (.iload_n 1) 1, xP 22 .iaload 1, xP 23 (.ifCond .ne 6) 3, xP 26 (.bipush (-3)) 2, xP 28 .ireturn 1, xP 29 (.aload_n 0) 1, xP 30 (.iconst 1) 1, xQ 31 (.invokevirtual 199) 3 232 2 1235, xP 34 (.ifCond .lt 6) 3, xP 37 (.bipush (-5)) 2, xP 39 .ireturn 1, xP 40 (.iconst 0) 1, xP 41 (.istore_n 3) 1, xP 42 (.iconst 0) 1, xP 43 (.istore 4) 2, xP 45 (.iload 4) 2, xP 47 (.aload_n 0) 1, xQ 48 (.getfield 145) 3 9 19 1027, xP 51 (.if_icmp .ge 33) 3, xP 54 (.aload_n 0) 1, xQ 55 (.getfield 13) 3 9 1 1009, xP 58 (.bipush 6) 2, xP 60 (.iload_n 3) 1, xP 61 .imul 1, xP 62 (.aload_n 0) 1, xQ 63 (.getfield 55) 3 9 18 1026, xP 66 (.iload 4) 2, xP 68 .iaload 1, xQ 69 (.invokestatic 159) 3 218 1 1202, xP 72 .iadd 1, xP 73 (.bipush 6) 2, xP 75 .isub 1, xP 76 .iaload 1, xP 77 (.istore_n 3) 1, xP 78 (.iinc 4 1) 3, xP 81 (.goto (-36)) 3, xP 84 (.aload_n 0) 1, xP 85 (.iconst 0) 1, xP 86 (.iconst 0) 1, xQ 87 (.invokevirtual 203) 3 227 3 1239, xP 90 (.aload_n 0) 1, xP 91 (.iload_n 1) 1, xP 92 (.iload_n 3) 1, xP 93 (.iload_n 2) 1, xP 94 (.bipush 100) 2, xP 96 .idiv 1, xP 97 (.iload_n 2) 1, xP 98 (.bipush 10) 2, xP 100 .idiv 1, xP 101 (.bipush 10) 2, xP 103 .irem 1, xP 104 (.iload_n 2) 1, xP 105 (.bipush 10) 2, xP 107 .irem 1, xQ 108 (.invokevirtual 206) 3 231 6 1243, xP 111 (.ifCond .lt 6) 3, xP 114 (.bipush (-5)) 2, xP 116 .ireturn 1, xP 117 (.aload_n 0) 1, xQ 118 (.getfield 46) 3 9 15 1023, xP 121 (.iload_n 1) 1, xP 122 (.iload_n 2) 1, xQ 123 (.invokestatic 138) 3 209 1 1169, xP 126 .iastore 1, xP 127 (.aload_n 0) 1, xQ 128 (.getfield 49) 3 9 16 1024, xP 131 (.iload_n 1) 1, xP 132 (.iload_n 3) 1, xP 133 .iastore 1, xP 134 (.aload_n 0) 1, xP 135 (.iconst 0) 1, xQ 136 (.putfield 145) 3 9 19 1027, xP 139 (.iconst 1) 1, xP 140 .ireturn 1]
/-- SofaStairModel.goal -/
noncomputable def xc_234 : List (Nat × xa_I) := [xP 0 (.iload_n 1) 1, xQ 1 (.invokestatic 169) 3 202 1 1209, xP 4 (.ifCond .eq 11) 3, xP 7 (.aload_n 0) 1, xP 8 (.iload_n 2) 1, xQ 9 (.invokevirtual 132) 3 207 2 1153, xP 12 (.ifCond .ne 5) 3, xP 15 (.iconst (-1)) 1, xP 16 .ireturn 1, xP 17 (.aload_n 0) 1, xQ 18 (.getfield 52) 3 9 17 1025, xP 21 (.iload_n 1) 1, xP 22 .iaload 1, xQ 23 (.invokestatic 210) 3 210 1 1263, xP 26 (.istore_n 3) 1, xP 27 (.aload_n 0) 1, xQ 28 (.getfield 52) 3 9 17 1025, xP 31 (.iload_n 1) 1, xP 32 (.iload_n 2) 1, xQ 33 (.invokestatic 138) 3 209 1 1169, xP 36 .iastore 1, xP 37 (.iload_n 3) 1, xP 38 .ireturn 1]
/-- SofaStairModel.step -/
noncomputable def xc_235 : List (Nat × xa_I) := [xP 0 (.aload_n 0) 1, xP 1 .dup 1, xQ 2 (.getfield 213) 3 9 27 1035, xP 5 (.iload_n 1) 1, xP 6 (.ifCond .ne 7) 3, xP 9 (.iconst (-1)) 1, xP 10 (.goto 13) 3, xP 13 (.iload_n 1) 1, xP 14 (.iconst 1) 1, xP 15 (.if_icmp .ne 7) 3, xP 18 (.iconst 1) 1, xP 19 (.goto 4) 3, xP 22 (.iconst 0) 1, xP 23 .iadd 1, xQ 24 (.putfield 213) 3 9 27 1035, xP 27 (.aload_n 0) 1, xP 28 .dup 1, xQ 29 (.getfield 216) 3 9 26 1034, xP 32 (.iload_n 1) 1, xP 33 (.iconst 2) 1, xP 34 (.if_icmp .ne 7) 3, xP 37 (.iconst (-1)) 1, xP 38 (.goto 13) 3, xP 41 (.iload_n 1) 1, xP 42 (.iconst 3) 1, xP 43 (.if_icmp .ne 7) 3, xP 46 (.iconst 1) 1, xP 47 (.goto 4) 3, xP 50 (.iconst 0) 1, xP 51 .iadd 1, xQ 52 (.putfield 216) 3 9 26 1034, xP 55 (.aload_n 0) 1, xP 56 .dup 1, xQ 57 (.getfield 219) 3 9 28 1036, xP 60 (.iload_n 1) 1, xP 61 (.iconst 4) 1, xP 62 (.if_icmp .ne 7) 3, xP 65 (.iconst 1) 1, xP 66 (.goto 13) 3, xP 69 (.iload_n 1) 1, xP 70 (.iconst 5) 1, xP 71 (.if_icmp .ne 7) 3, xP 74 (.iconst (-1)) 1, xP 75 (.goto 4) 3, xP 78 (.iconst 0) 1, xP 79 .iadd 1, xQ 80 (.putfield 219) 3 9 28 1036, xP 83 (.aload_n 0) 1, xP 84 (.iload_n 1) 1, xP 85 (.iconst 5) 1, xP 86 (.if_icmp .le 23) 3, xP 89 (.aload_n 0) 1, xQ 90 (.getfield 13) 3 9 1 1009, xP 93 (.bipush 6) 2, xP 95 (.aload_n 0) 1, xQ 96 (.getfield 222) 3 9 29 1037, xP 99 .imul 1, xP 100 (.iload_n 1) 1, xP 101 .iadd 1, xP 102 (.bipush 6) 2, xP 104 .isub 1, xP 105 .iaload 1, xP 106 (.goto 7) 3, xP 109 (.aload_n 0) 1, xQ 110 (.getfield 222) 3 9 29 1037, xQ 113 (.putfield 222) 3 9 29 1037, xP 116 .return_ 1]
/-- SofaStairModel.goRow -/
noncomputable def xc_236 : List (Nat × xa_I) := [xP 0 (.aload_n 0) 1, xP 1 (.iconst 0) 1, xP 2 (.iconst 0) 1, xQ 3 (.invokevirtual 203) 3 227 3 1239, xP 6 (.aload_n 0) 1, xP 7 (.aload_n 0) 1, xQ 8 (.getfield 46) 3 9 15 1023, xP 11 (.iload_n 1) 1, xP 12 .iaload 1, xP 13 (.bipush 24) 2, xP 15 .idiv 1, xQ 16 (.putfield 216) 3 9 26 1034, xP 19 (.aload_n 0) 1, xP 20 (.aload_n 0) 1, xQ 21 (.getfield 46) 3 9 15 1023, xP 24 (.iload_n 1) 1, xP 25 .iaload 1, xP 26 (.iconst 4) 1, xP 27 .idiv 1, xP 28 (.bipush 6) 2, xP 30 .irem 1, xQ 31 (.putfield 213) 3 9 27 1035, xP 34 (.aload_n 0) 1, xP 35 (.aload_n 0) 1, xQ 36 (.getfield 46) 3 9 15 1023, xP 39 (.iload_n 1) 1, xP 40 .iaload 1, xP 41 (.iconst 4) 1, xP 42 .irem 1, xQ 43 (.putfield 219) 3 9 28 1036, xP 46 (.aload_n 0) 1, xP 47 (.aload_n 0) 1, xQ 48 (.getfield 49) 3 9 16 1024, xP 51 (.iload_n 1) 1, xP 52 .iaload 1, xQ 53 (.putfield 222) 3 9 29 1037, xP 56 (.aload_n 0) 1, xP 57 (.bipush (-6)) 2, xQ 59 (.putfield 225) 3 9 30 1038, xP 62 (.aload_n 0) 1, xP 63 (.bipush (-6)) 2, xQ 65 (.putfield 228) 3 9 31 1039, xP 68 (.iconst 0) 1, xP 69 (.istore_n 2) 1, xP 70 (.iload_n 2) 1, xP 71 (.aload_n 0) 1, xQ 72 (.getfield 145) 3 9 19 1027, xP 75 (.if_icmp .ge 60) 3, xP 78 (.aload_n 0) 1, xP 79 (.aload_n 0) 1, xQ 80 (.getfield 55) 3 9 18 1026, xP 83 (.iload_n 2) 1, xP 84 .iaload 1, xQ 85 (.invokestatic 159) 3 218 1 1202, xQ 88 (.invokevirtual 231) 3 235 2 1274, xP 91 (.aload_n 0) 1, xP 92 (.iload_n 1) 1, xP 93 (.aload_n 0) 1, xQ 94 (.getfield 222) 3 9 29 1037, xP 97 (.aload_n 0) 1, xQ 98 (.getfield 216) 3 9 26 1034, xP 101 (.aload_n 0) 1, xQ 102 (.getfield 213) 3 9 27 1035, xP 105 (.aload_n 0) 1, xQ 106 (.getfield 219) 3 9 28 1036, xQ 109 (.invokevirtual 206) 3 231 6 1243, xP 112 (.istore_n 3) 1, xP 113 (.iload_n 3) 1, xP 114 (.ifCond .lt 15) 3, xP 117 (.aload_n 0) 1, xP 118 (.iload_n 2) 1, xQ 119 (.putfield 225) 3 9 30 1038, xP 122 (.aload_n 0) 1, xP 123 (.iload_n 3) 1, xQ 124 (.putfield 228) 3 9 31 1039, xP 127 (.iconst 0) 1, xP 128 .ireturn 1, xP 129 (.iinc 2 1) 3, xP 132 (.goto (-62)) 3, xP 135 (.iconst 1) 1, xP 136 .ireturn 1]
/-- SofaStairModel.judge -/
noncomputable def xc_237 : List (Nat × xa_I) := [xP 0 (.iload_n 1) 1, xQ 1 (.invokestatic 169) 3 202 1 1209, xP 4 (.ifCond .ne 5) 3, xP 7 (.iconst (-1)) 1, xP 8 .ireturn 1, xP 9 (.iload_n 2) 1, xP 10 .i2l 1, xP 11 (.lconst 0) 1, xP 12 (.lconst 1) 1, xQ 13 (.invokestatic 108) 3 201 3 1145, xP 16 (.ifCond .ne 6) 3, xP 19 (.bipush (-2)) 2, xP 21 .ireturn 1, xP 22 (.aload_n 0) 1, xQ 23 (.getfield 46) 3 9 15 1023, xP 26 (.iload_n 1) 1, xP 27 .iaload 1, xP 28 (.ifCond .ge 6) 3, xP 31 (.bipush (-3)) 2, xP 33 .ireturn 1, xP 34 (.aload_n 0) 1, xQ 35 (.invokevirtual 166) 3 220 1 1198, xP 38 (.ifCond .lt 6) 3, xP 41 (.bipush (-5)) 2, xP 43 .ireturn 1, xP 44 (.aload_n 0) 1, xP 45 (.iload_n 1) 1, xQ 46 (.invokevirtual 235) 3 236 2 1270, xP 49 .pop 1, xP 50 (.iload_n 2) 1, xP 51 (.ifCond .ne 10) 3, xP 54 (.aload_n 0) 1, xQ 55 (.getfield 225) 3 9 30 1038, xP 58 (.goto 7) 3, xP 61 (.aload_n 0) 1, xQ 62 (.getfield 228) 3 9 31 1039, xP 65 .ireturn 1]
/-- SofaStairModel.move -/
noncomputable def xc_238 : List (Nat × xa_I) := [xP 0 (.iload_n 1) 1, xQ 1 (.invokestatic 169) 3 202 1 1209, xP 4 (.ifCond .ne 5) 3, xP 7 (.iconst (-1)) 1, xP 8 .ireturn 1, xP 9 (.aload_n 0) 1, xQ 10 (.getfield 46) 3 9 15 1023, xP 13 (.iload_n 1) 1, xP 14 .iaload 1, xP 15 (.ifCond .ge 6) 3, xP 18 (.bipush (-3)) 2, xP 20 .ireturn 1, xP 21 (.aload_n 0) 1, xQ 22 (.invokevirtual 166) 3 220 1 1198, xP 25 (.ifCond .ge 11) 3, xP 28 (.aload_n 0) 1, xP 29 (.iload_n 1) 1, xQ 30 (.invokevirtual 235) 3 236 2 1270, xP 33 (.ifCond .ne 6) 3, xP 36 (.bipush (-5)) 2, xP 38 .ireturn 1, xP 39 (.aload_n 0) 1, xQ 40 (.getfield 46) 3 9 15 1023, xP 43 (.iload_n 1) 1, xP 44 (.aload_n 0) 1, xQ 45 (.getfield 216) 3 9 26 1034, xP 48 (.aload_n 0) 1, xQ 49 (.getfield 213) 3 9 27 1035, xP 52 (.aload_n 0) 1, xQ 53 (.getfield 219) 3 9 28 1036, xQ 56 (.invokestatic 124) 3 208 3 1162, xP 59 .iastore 1, xP 60 (.aload_n 0) 1, xQ 61 (.getfield 49) 3 9 16 1024, xP 64 (.iload_n 1) 1, xP 65 (.aload_n 0) 1, xQ 66 (.getfield 222) 3 9 29 1037, xP 69 .iastore 1, xP 70 (.aload_n 0) 1, xP 71 (.iconst 0) 1, xQ 72 (.putfield 145) 3 9 19 1027, xP 75 (.aload_n 0) 1, xQ 76 (.getfield 46) 3 9 15 1023, xP 79 (.iload_n 1) 1, xP 80 .iaload 1, xQ 81 (.invokestatic 210) 3 210 1 1263, xP 84 .ireturn 1]
/-- SofaStairModel.findFits -/
noncomputable def xc_239 : List (Nat × xa_I) := [xP 0 (.iconst 0) 1, xP 1 (.istore_n 2) 1, xP 2 (.iload_n 2) 1, xP 3 (.bipush 24) 2, xP 5 (.if_icmp .ge 68) 3, xP 8 (.aload_n 0) 1, xP 9 (.iload_n 1) 1, xP 10 (.iload_n 2) 1, xQ 11 (.invokevirtual 175) 3 224 3 1217, xP 14 (.iconst 0) 1, xP 15 (.istore_n 3) 1, xP 16 (.iload_n 3) 1, xP 17 (.sipush 144) 3, xP 20 (.if_icmp .ge 47) 3, xP 23 (.aload_n 0) 1, xQ 24 (.getfield 71) 3 9 32 1040, xP 27 (.sipush 144) 3, xP 30 (.iload_n 2) 1, xP 31 .imul 1, xP 32 (.iload_n 3) 1, xP 33 .iadd 1, xP 34 (.aload_n 0) 1, xP 35 (.iload_n 1) 1, xP 36 (.iload_n 3) 1, xP 37 (.bipush 24) 2, xP 39 .idiv 1, xP 40 (.iload_n 3) 1, xP 41 (.iconst 4) 1, xP 42 .idiv 1, xP 43 (.bipush 6) 2, xP 45 .irem 1, xP 46 (.iload_n 3) 1, xP 47 (.iconst 4) 1, xP 48 .irem 1, xQ 49 (.invokevirtual 195) 3 230 5 1247, xP 52 (.ifCond .ge 7) 3, xP 55 (.iconst 1) 1, xP 56 (.goto 4) 3, xP 59 (.iconst 0) 1, xP 60 .bastore 1, xP 61 (.iinc 3 1) 3, xP 64 (.goto (-48)) 3, xP 67 (.iinc 2 1) 3, xP 70 (.goto (-68)) 3, xP 73 .return_ 1]
/-- SofaStairModel.next -/
noncomputable def xc_240 : List (Nat × xa_I) := [xP 0 (.aload_n 0) 1, xP 1 (.iload_n 1) 1, xP 2 (.sipush 144) 3, xP 5 .irem 1, xP 6 (.bipush 24) 2, xP 8 .idiv 1, xQ 9 (.putfield 216) 3 9 26 1034, xP 12 (.aload_n 0) 1, xP 13 (.iload_n 1) 1, xP 14 (.sipush 144) 3, xP 17 .irem 1, xP 18 (.iconst 4) 1, xP 19 .idiv 1, xP 20 (.bipush 6) 2, xP 22 .irem 1, xQ 23 (.putfield 213) 3 9 27 1035, xP 26 (.aload_n 0) 1, xP 27 (.iload_n 1) 1, xP 28 (.iconst 4) 1, xP 29 .irem 1, xQ 30 (.putfield 219) 3 9 28 1036, xP 33 (.aload_n 0) 1, xP 34 (.iload_n 1) 1, xP 35 (.sipush 144) 3, xP 38 .idiv 1, xQ 39 (.putfield 222) 3 9 29 1037, xP 42 (.aload_n 0) 1, xP 43 (.iload_n 2) 1, xQ 44 (.invokevirtual 231) 3 235 2 1274, xP 47 (.aload_n 0) 1, xP 48 (.aload_n 0) 1, xQ 49 (.getfield 216) 3 9 26 1034, xP 52 (.aload_n 0) 1, xQ 53 (.getfield 213) 3 9 27 1035, xP 56 (.aload_n 0) 1, xQ 57 (.getfield 219) 3 9 28 1036, xQ 60 (.invokevirtual 120) 3 206 4 1157, xP 63 (.ifCond .ne 6) 3, xP 66 (.bipush (-6)) 2, xP 68 .ireturn 1, xP 69 (.sipush 144) 3, xP 72 (.aload_n 0) 1, xQ 73 (.getfield 222) 3 9 29 1037, xP 76 .imul 1, xP 77 (.aload_n 0) 1, xQ 78 (.getfield 216) 3 9 26 1034, xP 81 (.aload_n 0) 1, xQ 82 (.getfield 213) 3 9 27 1035, xP 85 (.aload_n 0) 1, xQ 86 (.getfield 219) 3 9 28 1036, xQ 89 (.invokestatic 124) 3 208 3 1162, xP 92 .iadd 1, xP 93 (.istore_n 3) 1, xP 94 (.aload_n 0) 1, xQ 95 (.getfield 71) 3 9 32 1040, xP 98 (.iload_n 3) 1, xP 99 .baload 1, xP 100 (.ifCond .eq 7) 3, xP 103 (.iload_n 3) 1, xP 104 (.goto 5) 3, xP 107 (.bipush (-6)) 2, xP 109 .ireturn 1]
/-- SofaStairModel.undo -/
noncomputable def xc_241 : List (Nat × xa_I) := [xP 0 (.iload_n 0) 1, xP 1 (.bipush 6) 2, xP 3 (.if_icmp .ge 9) 3, xP 6 (.iload_n 0) 1, xP 7 (.iconst 1) 1, xP 8 .ixor 1, xP 9 (.goto 18) 3, xP 12 (.iload_n 0) 1, xP 13 (.bipush 9) 2, xP 15 (.if_icmp .ge 9) 3, xP 18 (.iload_n 0) 1, xP 19 (.iconst 3) 1, xP 20 .iadd 1, xP 21 (.goto 6) 3, xP 24 (.iload_n 0) 1, xP 25 (.iconst 3) 1, xP 26 .isub 1, xP 27 .ireturn 1]
/-- SofaStairModel.cubesOn -/
noncomputable def xc_242 : List (Nat × xa_I) := [xP 0 (.iconst 0) 1, xP 1 (.istore_n 2) 1, xP 2 (.iconst 0) 1, xP 3 (.istore_n 3) 1, xP 4 (.iload_n 3) 1, xP 5 (.aload_n 0) 1, xQ 6 (.getfield 22) 3 9 7 1015, xP 9 (.iload_n 1) 1, xP 10 .iaload 1, xP 11 (.if_icmp .ge 26) 3, xP 14 (.iload_n 2) 1, xP 15 (.aload_n 0) 1, xP 16 (.iload_n 1) 1, xP 17 (.iload_n 3) 1, xQ 18 (.invokevirtual 188) 3 228 3 1251, xP 21 (.ifCond .eq 7) 3, xP 24 (.iconst 1) 1, xP 25 (.goto 4) 3, xP 28 (.iconst 0) 1, xP 29 .iadd 1, xP 30 (.istore_n 2) 1, xP 31 (.iinc 3 1) 3, xP 34 (.goto (-30)) 3, xP 37 (.iload_n 2) 1, xP 38 .ireturn 1]
/-- SofaStairModel.costOf -/
noncomputable def xc_243 : List (Nat × xa_I) := [xP 0 (.aload_n 0) 1, xQ 1 (.getfield 238) 3 9 37 1045, xP 4 (.ifCond .ne 5) 3, xP 7 (.lconst 1) 1, xP 8 .lreturn 1, xP 9 (.iload_n 1) 1, xP 10 (.iconst 4) 1, xP 11 (.if_icmp .ge 12) 3, xP 14 (.aload_n 0) 1, xQ 15 (.getfield 43) 3 9 14 1022, xP 18 (.iconst 0) 1, xP 19 .iaload 1, xP 20 (.goto 42) 3, xP 23 (.iload_n 1) 1, xP 24 (.iconst 4) 1, xP 25 (.if_icmp .ne 17) 3, xP 28 (.aload_n 0) 1, xQ 29 (.getfield 43) 3 9 14 1022, xP 32 (.iconst 1) 1, xP 33 .iaload 1, xP 34 (.aload_n 0) 1, xQ 35 (.getfield 242) 3 9 36 1044, xP 38 .imul 1, xP 39 (.goto 23) 3, xP 42 (.iload_n 1) 1, xP 43 (.iconst 5) 1, xP 44 (.if_icmp .ne 12) 3, xP 47 (.aload_n 0) 1, xQ 48 (.getfield 43) 3 9 14 1022, xP 51 (.iconst 2) 1, xP 52 .iaload 1, xP 53 (.goto 9) 3, xP 56 (.aload_n 0) 1, xQ 57 (.getfield 43) 3 9 14 1022, xP 60 (.iconst 3) 1, xP 61 .iaload 1, xP 62 (.istore_n 2) 1, xQ 63 (.ldc2_w 245) 3 10000 0 1314, xP 66 (.iload_n 2) 1, xP 67 .i2l 1, xP 68 .lmul 1, xP 69 (.lconst 1) 1, xP 70 .ladd 1, xP 71 .lreturn 1]
/-- SofaStairModel.findOff -/
noncomputable def xc_244 : List (Nat × xa_I) := [xP 0 (.aload_n 0) 1, xP 1 (.iload_n 1) 1, xQ 2 (.invokevirtual 247) 3 239 2 1294, xP 5 (.aload_n 0) 1, xP 6 (.aload_n 0) 1, xP 7 (.iload_n 1) 1, xQ 8 (.invokevirtual 250) 3 242 2 1298, xQ 11 (.putfield 242) 3 9 36 1044, xP 14 (.iconst 0) 1, xP 15 (.istore_n 3) 1, xP 16 (.iconst 0) 1, xP 17 (.istore 4) 2, xP 19 (.iconst 0) 1, xP 20 (.istore 5) 2, xP 22 (.iload 5) 2, xP 24 (.sipush 3456) 3, xP 27 (.if_icmp .ge 80) 3, xP 30 (.iload 5) 2, xP 32 (.sipush 144) 3, xP 35 .irem 1, xP 36 (.iload_n 2) 1, xP 37 (.if_icmp .ne 17) 3, xP 40 (.aload_n 0) 1, xQ 41 (.getfield 71) 3 9 32 1040, xP 44 (.iload 5) 2, xP 46 .baload 1, xP 47 (.ifCond .eq 7) 3, xP 50 (.iconst 1) 1, xP 51 (.goto 4) 3, xP 54 (.iconst 0) 1, xP 55 (.istore 6) 2, xP 57 (.aload_n 0) 1, xQ 58 (.getfield 74) 3 9 33 1041, xP 61 (.iload 5) 2, xP 63 (.iload 6) 2, xP 65 (.ifCond .eq 7) 3, xP 68 (.lconst 0) 1, xP 69 (.goto 6) 3, xQ 72 (.ldc2_w 253) 3 1000000000000000 0 1302, xP 75 .lastore 1, xP 76 (.aload_n 0) 1, xQ 77 (.getfield 81) 3 9 35 1043, xP 80 (.iload 5) 2, xP 82 (.iload 6) 2, xP 84 .bastore 1, xP 85 (.iload 6) 2, xP 87 (.ifCond .eq 14) 3, xP 90 (.aload_n 0) 1, xQ 91 (.getfield 78) 3 9 34 1042, xP 94 (.iload_n 3) 1, xP 95 (.iload 5) 2, xP 97 .iastore 1, xP 98 (.iinc 3 1) 3, xP 101 (.iinc 5 1) 3, xP 104 (.goto (-82)) 3, xP 107 (.iload_n 3) 1, xP 108 (.ifCond .le 152) 3, xP 111 (.aload_n 0) 1, xQ 112 (.getfield 78) 3 9 34 1042, xP 115 (.iload 4) 2, xP 117 .iaload 1, xP 118 (.istore 5) 2, xP 120 (.iload 4) 2, xP 122 (.iconst 1) 1, xP 123 .iadd 1, xP 124 (.sipush 3456) 3, xP 127 .irem 1, xP 128 (.istore 4) 2, xP 130 (.iinc 3 (-1)) 3, xP 133 (.aload_n 0) 1, xQ 134 (.getfield 81) 3 9 35 1043, xP 137 (.iload 5) 2, xP 139 (.iconst 0) 1, xP 140 .bastore 1, xP 141 (.iconst 0) 1, xP 142 (.istore 6) 2, xP 144 (.iload 6) 2, xP 146 (.bipush 12) 2, xP 148 (.if_icmp .ge 109) 3, xP 151 (.aload_n 0) 1, xP 152 (.iload 5) 2, xP 154 (.iload 6) 2, xQ 156 (.invokestatic 255) 3 241 1 1303, xQ 159 (.invokevirtual 258) 3 240 3 1306, xP 162 (.istore 7) 2, xP 164 (.iload 7) 2, xP 166 (.ifCond .lt 85) 3, xP 169 (.aload_n 0) 1, xQ 170 (.getfield 74) 3 9 33 1041, xP 173 (.iload 5) 2, xP 175 .laload 1, xP 176 (.aload_n 0) 1, xP 177 (.iload 6) 2, xQ 179 (.invokevirtual 262) 3 243 2 1310, xP 182 .ladd 1, xP 183 (.aload_n 0) 1, xQ 184 (.getfield 74) 3 9 33 1041, xP 187 (.iload 7) 2, xP 189 .laload 1, xP 190 .lcmp 1, xP 191 (.ifCond .ge 60) 3, xP 194 (.aload_n 0) 1, xQ 195 (.getfield 74) 3 9 33 1041, xP 198 (.iload 7) 2, xP 200 (.aload_n 0) 1, xQ 201 (.getfield 74) 3 9 33 1041, xP 204 (.iload 5) 2, xP 206 .laload 1, xP 207 (.aload_n 0) 1, xP 208 (.iload 6) 2, xQ 210 (.invokevirtual 262) 3 243 2 1310, xP 213 .ladd 1, xP 214 .lastore 1, xP 215 (.aload_n 0) 1, xQ 216 (.getfield 81) 3 9 35 1043, xP 219 (.iload 7) 2, xP 221 .baload 1, xP 222 (.ifCond .ne 29) 3, xP 225 (.aload_n 0) 1, xQ 226 (.getfield 81) 3 9 35 1043, xP 229 (.iload 7) 2, xP 231 (.iconst 1) 1, xP 232 .bastore 1, xP 233 (.aload_n 0) 1, xQ 234 (.getfield 78) 3 9 34 1042, xP 237 (.iload 4) 2, xP 239 (.iload_n 3) 1, xP 240 .iadd 1, xP 241 (.sipush 3456) 3, xP 244 .irem 1, xP 245 (.iload 7) 2, xP 247 .iastore 1, xP 248 (.iinc 3 1) 3, xP 251 (.iinc 6 1) 3, xP 254 (.goto (-110)) 3, xP 257 (.goto (-150)) 3, xP 260 .return_ 1]
/-- SofaStairModel.standOf -/
noncomputable def xc_245 : List (Nat × xa_I) := [xP 0 (.sipush 144) 3, xP 3 (.aload_n 0) 1, xQ 4 (.getfield 49) 3 9 16 1024, xP 7 (.iload_n 1) 1, xP 8 .iaload 1, xP 9 .imul 1, xP 10 (.aload_n 0) 1, xQ 11 (.getfield 46) 3 9 15 1023, xP 14 (.iload_n 1) 1, xP 15 .iaload 1, xP 16 .iadd 1, xP 17 .ireturn 1]
/-- SofaStairModel.bestMove -/
noncomputable def xc_246 : List (Nat × xa_I) := [xP 0 (.iconst 0) 1, xP 1 (.istore_n 2) 1, xP 2 (.aload_n 0) 1, xP 3 (.iload_n 1) 1, xP 4 (.iload_n 2) 1, xQ 5 (.invokevirtual 258) 3 240 3 1306, xP 8 (.istore_n 3) 1, xP 9 (.iload_n 3) 1, xP 10 (.ifCond .lt 25) 3, xP 13 (.aload_n 0) 1, xQ 14 (.getfield 74) 3 9 33 1041, xP 17 (.iload_n 3) 1, xP 18 .laload 1, xP 19 (.aload_n 0) 1, xP 20 (.iload_n 2) 1, xQ 21 (.invokevirtual 262) 3 243 2 1310, xP 24 .ladd 1, xP 25 (.aload_n 0) 1, xQ 26 (.getfield 74) 3 9 33 1041, xP 29 (.iload_n 1) 1, xP 30 .laload 1, xP 31 .lcmp 1, xP 32 (.ifCond .eq 16) 3, xP 35 (.iinc 2 1) 3, xP 38 (.aload_n 0) 1, xP 39 (.iload_n 1) 1, xP 40 (.iload_n 2) 1, xQ 41 (.invokevirtual 258) 3 240 3 1306, xP 44 (.istore_n 3) 1, xP 45 (.goto (-36)) 3, xP 48 (.iload_n 2) 1, xP 49 .ireturn 1]
/-- SofaStairModel.moveAt -/
noncomputable def xc_247 : List (Nat × xa_I) := [xP 0 (.aload_n 0) 1, xP 1 (.iload_n 1) 1, xQ 2 (.invokevirtual 266) 3 245 2 1315, xP 5 (.istore_n 3) 1, xP 6 (.iconst 0) 1, xP 7 (.istore 4) 2, xP 9 (.iload 4) 2, xP 11 (.iload_n 2) 1, xP 12 (.if_icmp .gt 50) 3, xP 15 (.aload_n 0) 1, xQ 16 (.getfield 74) 3 9 33 1041, xP 19 (.iload_n 3) 1, xP 20 .laload 1, xP 21 (.lconst 0) 1, xP 22 .lcmp 1, xP 23 (.ifCond .ne 6) 3, xP 26 (.bipush (-6)) 2, xP 28 .ireturn 1, xP 29 (.aload_n 0) 1, xP 30 (.iload_n 3) 1, xQ 31 (.invokevirtual 269) 3 246 2 1323, xP 34 (.istore 5) 2, xP 36 (.iload 4) 2, xP 38 (.iload_n 2) 1, xP 39 (.if_icmp .ne 9) 3, xP 42 (.iload 5) 2, xQ 44 (.invokestatic 272) 3 219 1 1327, xP 47 .ireturn 1, xP 48 (.aload_n 0) 1, xP 49 (.iload_n 3) 1, xP 50 (.iload 5) 2, xQ 52 (.invokevirtual 258) 3 240 3 1306, xP 55 (.istore_n 3) 1, xP 56 (.iinc 4 1) 3, xP 59 (.goto (-50)) 3, xP 62 (.bipush (-6)) 2, xP 64 .ireturn 1]
/-- SofaStairModel.isSet -/
noncomputable def xc_248 : List (Nat × xa_I) := [xP 0 (.iload_n 0) 1, xP 1 .i2l 1, xP 2 (.lconst 0) 1, xQ 3 (.ldc2_w 275) 3 15 0 1289, xQ 6 (.invokestatic 108) 3 201 3 1145, xP 9 .ireturn 1]
/-- SofaStairModel.goes -/
noncomputable def xc_249 : List (Nat × xa_I) := [xP 0 (.iload_n 1) 1, xQ 1 (.invokestatic 169) 3 202 1 1209, xP 4 (.ifCond .ne 5) 3, xP 7 (.iconst (-1)) 1, xP 8 .ireturn 1, xP 9 (.iload_n 2) 1, xQ 10 (.invokestatic 277) 3 248 1 1286, xP 13 (.ifCond .eq 10) 3, xP 16 (.iload_n 3) 1, xQ 17 (.invokestatic 277) 3 248 1 1286, xP 20 (.ifCond .ne 6) 3, xP 23 (.bipush (-2)) 2, xP 25 .ireturn 1, xP 26 (.aload_n 0) 1, xQ 27 (.getfield 46) 3 9 15 1023, xP 30 (.iload_n 1) 1, xP 31 .iaload 1, xP 32 (.ifCond .ge 6) 3, xP 35 (.bipush (-3)) 2, xP 37 .ireturn 1, xP 38 (.aload_n 0) 1, xP 39 (.iload_n 2) 1, xP 40 (.iload_n 3) 1, xQ 41 (.invokevirtual 203) 3 227 3 1239, xP 44 (.aload_n 0) 1, xP 45 (.iconst 0) 1, xQ 46 (.putfield 238) 3 9 37 1045, xP 49 (.aload_n 0) 1, xP 50 (.iload_n 1) 1, xP 51 (.aload_n 0) 1, xQ 52 (.getfield 52) 3 9 17 1025, xP 55 (.iload_n 1) 1, xP 56 .iaload 1, xQ 57 (.invokevirtual 280) 3 244 3 1290, xP 60 (.aload_n 0) 1, xQ 61 (.getfield 74) 3 9 33 1041, xP 64 (.aload_n 0) 1, xP 65 (.iload_n 1) 1, xQ 66 (.invokevirtual 266) 3 245 2 1315, xP 69 .laload 1, xP 70 (.lstore 5) 2, xP 72 (.lload 5) 2, xQ 74 (.ldc2_w 253) 3 1000000000000000 0 1302, xP 77 .lcmp 1, xP 78 (.ifCond .ne 8) 3, xP 81 (.bipush (-6)) 2, xP 83 (.goto 22) 3, xP 86 (.iload 4) 2, xP 88 (.iconst (-1)) 1, xP 89 (.if_icmp .ne 9) 3, xP 92 (.lload 5) 2, xP 94 .l2i 1, xP 95 (.goto 10) 3, xP 98 (.aload_n 0) 1, xP 99 (.iload_n 1) 1, xP 100 (.iload 4) 2, xQ 102 (.invokevirtual 283) 3 247 3 1319, xP 105 .ireturn 1]
/-- SofaStairModel.effort -/
noncomputable def xc_250 : List (Nat × xa_I) := [xP 0 (.iload_n 1) 1, xQ 1 (.invokestatic 169) 3 202 1 1209, xP 4 (.ifCond .ne 5) 3, xP 7 (.iconst (-1)) 1, xP 8 .ireturn 1, xP 9 (.iload_n 2) 1, xQ 10 (.invokestatic 277) 3 248 1 1286, xP 13 (.ifCond .eq 10) 3, xP 16 (.iload_n 3) 1, xQ 17 (.invokestatic 277) 3 248 1 1286, xP 20 (.ifCond .ne 6) 3, xP 23 (.bipush (-2)) 2, xP 25 .ireturn 1, xP 26 (.aload_n 0) 1, xQ 27 (.getfield 46) 3 9 15 1023, xP 30 (.iload_n 1) 1, xP 31 .iaload 1, xP 32 (.ifCond .ge 6) 3, xP 35 (.bipush (-3)) 2, xP 37 .ireturn 1, xP 38 (.aload_n 0) 1, xP 39 (.iload_n 2) 1, xP 40 (.iload_n 3) 1, xQ 41 (.invokevirtual 203) 3 227 3 1239, xP 44 (.aload_n 0) 1, xP 45 (.iconst 1) 1, xQ 46 (.putfield 238) 3 9 37 1045, xP 49 (.aload_n 0) 1, xP 50 (.iload_n 1) 1, xP 51 (.aload_n 0) 1, xQ 52 (.getfield 52) 3 9 17 1025, xP 55 (.iload_n 1) 1, xP 56 .iaload 1, xQ 57 (.invokevirtual 280) 3 244 3 1290, xP 60 (.aload_n 0) 1, xQ 61 (.getfield 74) 3 9 33 1041, xP 64 (.aload_n 0) 1, xP 65 (.iload_n 1) 1, xQ 66 (.invokevirtual 266) 3 245 2 1315, xP 69 .laload 1, xP 70 (.lstore 5) 2, xP 72 (.lload 5) 2, xQ 74 (.ldc2_w 253) 3 1000000000000000 0 1302, xP 77 .lcmp 1, xP 78 (.ifCond .ne 8) 3, xP 81 (.bipush (-6)) 2, xP 83 (.goto 26) 3, xP 86 (.iload 4) 2, xP 88 (.iconst (-1)) 1, xP 89 (.if_icmp .ne 13) 3, xP 92 (.lload 5) 2, xQ 94 (.ldc2_w 245) 3 10000 0 1314, xP 97 .ldiv 1, xP 98 .l2i 1, xP 99 (.goto 10) 3, xP 102 (.aload_n 0) 1, xP 103 (.iload_n 1) 1, xP 104 (.iload 4) 2, xQ 106 (.invokevirtual 283) 3 247 3 1319, xP 109 .ireturn 1]
/-- SofaStairModel.comesTo -/
noncomputable def xc_251 : List (Nat × xa_I) := [xP 0 (.aload_n 0) 1, xP 1 (.iconst 0) 1, xP 2 (.iconst 0) 1, xQ 3 (.invokevirtual 203) 3 227 3 1239, xP 6 (.aload_n 0) 1, xP 7 (.iload_n 1) 1, xQ 8 (.invokevirtual 247) 3 239 2 1294, xP 11 (.aload_n 0) 1, xP 12 (.iload_n 1) 1, xQ 13 (.invokevirtual 266) 3 245 2 1315, xP 16 (.istore_n 2) 1, xP 17 (.aload_n 0) 1, xQ 18 (.getfield 71) 3 9 32 1040, xP 21 (.iload_n 2) 1, xP 22 .baload 1, xP 23 (.ifCond .ne 5) 3, xP 26 (.iconst 0) 1, xP 27 .ireturn 1, xP 28 (.iconst 0) 1, xP 29 (.istore_n 3) 1, xP 30 (.iload_n 3) 1, xP 31 (.sipush 3456) 3, xP 34 (.if_icmp .ge 25) 3, xP 37 (.aload_n 0) 1, xQ 38 (.getfield 81) 3 9 35 1043, xP 41 (.iload_n 3) 1, xP 42 (.iload_n 3) 1, xP 43 (.iload_n 2) 1, xP 44 (.if_icmp .ne 7) 3, xP 47 (.iconst 1) 1, xP 48 (.goto 4) 3, xP 51 (.iconst 0) 1, xP 52 .bastore 1, xP 53 (.iinc 3 1) 3, xP 56 (.goto (-26)) 3, xP 59 (.aload_n 0) 1, xQ 60 (.getfield 78) 3 9 34 1042, xP 63 (.iconst 0) 1, xP 64 (.iload_n 2) 1, xP 65 .iastore 1, xP 66 (.iconst 1) 1, xP 67 (.istore_n 3) 1, xP 68 (.iconst 0) 1, xP 69 (.istore 4) 2, xP 71 (.iload 4) 2, xP 73 (.iload_n 3) 1, xP 74 (.if_icmp .ge 74) 3, xP 77 (.iconst 0) 1, xP 78 (.istore 5) 2, xP 80 (.iload 5) 2, xP 82 (.bipush 12) 2, xP 84 (.if_icmp .ge 58) 3, xP 87 (.aload_n 0) 1, xP 88 (.aload_n 0) 1, xQ 89 (.getfield 78) 3 9 34 1042, xP 92 (.iload 4) 2, xP 94 .iaload 1, xP 95 (.iload 5) 2, xQ 97 (.invokevirtual 258) 3 240 3 1306, xP 100 (.istore 6) 2, xP 102 (.iload 6) 2, xP 104 (.ifCond .lt 32) 3, xP 107 (.aload_n 0) 1, xQ 108 (.getfield 81) 3 9 35 1043, xP 111 (.iload 6) 2, xP 113 .baload 1, xP 114 (.ifCond .ne 22) 3, xP 117 (.aload_n 0) 1, xQ 118 (.getfield 81) 3 9 35 1043, xP 121 (.iload 6) 2, xP 123 (.iconst 1) 1, xP 124 .bastore 1, xP 125 (.aload_n 0) 1, xQ 126 (.getfield 78) 3 9 34 1042, xP 129 (.iload_n 3) 1, xP 130 (.iload 6) 2, xP 132 .iastore 1, xP 133 (.iinc 3 1) 3, xP 136 (.iinc 5 1) 3, xP 139 (.goto (-59)) 3, xP 142 (.iinc 4 1) 3, xP 145 (.goto (-74)) 3, xP 148 (.iload_n 3) 1, xP 149 .ireturn 1]
/-- SofaStairModel.against -/
noncomputable def xc_252 : List (Nat × xa_I) := [xP 0 (.aload_n 0) 1, xP 1 (.iload_n 1) 1, xP 2 (.iload_n 2) 1, xP 3 (.iload_n 3) 1, xQ 4 (.invokevirtual 120) 3 206 4 1157, xP 7 (.ifCond .eq 17) 3, xP 10 (.aload_n 0) 1, xQ 11 (.getfield 19) 3 9 6 1014, xP 14 (.iload_n 1) 1, xP 15 (.iload_n 2) 1, xP 16 (.iload_n 3) 1, xQ 17 (.invokestatic 124) 3 208 3 1162, xP 20 .iaload 1, xP 21 (.ifCond .eq 7) 3, xP 24 (.iconst 1) 1, xP 25 (.goto 4) 3, xP 28 (.iconst 0) 1, xP 29 .ireturn 1]
/-- SofaStairModel.isOwn -/
noncomputable def xc_253 : List (Nat × xa_I) := [xP 0 (.iconst 0) 1, xP 1 (.istore 5) 2, xP 3 (.iconst 0) 1, xP 4 (.istore 6) 2, xP 6 (.iload 6) 2, xP 8 (.aload_n 0) 1, xQ 9 (.getfield 22) 3 9 7 1015, xP 12 (.iload_n 1) 1, xP 13 .iaload 1, xP 14 (.if_icmp .ge 55) 3, xP 17 (.iload 5) 2, xP 19 (.ifCond .ne 37) 3, xP 22 (.aload_n 0) 1, xQ 23 (.getfield 58) 3 9 20 1028, xP 26 (.iload 6) 2, xP 28 .iaload 1, xP 29 (.iload_n 2) 1, xP 30 (.if_icmp .ne 30) 3, xP 33 (.aload_n 0) 1, xQ 34 (.getfield 61) 3 9 21 1029, xP 37 (.iload 6) 2, xP 39 .iaload 1, xP 40 (.iload_n 3) 1, xP 41 (.if_icmp .ne 19) 3, xP 44 (.aload_n 0) 1, xQ 45 (.getfield 64) 3 9 22 1030, xP 48 (.iload 6) 2, xP 50 .iaload 1, xP 51 (.iload 4) 2, xP 53 (.if_icmp .ne 7) 3, xP 56 (.iconst 1) 1, xP 57 (.goto 4) 3, xP 60 (.iconst 0) 1, xP 61 (.istore 5) 2, xP 63 (.iinc 6 1) 3, xP 66 (.goto (-60)) 3, xP 69 (.iload 5) 2, xP 71 .ireturn 1]
/-- SofaStairModel.scrapes -/
noncomputable def xc_254 : List (Nat × xa_I) := [xP 0 (.aload_n 0) 1, xP 1 (.iload_n 1) 1, xP 2 (.aload_n 0) 1, xQ 3 (.getfield 49) 3 9 16 1024, xP 6 (.iload_n 1) 1, xP 7 .iaload 1, xQ 8 (.invokevirtual 175) 3 224 3 1217, xP 11 (.iconst 0) 1, xP 12 (.istore_n 2) 1, xP 13 (.iconst 0) 1, xP 14 (.istore_n 3) 1, xP 15 (.iload_n 3) 1, xP 16 (.aload_n 0) 1, xQ 17 (.getfield 22) 3 9 7 1015, xP 20 (.iload_n 1) 1, xP 21 .iaload 1, xP 22 (.if_icmp .ge 165) 3, xP 25 (.iconst 0) 1, xP 26 (.istore 4) 2, xP 28 (.iload 4) 2, xP 30 (.iconst 5) 1, xP 31 (.if_icmp .ge 150) 3, xP 34 (.aload_n 0) 1, xQ 35 (.getfield 58) 3 9 20 1028, xP 38 (.iload_n 3) 1, xP 39 .iaload 1, xP 40 (.iload 4) 2, xP 42 (.ifCond .ne 7) 3, xP 45 (.iconst (-1)) 1, xP 46 (.goto 14) 3, xP 49 (.iload 4) 2, xP 51 (.iconst 1) 1, xP 52 (.if_icmp .ne 7) 3, xP 55 (.iconst 1) 1, xP 56 (.goto 4) 3, xP 59 (.iconst 0) 1, xP 60 .iadd 1, xP 61 (.istore 5) 2, xP 63 (.aload_n 0) 1, xQ 64 (.getfield 61) 3 9 21 1029, xP 67 (.iload_n 3) 1, xP 68 .iaload 1, xP 69 (.iload 4) 2, xP 71 (.iconst 2) 1, xP 72 (.if_icmp .ne 7) 3, xP 75 (.iconst (-1)) 1, xP 76 (.goto 14) 3, xP 79 (.iload 4) 2, xP 81 (.iconst 3) 1, xP 82 (.if_icmp .ne 7) 3, xP 85 (.iconst 1) 1, xP 86 (.goto 4) 3, xP 89 (.iconst 0) 1, xP 90 .iadd 1, xP 91 (.istore 6) 2, xP 93 (.aload_n 0) 1, xQ 94 (.getfield 64) 3 9 22 1030, xP 97 (.iload_n 3) 1, xP 98 .iaload 1, xP 99 (.iload 4) 2, xP 101 (.iconst 4) 1, xP 102 (.if_icmp .ne 7) 3, xP 105 (.iconst 1) 1, xP 106 (.goto 4) 3, xP 109 (.iconst 0) 1, xP 110 .iadd 1, xP 111 (.istore 7) 2, xP 113 (.iload_n 2) 1, xP 114 (.aload_n 0) 1, xP 115 (.iload_n 1) 1, xP 116 (.iload 5) 2, xP 118 (.iload 6) 2, xP 120 (.iload 7) 2, xQ 122 (.invokevirtual 286) 3 253 5 1347, xP 125 (.ifCond .eq 7) 3, xP 128 (.iconst 0) 1, xP 129 (.goto 44) 3, xP 132 (.aload_n 0) 1, xP 133 (.aload_n 0) 1, xQ 134 (.getfield 46) 3 9 15 1023, xP 137 (.iload_n 1) 1, xP 138 .iaload 1, xP 139 (.bipush 24) 2, xP 141 .idiv 1, xP 142 (.iload 5) 2, xP 144 .iadd 1, xP 145 (.aload_n 0) 1, xQ 146 (.getfield 46) 3 9 15 1023, xP 149 (.iload_n 1) 1, xP 150 .iaload 1, xP 151 (.iconst 4) 1, xP 152 .idiv 1, xP 153 (.bipush 6) 2, xP 155 .irem 1, xP 156 (.iload 6) 2, xP 158 .iadd 1, xP 159 (.aload_n 0) 1, xQ 160 (.getfield 46) 3 9 15 1023, xP 163 (.iload_n 1) 1, xP 164 .iaload 1, xP 165 (.iconst 4) 1, xP 166 .irem 1, xP 167 (.iload 7) 2, xP 169 .iadd 1, xQ 170 (.invokevirtual 290) 3 252 4 1351, xP 173 .iadd 1, xP 174 (.istore_n 2) 1, xP 175 (.iinc 4 1) 3, xP 178 (.goto (-150)) 3, xP 181 (.iinc 3 1) 3, xP 184 (.goto (-169)) 3, xP 187 (.iload_n 2) 1, xP 188 .ireturn 1]
/-- SofaStairModel.turnable -/
noncomputable def xc_255 : List (Nat × xa_I) := [xP 0 (.aload_n 0) 1, xP 1 (.iconst 0) 1, xP 2 (.iconst 0) 1, xQ 3 (.invokevirtual 203) 3 227 3 1239, xP 6 (.aload_n 0) 1, xP 7 (.iload_n 1) 1, xQ 8 (.invokevirtual 247) 3 239 2 1294, xP 11 (.iconst 0) 1, xP 12 (.istore_n 2) 1, xP 13 (.iconst 0) 1, xP 14 (.istore_n 3) 1, xP 15 (.iload_n 3) 1, xP 16 (.sipush 144) 3, xP 19 (.if_icmp .ge 90) 3, xP 22 (.aload_n 0) 1, xQ 23 (.getfield 49) 3 9 16 1024, xP 26 (.iload_n 1) 1, xP 27 .iaload 1, xP 28 (.istore 4) 2, xP 30 (.iconst 1) 1, xP 31 (.istore 5) 2, xP 33 (.iconst 0) 1, xP 34 (.istore 6) 2, xP 36 (.iload 6) 2, xP 38 (.iconst 4) 1, xP 39 (.if_icmp .ge 51) 3, xP 42 (.iload 5) 2, xP 44 (.ifCond .eq 23) 3, xP 47 (.aload_n 0) 1, xQ 48 (.getfield 71) 3 9 32 1040, xP 51 (.sipush 144) 3, xP 54 (.iload 4) 2, xP 56 .imul 1, xP 57 (.iload_n 3) 1, xP 58 .iadd 1, xP 59 .baload 1, xP 60 (.ifCond .eq 7) 3, xP 63 (.iconst 1) 1, xP 64 (.goto 4) 3, xP 67 (.iconst 0) 1, xP 68 (.istore 5) 2, xP 70 (.aload_n 0) 1, xQ 71 (.getfield 13) 3 9 1 1009, xP 74 (.bipush 6) 2, xP 76 (.iload 4) 2, xP 78 .imul 1, xP 79 (.iconst 2) 1, xP 80 .iadd 1, xP 81 .iaload 1, xP 82 (.istore 4) 2, xP 84 (.iinc 6 1) 3, xP 87 (.goto (-51)) 3, xP 90 (.iload_n 2) 1, xP 91 (.iload 5) 2, xP 93 (.ifCond .eq 7) 3, xP 96 (.iconst 1) 1, xP 97 (.goto 4) 3, xP 100 (.iconst 0) 1, xP 101 .iadd 1, xP 102 (.istore_n 2) 1, xP 103 (.iinc 3 1) 3, xP 106 (.goto (-91)) 3, xP 109 (.iload_n 2) 1, xP 110 .ireturn 1]
/-- SofaStairModel.room -/
noncomputable def xc_256 : List (Nat × xa_I) := [xP 0 (.iload_n 1) 1, xQ 1 (.invokestatic 169) 3 202 1 1209, xP 4 (.ifCond .ne 5) 3, xP 7 (.iconst (-1)) 1, xP 8 .ireturn 1, xP 9 (.iload_n 2) 1, xP 10 .i2l 1, xP 11 (.lconst 0) 1, xQ 12 (.ldc2_w 293) 3 2 0 1338, xQ 15 (.invokestatic 108) 3 201 3 1145, xP 18 (.ifCond .ne 6) 3, xP 21 (.bipush (-2)) 2, xP 23 .ireturn 1, xP 24 (.aload_n 0) 1, xQ 25 (.getfield 46) 3 9 15 1023, xP 28 (.iload_n 1) 1, xP 29 .iaload 1, xP 30 (.ifCond .ge 6) 3, xP 33 (.bipush (-3)) 2, xP 35 .ireturn 1, xP 36 (.iload_n 2) 1, xP 37 (.ifCond .ne 11) 3, xP 40 (.aload_n 0) 1, xP 41 (.iload_n 1) 1, xQ 42 (.invokevirtual 295) 3 251 2 1339, xP 45 (.goto 21) 3, xP 48 (.iload_n 2) 1, xP 49 (.iconst 1) 1, xP 50 (.if_icmp .ne 11) 3, xP 53 (.aload_n 0) 1, xP 54 (.iload_n 1) 1, xQ 55 (.invokevirtual 298) 3 254 2 1343, xP 58 (.goto 8) 3, xP 61 (.aload_n 0) 1, xP 62 (.iload_n 1) 1, xQ 63 (.invokevirtual 301) 3 255 2 1355, xP 66 .ireturn 1]
/-- SofaStairModel.doesGo -/
noncomputable def xc_257 : List (Nat × xa_I) := [xP 0 (.aload_n 0) 1, xP 1 (.iload_n 2) 1, xP 2 (.iload_n 3) 1, xQ 3 (.invokevirtual 203) 3 227 3 1239, xP 6 (.aload_n 0) 1, xP 7 (.iconst 0) 1, xQ 8 (.putfield 238) 3 9 37 1045, xP 11 (.aload_n 0) 1, xP 12 (.iload_n 1) 1, xP 13 (.aload_n 0) 1, xQ 14 (.getfield 52) 3 9 17 1025, xP 17 (.iload_n 1) 1, xP 18 .iaload 1, xQ 19 (.invokevirtual 280) 3 244 3 1290, xP 22 (.aload_n 0) 1, xQ 23 (.getfield 74) 3 9 33 1041, xP 26 (.aload_n 0) 1, xP 27 (.iload_n 1) 1, xQ 28 (.invokevirtual 266) 3 245 2 1315, xP 31 .laload 1, xQ 32 (.ldc2_w 253) 3 1000000000000000 0 1302, xP 35 .lcmp 1, xP 36 (.ifCond .ge 7) 3, xP 39 (.iconst 1) 1, xP 40 (.goto 4) 3, xP 43 (.iconst 0) 1, xP 44 .ireturn 1]
/-- SofaStairModel.costOff -/
noncomputable def xc_258 : List (Nat × xa_I) := [xP 0 (.iconst 0) 1, xP 1 (.istore 4) 2, xP 3 (.iconst 0) 1, xP 4 (.istore 5) 2, xP 6 (.iload 5) 2, xP 8 (.iconst 4) 1, xP 9 (.if_icmp .ge 61) 3, xP 12 (.iload 4) 2, xP 14 (.iload_n 2) 1, xP 15 (.iload 5) 2, xP 17 .ishr 1, xP 18 (.iconst 1) 1, xP 19 .iand 1, xP 20 (.iconst 1) 1, xP 21 (.if_icmp .ne 17) 3, xP 24 (.aload_n 0) 1, xQ 25 (.getfield 37) 3 9 12 1020, xP 28 (.iconst 4) 1, xP 29 (.iload_n 1) 1, xP 30 .imul 1, xP 31 (.iload 5) 2, xP 33 .iadd 1, xP 34 .iaload 1, xP 35 (.goto 4) 3, xP 38 (.iconst 0) 1, xP 39 (.iload_n 3) 1, xP 40 (.iload 5) 2, xP 42 .ishr 1, xP 43 (.iconst 1) 1, xP 44 .iand 1, xP 45 (.iconst 1) 1, xP 46 (.if_icmp .ne 13) 3, xP 49 (.aload_n 0) 1, xQ 50 (.getfield 40) 3 9 13 1021, xP 53 (.iload 5) 2, xP 55 .iaload 1, xP 56 (.goto 4) 3, xP 59 (.iconst 0) 1, xP 60 .iadd 1, xP 61 .iadd 1, xP 62 (.istore 4) 2, xP 64 (.iinc 5 1) 3, xP 67 (.goto (-61)) 3, xP 70 (.iload 4) 2, xP 72 .ireturn 1]
/-- SofaStairModel.least -/
noncomputable def xc_259 : List (Nat × xa_I) := [xP 0 (.iload_n 1) 1, xQ 1 (.invokestatic 169) 3 202 1 1209, xP 4 (.ifCond .ne 5) 3, xP 7 (.iconst (-1)) 1, xP 8 .ireturn 1, xP 9 (.iload_n 2) 1, xP 10 .i2l 1, xP 11 (.lconst 0) 1, xQ 12 (.ldc2_w 293) 3 2 0 1338, xQ 15 (.invokestatic 108) 3 201 3 1145, xP 18 (.ifCond .ne 6) 3, xP 21 (.bipush (-2)) 2, xP 23 .ireturn 1, xP 24 (.aload_n 0) 1, xQ 25 (.getfield 46) 3 9 15 1023, xP 28 (.iload_n 1) 1, xP 29 .iaload 1, xP 30 (.ifCond .ge 6) 3, xP 33 (.bipush (-3)) 2, xP 35 .ireturn 1, xP 36 (.aload_n 0) 1, xP 37 (.iload_n 1) 1, xP 38 (.bipush 15) 2, xP 40 (.bipush 15) 2, xQ 42 (.invokevirtual 304) 3 257 4 1363, xP 45 (.ifCond .ne 6) 3, xP 48 (.bipush (-6)) 2, xP 50 .ireturn 1, xP 51 (.iconst 0) 1, xP 52 (.istore_n 3) 1, xP 53 (.iload_n 3) 1, xP 54 (.bipush 72) 2, xP 56 (.if_icmp .gt 90) 3, xP 59 (.iconst 0) 1, xP 60 (.istore 4) 2, xP 62 (.iload 4) 2, xP 64 (.sipush 256) 3, xP 67 (.if_icmp .ge 73) 3, xP 70 (.aload_n 0) 1, xP 71 (.iload_n 1) 1, xP 72 (.iload 4) 2, xP 74 (.bipush 16) 2, xP 76 .idiv 1, xP 77 (.iload 4) 2, xP 79 (.bipush 16) 2, xP 81 .irem 1, xQ 82 (.invokevirtual 307) 3 258 4 1367, xP 85 (.iload_n 3) 1, xP 86 (.if_icmp .ne 48) 3, xP 89 (.aload_n 0) 1, xP 90 (.iload_n 1) 1, xP 91 (.iload 4) 2, xP 93 (.bipush 16) 2, xP 95 .idiv 1, xP 96 (.iload 4) 2, xP 98 (.bipush 16) 2, xP 100 .irem 1, xQ 101 (.invokevirtual 304) 3 257 4 1363, xP 104 (.ifCond .eq 30) 3, xP 107 (.iload_n 2) 1, xP 108 (.ifCond .ne 7) 3, xP 111 (.iload_n 3) 1, xP 112 (.goto 21) 3, xP 115 (.iload_n 2) 1, xP 116 (.iconst 1) 1, xP 117 (.if_icmp .ne 11) 3, xP 120 (.iload 4) 2, xP 122 (.bipush 16) 2, xP 124 .idiv 1, xP 125 (.goto 8) 3, xP 128 (.iload 4) 2, xP 130 (.bipush 16) 2, xP 132 .irem 1, xP 133 .ireturn 1, xP 134 (.iinc 4 1) 3, xP 137 (.goto (-75)) 3, xP 140 (.iinc 3 1) 3, xP 143 (.goto (-90)) 3, xP 146 (.bipush (-6)) 2, xP 148 .ireturn 1]
/-- SofaStairModel.layBar -/
noncomputable def xc_260 : List (Nat × xa_I) := [xP 0 (.aload_n 0) 1, xQ 1 (.getfield 22) 3 9 7 1015, xP 4 (.iconst 4) 1, xP 5 (.iload_n 1) 1, xP 6 .iastore 1, xP 7 (.iconst 0) 1, xP 8 (.istore_n 3) 1, xP 9 (.iload_n 3) 1, xP 10 (.iload_n 1) 1, xP 11 (.if_icmp .ge 74) 3, xP 14 (.bipush 40) 2, xP 16 (.iload_n 3) 1, xP 17 .iadd 1, xP 18 (.istore 4) 2, xP 20 (.aload_n 0) 1, xQ 21 (.getfield 25) 3 9 8 1016, xP 24 (.iload 4) 2, xP 26 (.iload_n 2) 1, xP 27 (.ifCond .ne 7) 3, xP 30 (.iload_n 3) 1, xP 31 (.goto 4) 3, xP 34 (.iconst 0) 1, xP 35 .iastore 1, xP 36 (.aload_n 0) 1, xQ 37 (.getfield 28) 3 9 9 1017, xP 40 (.iload 4) 2, xP 42 (.iload_n 2) 1, xP 43 (.iconst 1) 1, xP 44 (.if_icmp .ne 7) 3, xP 47 (.iload_n 3) 1, xP 48 (.goto 4) 3, xP 51 (.iconst 0) 1, xP 52 .iastore 1, xP 53 (.aload_n 0) 1, xQ 54 (.getfield 31) 3 9 10 1018, xP 57 (.iload 4) 2, xP 59 (.iload_n 2) 1, xP 60 (.iconst 2) 1, xP 61 (.if_icmp .ne 7) 3, xP 64 (.iload_n 3) 1, xP 65 (.goto 4) 3, xP 68 (.iconst 0) 1, xP 69 .iastore 1, xP 70 (.aload_n 0) 1, xQ 71 (.getfield 34) 3 9 11 1019, xP 74 (.iload 4) 2, xP 76 (.bipush (-6)) 2, xP 78 .iastore 1, xP 79 (.iinc 3 1) 3, xP 82 (.goto (-73)) 3, xP 85 (.aload_n 0) 1, xQ 86 (.getfield 46) 3 9 15 1023, xP 89 (.iconst 4) 1, xP 90 (.aload_n 0) 1, xQ 91 (.getfield 46) 3 9 15 1023, xP 94 (.iconst 0) 1, xP 95 .iaload 1, xP 96 .iastore 1, xP 97 (.aload_n 0) 1, xQ 98 (.getfield 49) 3 9 16 1024, xP 101 (.iconst 4) 1, xP 102 (.iconst 0) 1, xP 103 .iastore 1, xP 104 (.aload_n 0) 1, xQ 105 (.getfield 52) 3 9 17 1025, xP 108 (.iconst 4) 1, xP 109 (.aload_n 0) 1, xQ 110 (.getfield 52) 3 9 17 1025, xP 113 (.iconst 0) 1, xP 114 .iaload 1, xP 115 .iastore 1, xP 116 .return_ 1]
/-- SofaStairModel.fitsBar -/
noncomputable def xc_261 : List (Nat × xa_I) := [xP 0 (.iconst 0) 1, xP 1 (.istore_n 3) 1, xP 2 (.iload_n 3) 1, xP 3 (.iconst 3) 1, xP 4 (.if_icmp .ge 60) 3, xP 7 (.aload_n 0) 1, xP 8 (.iload_n 1) 1, xP 9 (.iload_n 3) 1, xQ 10 (.invokevirtual 310) 3 260 3 1379, xP 13 (.aload_n 0) 1, xP 14 (.iconst 0) 1, xP 15 (.iload_n 2) 1, xQ 16 (.invokevirtual 203) 3 227 3 1239, xP 19 (.aload_n 0) 1, xP 20 (.iconst 4) 1, xP 21 (.iconst 0) 1, xP 22 (.aload_n 0) 1, xQ 23 (.getfield 46) 3 9 15 1023, xP 26 (.iconst 0) 1, xP 27 .iaload 1, xP 28 (.bipush 24) 2, xP 30 .idiv 1, xP 31 (.aload_n 0) 1, xQ 32 (.getfield 46) 3 9 15 1023, xP 35 (.iconst 0) 1, xP 36 .iaload 1, xP 37 (.iconst 4) 1, xP 38 .idiv 1, xP 39 (.bipush 6) 2, xP 41 .irem 1, xP 42 (.aload_n 0) 1, xQ 43 (.getfield 46) 3 9 15 1023, xP 46 (.iconst 0) 1, xP 47 .iaload 1, xP 48 (.iconst 4) 1, xP 49 .irem 1, xQ 50 (.invokevirtual 206) 3 231 6 1243, xP 53 (.ifCond .ge 5) 3, xP 56 (.iconst 1) 1, xP 57 .ireturn 1, xP 58 (.iinc 3 1) 3, xP 61 (.goto (-59)) 3, xP 64 (.iconst 0) 1, xP 65 .ireturn 1]
/-- SofaStairModel.bar -/
noncomputable def xc_262 : List (Nat × xa_I) := [xP 0 (.iload_n 1) 1, xQ 1 (.invokestatic 277) 3 248 1 1286, xP 4 (.ifCond .ne 6) 3, xP 7 (.bipush (-2)) 2, xP 9 .ireturn 1, xP 10 (.aload_n 0) 1, xQ 11 (.getfield 46) 3 9 15 1023, xP 14 (.iconst 0) 1, xP 15 .iaload 1, xP 16 (.ifCond .ge 6) 3, xP 19 (.bipush (-3)) 2, xP 21 .ireturn 1, xP 22 (.bipush 6) 2, xP 24 (.istore_n 2) 1, xP 25 (.iload_n 2) 1, xP 26 (.ifCond .le 30) 3, xP 29 (.aload_n 0) 1, xP 30 (.iload_n 2) 1, xP 31 (.iload_n 1) 1, xQ 32 (.invokevirtual 313) 3 261 3 1375, xP 35 (.ifCond .eq 15) 3, xP 38 (.aload_n 0) 1, xP 39 (.iconst 4) 1, xP 40 (.iconst 0) 1, xP 41 (.iload_n 1) 1, xQ 42 (.invokevirtual 304) 3 257 4 1363, xP 45 (.ifCond .eq 5) 3, xP 48 (.iload_n 2) 1, xP 49 .ireturn 1, xP 50 (.iinc 2 (-1)) 3, xP 53 (.goto (-28)) 3, xP 56 (.bipush (-6)) 2, xP 58 .ireturn 1]
/-- SofaStairModel.goesAmong -/
noncomputable def xc_263 : List (Nat × xa_I) := [xP 0 (.aload_n 0) 1, xP 1 (.iconst 0) 1, xP 2 (.iconst 0) 1, xQ 3 (.invokevirtual 203) 3 227 3 1239, xP 6 (.iconst 0) 1, xP 7 (.istore_n 3) 1, xP 8 (.iload_n 3) 1, xP 9 (.iconst 4) 1, xP 10 (.if_icmp .ge 115) 3, xP 13 (.iload_n 3) 1, xP 14 (.iload_n 1) 1, xP 15 (.if_icmp .eq 104) 3, xP 18 (.iload_n 2) 1, xP 19 (.iload_n 3) 1, xP 20 .ishr 1, xP 21 (.iconst 1) 1, xP 22 .iand 1, xP 23 (.iconst 1) 1, xP 24 (.if_icmp .ne 95) 3, xP 27 (.aload_n 0) 1, xP 28 (.iload_n 3) 1, xP 29 (.aload_n 0) 1, xQ 30 (.getfield 49) 3 9 16 1024, xP 33 (.iload_n 3) 1, xP 34 .iaload 1, xQ 35 (.invokevirtual 175) 3 224 3 1217, xP 38 (.iconst 0) 1, xP 39 (.istore 4) 2, xP 41 (.iload 4) 2, xP 43 (.aload_n 0) 1, xQ 44 (.getfield 22) 3 9 7 1015, xP 47 (.iload_n 3) 1, xP 48 .iaload 1, xP 49 (.if_icmp .ge 70) 3, xP 52 (.aload_n 0) 1, xQ 53 (.getfield 67) 3 9 25 1033, xP 56 (.aload_n 0) 1, xQ 57 (.getfield 46) 3 9 15 1023, xP 60 (.iload_n 3) 1, xP 61 .iaload 1, xP 62 (.bipush 24) 2, xP 64 .idiv 1, xP 65 (.aload_n 0) 1, xQ 66 (.getfield 58) 3 9 20 1028, xP 69 (.iload 4) 2, xP 71 .iaload 1, xP 72 .iadd 1, xP 73 (.aload_n 0) 1, xQ 74 (.getfield 46) 3 9 15 1023, xP 77 (.iload_n 3) 1, xP 78 .iaload 1, xP 79 (.iconst 4) 1, xP 80 .idiv 1, xP 81 (.bipush 6) 2, xP 83 .irem 1, xP 84 (.aload_n 0) 1, xQ 85 (.getfield 61) 3 9 21 1029, xP 88 (.iload 4) 2, xP 90 .iaload 1, xP 91 .iadd 1, xP 92 (.aload_n 0) 1, xQ 93 (.getfield 46) 3 9 15 1023, xP 96 (.iload_n 3) 1, xP 97 .iaload 1, xP 98 (.iconst 4) 1, xP 99 .irem 1, xP 100 (.aload_n 0) 1, xQ 101 (.getfield 64) 3 9 22 1030, xP 104 (.iload 4) 2, xP 106 .iaload 1, xP 107 .iadd 1, xQ 108 (.invokestatic 124) 3 208 3 1162, xP 111 (.iconst 1) 1, xP 112 .bastore 1, xP 113 (.iinc 4 1) 3, xP 116 (.goto (-75)) 3, xP 119 (.iinc 3 1) 3, xP 122 (.goto (-114)) 3, xP 125 (.aload_n 0) 1, xP 126 (.iconst 0) 1, xQ 127 (.putfield 238) 3 9 37 1045, xP 130 (.aload_n 0) 1, xP 131 (.iload_n 1) 1, xP 132 (.aload_n 0) 1, xQ 133 (.getfield 52) 3 9 17 1025, xP 136 (.iload_n 1) 1, xP 137 .iaload 1, xQ 138 (.invokevirtual 280) 3 244 3 1290, xP 141 (.aload_n 0) 1, xQ 142 (.getfield 74) 3 9 33 1041, xP 145 (.aload_n 0) 1, xP 146 (.iload_n 1) 1, xQ 147 (.invokevirtual 266) 3 245 2 1315, xP 150 .laload 1, xQ 151 (.ldc2_w 253) 3 1000000000000000 0 1302, xP 154 .lcmp 1, xP 155 (.ifCond .ge 7) 3, xP 158 (.iconst 1) 1, xP 159 (.goto 4) 3, xP 162 (.iconst 0) 1, xP 163 .ireturn 1]
/-- SofaStairModel.findOrder -/
noncomputable def xc_264 : List (Nat × xa_I) := [xP 0 (.iload_n 1) 1, xP 1 (.istore_n 2) 1, xP 2 (.iconst 0) 1, xP 3 (.istore_n 3) 1, xP 4 (.iconst 1) 1, xP 5 (.istore 4) 2, xP 7 (.iload_n 2) 1, xP 8 (.ifCond .eq 77) 3, xP 11 (.iload 4) 2, xP 13 (.ifCond .eq 72) 3, xP 16 (.iconst 0) 1, xP 17 (.istore 4) 2, xP 19 (.iconst 0) 1, xP 20 (.istore 5) 2, xP 22 (.iload 5) 2, xP 24 (.iconst 4) 1, xP 25 (.if_icmp .ge 57) 3, xP 28 (.iload 4) 2, xP 30 (.ifCond .ne 52) 3, xP 33 (.iload_n 2) 1, xP 34 (.iload 5) 2, xP 36 .ishr 1, xP 37 (.iconst 1) 1, xP 38 .iand 1, xP 39 (.iconst 1) 1, xP 40 (.if_icmp .ne 36) 3, xP 43 (.aload_n 0) 1, xP 44 (.iload 5) 2, xP 46 (.iload_n 2) 1, xQ 47 (.invokevirtual 316) 3 263 3 1391, xP 50 (.ifCond .eq 26) 3, xP 53 (.aload_n 0) 1, xQ 54 (.getfield 84) 3 9 38 1046, xP 57 (.iload_n 3) 1, xP 58 (.iload 5) 2, xP 60 .iastore 1, xP 61 (.iinc 3 1) 3, xP 64 (.iload_n 2) 1, xP 65 (.iconst 1) 1, xP 66 (.iload 5) 2, xP 68 .ishl 1, xP 69 (.iconst (-1)) 1, xP 70 .ixor 1, xP 71 .iand 1, xP 72 (.istore_n 2) 1, xP 73 (.iconst 1) 1, xP 74 (.istore 4) 2, xP 76 (.iinc 5 1) 3, xP 79 (.goto (-57)) 3, xP 82 (.goto (-75)) 3, xP 85 (.iload_n 2) 1, xP 86 (.ifCond .ne 7) 3, xP 89 (.iload_n 3) 1, xP 90 (.goto 5) 3, xP 93 (.bipush (-6)) 2, xP 95 .ireturn 1]
/-- SofaStairModel.order -/
noncomputable def xc_265 : List (Nat × xa_I) := [xP 0 (.iload_n 1) 1, xP 1 .i2l 1, xP 2 (.lconst 1) 1, xQ 3 (.ldc2_w 275) 3 15 0 1289, xQ 6 (.invokestatic 108) 3 201 3 1145, xP 9 (.ifCond .ne 6) 3, xP 12 (.bipush (-2)) 2, xP 14 .ireturn 1, xP 15 (.iconst 0) 1, xP 16 (.istore_n 3) 1, xP 17 (.iload_n 3) 1, xP 18 (.iconst 4) 1, xP 19 (.if_icmp .ge 30) 3, xP 22 (.iload_n 1) 1, xP 23 (.iload_n 3) 1, xP 24 .ishr 1, xP 25 (.iconst 1) 1, xP 26 .iand 1, xP 27 (.iconst 1) 1, xP 28 (.if_icmp .ne 15) 3, xP 31 (.aload_n 0) 1, xQ 32 (.getfield 46) 3 9 15 1023, xP 35 (.iload_n 3) 1, xP 36 .iaload 1, xP 37 (.ifCond .ge 6) 3, xP 40 (.bipush (-3)) 2, xP 42 .ireturn 1, xP 43 (.iinc 3 1) 3, xP 46 (.goto (-29)) 3, xP 49 (.aload_n 0) 1, xP 50 (.iload_n 1) 1, xQ 51 (.invokevirtual 319) 3 264 2 1387, xP 54 (.istore_n 3) 1, xP 55 (.iload_n 2) 1, xP 56 .i2l 1, xP 57 (.lconst 0) 1, xP 58 (.iload_n 3) 1, xP 59 (.iconst 1) 1, xP 60 .isub 1, xP 61 .i2l 1, xQ 62 (.invokestatic 108) 3 201 3 1145, xP 65 (.ifCond .eq 12) 3, xP 68 (.aload_n 0) 1, xQ 69 (.getfield 84) 3 9 38 1046, xP 72 (.iload_n 2) 1, xP 73 .iaload 1, xP 74 (.goto 5) 3, xP 77 (.bipush (-6)) 2, xP 79 .ireturn 1]
/-- SofaStairModel.came -/
noncomputable def xc_266 : List (Nat × xa_I) := [xP 0 (.iload_n 1) 1, xQ 1 (.invokestatic 169) 3 202 1 1209, xP 4 (.ifCond .ne 5) 3, xP 7 (.iconst (-1)) 1, xP 8 .ireturn 1, xP 9 (.iload_n 2) 1, xP 10 .i2l 1, xP 11 (.lconst 0) 1, xP 12 (.lconst 1) 1, xQ 13 (.invokestatic 108) 3 201 3 1145, xP 16 (.ifCond .ne 6) 3, xP 19 (.bipush (-2)) 2, xP 21 .ireturn 1, xP 22 (.aload_n 0) 1, xQ 23 (.getfield 46) 3 9 15 1023, xP 26 (.iload_n 1) 1, xP 27 .iaload 1, xP 28 (.ifCond .ge 6) 3, xP 31 (.bipush (-3)) 2, xP 33 .ireturn 1, xP 34 (.iconst 0) 1, xP 35 (.istore_n 3) 1, xP 36 (.bipush 15) 2, xP 38 (.istore 4) 2, xP 40 (.iconst 0) 1, xP 41 (.istore 5) 2, xP 43 (.iload 5) 2, xP 45 (.bipush 16) 2, xP 47 (.if_icmp .ge 30) 3, xP 50 (.aload_n 0) 1, xP 51 (.iload_n 1) 1, xP 52 (.iconst 0) 1, xP 53 (.iload 5) 2, xQ 55 (.invokevirtual 304) 3 257 4 1363, xP 58 (.ifCond .eq 13) 3, xP 61 (.iinc 3 1) 3, xP 64 (.iload 4) 2, xP 66 (.iload 5) 2, xP 68 .iand 1, xP 69 (.istore 4) 2, xP 71 (.iinc 5 1) 3, xP 74 (.goto (-31)) 3, xP 77 (.iload_n 2) 1, xP 78 (.ifCond .ne 7) 3, xP 81 (.iload_n 3) 1, xP 82 (.goto 14) 3, xP 85 (.iload_n 3) 1, xP 86 (.ifCond .ne 8) 3, xP 89 (.bipush (-6)) 2, xP 91 (.goto 5) 3, xP 94 (.iload 4) 2, xP 96 .ireturn 1]
/-- SofaStairModel.pass -/
noncomputable def xc_267 : List (Nat × xa_I) := [xP 0 (.aload_n 0) 1, xQ 1 (.getfield 322) 3 9 42 1050, xP 4 (.ifCond .eq 7) 3, xP 7 (.iload_n 1) 1, xP 8 (.goto 12) 3, xP 11 (.aload_n 0) 1, xQ 12 (.getfield 87) 3 9 39 1047, xP 15 (.aload_n 0) 1, xQ 16 (.getfield 325) 3 9 41 1049, xP 19 .iaload 1, xP 20 (.istore_n 2) 1, xP 21 (.aload_n 0) 1, xQ 22 (.getfield 87) 3 9 39 1047, xP 25 (.aload_n 0) 1, xQ 26 (.getfield 325) 3 9 41 1049, xP 29 (.iload_n 2) 1, xP 30 .iastore 1, xP 31 (.aload_n 0) 1, xP 32 .dup 1, xQ 33 (.getfield 325) 3 9 41 1049, xP 36 (.iconst 1) 1, xP 37 .iadd 1, xQ 38 (.putfield 325) 3 9 41 1049, xP 41 (.iload_n 2) 1, xP 42 .ireturn 1]
/-- SofaStairModel.passAll -/
noncomputable def xc_268 : List (Nat × xa_I) := [xP 0 (.aload_n 0) 1, xP 1 (.aload_n 0) 1, xP 2 (.aload_n 0) 1, xQ 3 (.getfield 93) 3 9 3 1011, xQ 6 (.invokevirtual 328) 3 267 2 1407, xQ 9 (.putfield 93) 3 9 3 1011, xP 12 (.aload_n 0) 1, xP 13 (.aload_n 0) 1, xP 14 (.aload_n 0) 1, xQ 15 (.getfield 97) 3 9 4 1012, xQ 18 (.invokevirtual 328) 3 267 2 1407, xQ 21 (.putfield 97) 3 9 4 1012, xP 24 (.aload_n 0) 1, xP 25 (.aload_n 0) 1, xP 26 (.aload_n 0) 1, xQ 27 (.getfield 100) 3 9 5 1013, xQ 30 (.invokevirtual 328) 3 267 2 1407, xQ 33 (.putfield 100) 3 9 5 1013, xP 36 (.iconst 0) 1, xP 37 (.istore_n 1) 1, xP 38 (.iload_n 1) 1, xP 39 (.sipush 144) 3, xP 42 (.if_icmp .ge 25) 3, xP 45 (.aload_n 0) 1, xQ 46 (.getfield 19) 3 9 6 1014, xP 49 (.iload_n 1) 1, xP 50 (.aload_n 0) 1, xP 51 (.aload_n 0) 1, xQ 52 (.getfield 19) 3 9 6 1014, xP 55 (.iload_n 1) 1, xP 56 .iaload 1, xQ 57 (.invokevirtual 328) 3 267 2 1407, xP 60 .iastore 1, xP 61 (.iinc 1 1) 3, xP 64 (.goto (-26)) 3, xP 67 (.iconst 0) 1, xP 68 (.istore_n 1) 1, xP 69 (.iload_n 1) 1, xP 70 (.iconst 4) 1, xP 71 (.if_icmp .ge 105) 3, xP 74 (.aload_n 0) 1, xQ 75 (.getfield 22) 3 9 7 1015, xP 78 (.iload_n 1) 1, xP 79 (.aload_n 0) 1, xP 80 (.aload_n 0) 1, xQ 81 (.getfield 22) 3 9 7 1015, xP 84 (.iload_n 1) 1, xP 85 .iaload 1, xQ 86 (.invokevirtual 328) 3 267 2 1407, xP 89 .iastore 1, xP 90 (.aload_n 0) 1, xQ 91 (.getfield 46) 3 9 15 1023, xP 94 (.iload_n 1) 1, xP 95 (.aload_n 0) 1, xP 96 (.aload_n 0) 1, xQ 97 (.getfield 46) 3 9 15 1023, xP 100 (.iload_n 1) 1, xP 101 .iaload 1, xQ 102 (.invokevirtual 328) 3 267 2 1407, xP 105 .iastore 1, xP 106 (.aload_n 0) 1, xQ 107 (.getfield 49) 3 9 16 1024, xP 110 (.iload_n 1) 1, xP 111 (.aload_n 0) 1, xP 112 (.aload_n 0) 1, xQ 113 (.getfield 49) 3 9 16 1024, xP 116 (.iload_n 1) 1, xP 117 .iaload 1, xQ 118 (.invokevirtual 328) 3 267 2 1407, xP 121 .iastore 1, xP 122 (.aload_n 0) 1, xQ 123 (.getfield 52) 3 9 17 1025, xP 126 (.iload_n 1) 1, xP 127 (.aload_n 0) 1, xP 128 (.aload_n 0) 1, xQ 129 (.getfield 52) 3 9 17 1025, xP 132 (.iload_n 1) 1, xP 133 .iaload 1, xQ 134 (.invokevirtual 328) 3 267 2 1407, xP 137 .iastore 1, xP 138 (.aload_n 0) 1, xQ 139 (.getfield 40) 3 9 13 1021, xP 142 (.iload_n 1) 1, xP 143 (.aload_n 0) 1, xP 144 (.aload_n 0) 1, xQ 145 (.getfield 40) 3 9 13 1021, xP 148 (.iload_n 1) 1, xP 149 .iaload 1, xQ 150 (.invokevirtual 328) 3 267 2 1407, xP 153 .iastore 1, xP 154 (.aload_n 0) 1, xQ 155 (.getfield 43) 3 9 14 1022, xP 158 (.iload_n 1) 1, xP 159 (.aload_n 0) 1, xP 160 (.aload_n 0) 1, xQ 161 (.getfield 43) 3 9 14 1022, xP 164 (.iload_n 1) 1, xP 165 .iaload 1, xQ 166 (.invokevirtual 328) 3 267 2 1407, xP 169 .iastore 1, xP 170 (.iinc 1 1) 3, xP 173 (.goto (-104)) 3, xP 176 (.iconst 0) 1, xP 177 (.istore_n 1) 1, xP 178 (.iload_n 1) 1, xP 179 (.bipush 40) 2, xP 181 (.if_icmp .ge 73) 3, xP 184 (.aload_n 0) 1, xQ 185 (.getfield 25) 3 9 8 1016, xP 188 (.iload_n 1) 1, xP 189 (.aload_n 0) 1, xP 190 (.aload_n 0) 1, xQ 191 (.getfield 25) 3 9 8 1016, xP 194 (.iload_n 1) 1, xP 195 .iaload 1, xQ 196 (.invokevirtual 328) 3 267 2 1407, xP 199 .iastore 1, xP 200 (.aload_n 0) 1, xQ 201 (.getfield 28) 3 9 9 1017, xP 204 (.iload_n 1) 1, xP 205 (.aload_n 0) 1, xP 206 (.aload_n 0) 1, xQ 207 (.getfield 28) 3 9 9 1017, xP 210 (.iload_n 1) 1, xP 211 .iaload 1, xQ 212 (.invokevirtual 328) 3 267 2 1407, xP 215 .iastore 1, xP 216 (.aload_n 0) 1, xQ 217 (.getfield 31) 3 9 10 1018, xP 220 (.iload_n 1) 1, xP 221 (.aload_n 0) 1, xP 222 (.aload_n 0) 1, xQ 223 (.getfield 31) 3 9 10 1018, xP 226 (.iload_n 1) 1, xP 227 .iaload 1, xQ 228 (.invokevirtual 328) 3 267 2 1407, xP 231 .iastore 1, xP 232 (.aload_n 0) 1, xQ 233 (.getfield 34) 3 9 11 1019, xP 236 (.iload_n 1) 1, xP 237 (.aload_n 0) 1, xP 238 (.aload_n 0) 1, xQ 239 (.getfield 34) 3 9 11 1019, xP 242 (.iload_n 1) 1, xP 243 .iaload 1, xQ 244 (.invokevirtual 328) 3 267 2 1407, xP 247 .iastore 1, xP 248 (.iinc 1 1) 3, xP 251 (.goto (-73)) 3, xP 254 (.iconst 0) 1, xP 255 (.istore_n 1) 1, xP 256 (.iload_n 1) 1, xP 257 (.bipush 16) 2, xP 259 (.if_icmp .ge 25) 3, xP 262 (.aload_n 0) 1, xQ 263 (.getfield 37) 3 9 12 1020, xP 266 (.iload_n 1) 1, xP 267 (.aload_n 0) 1, xP 268 (.aload_n 0) 1, xQ 269 (.getfield 37) 3 9 12 1020, xP 272 (.iload_n 1) 1, xP 273 .iaload 1, xQ 274 (.invokevirtual 328) 3 267 2 1407, xP 277 .iastore 1, xP 278 (.iinc 1 1) 3, xP 281 (.goto (-25)) 3, xP 284 .return_ 1]
/-- SofaStairModel.image -/
noncomputable def xc_269 : List (Nat × xa_I) := [xP 0 (.iload_n 1) 1, xP 1 .i2l 1, xP 2 (.lconst 0) 1, xP 3 (.lconst 1) 1, xQ 4 (.invokestatic 108) 3 201 3 1145, xP 7 (.ifCond .ne 6) 3, xP 10 (.bipush (-2)) 2, xP 12 .ireturn 1, xP 13 (.aload_n 0) 1, xP 14 (.sipush 420) 3, xP 17 (.iload_n 1) 1, xP 18 .imul 1, xQ 19 (.putfield 325) 3 9 41 1049, xP 22 (.aload_n 0) 1, xP 23 (.iconst 1) 1, xQ 24 (.putfield 322) 3 9 42 1050, xP 27 (.aload_n 0) 1, xQ 28 (.invokevirtual 331) 3 268 1 1403, xP 31 (.aload_n 0) 1, xQ 32 (.getfield 90) 3 9 40 1048, xP 35 (.iload_n 1) 1, xP 36 (.iconst 1) 1, xP 37 .bastore 1, xP 38 (.iconst 1) 1, xP 39 .ireturn 1]
/-- SofaStairModel.restore -/
noncomputable def xc_270 : List (Nat × xa_I) := [xP 0 (.iload_n 1) 1, xP 1 .i2l 1, xP 2 (.lconst 0) 1, xP 3 (.lconst 1) 1, xQ 4 (.invokestatic 108) 3 201 3 1145, xP 7 (.ifCond .ne 6) 3, xP 10 (.bipush (-2)) 2, xP 12 .ireturn 1, xP 13 (.aload_n 0) 1, xQ 14 (.getfield 90) 3 9 40 1048, xP 17 (.iload_n 1) 1, xP 18 .baload 1, xP 19 (.ifCond .ne 6) 3, xP 22 (.bipush (-3)) 2, xP 24 .ireturn 1, xP 25 (.aload_n 0) 1, xP 26 (.sipush 420) 3, xP 29 (.iload_n 1) 1, xP 30 .imul 1, xQ 31 (.putfield 325) 3 9 41 1049, xP 34 (.aload_n 0) 1, xP 35 (.iconst 0) 1, xQ 36 (.putfield 322) 3 9 42 1050, xP 39 (.aload_n 0) 1, xQ 40 (.invokevirtual 331) 3 268 1 1403, xP 43 (.iconst 1) 1, xP 44 .ireturn 1]
/-- SofaStairModel.told -/
noncomputable def xc_271 : List (Nat × xa_I) := [xP 0 (.iload_n 1) 1, xP 1 .i2l 1, xQ 2 (.ldc2_w 334) 3 10 0 1419, xQ 5 (.ldc2_w 336) 3 13 0 1420, xQ 8 (.invokestatic 108) 3 201 3 1145, xP 11 (.ifCond .eq 13) 3, xP 14 (.aload_n 0) 1, xQ 15 (.getfield 22) 3 9 7 1015, xP 18 (.iload_n 1) 1, xP 19 (.bipush 10) 2, xP 21 .isub 1, xP 22 .iaload 1, xP 23 .ireturn 1, xP 24 (.iload_n 1) 1, xP 25 .i2l 1, xQ 26 (.ldc2_w 338) 3 20 0 1421, xQ 29 (.ldc2_w 340) 3 23 0 1422, xQ 32 (.invokestatic 108) 3 201 3 1145, xP 35 (.ifCond .eq 33) 3, xP 38 (.aload_n 0) 1, xQ 39 (.getfield 46) 3 9 15 1023, xP 42 (.iload_n 1) 1, xP 43 (.bipush 20) 2, xP 45 .isub 1, xP 46 .iaload 1, xP 47 (.ifCond .ge 8) 3, xP 50 (.bipush (-6)) 2, xP 52 (.goto 15) 3, xP 55 (.aload_n 0) 1, xQ 56 (.getfield 46) 3 9 15 1023, xP 59 (.iload_n 1) 1, xP 60 (.bipush 20) 2, xP 62 .isub 1, xP 63 .iaload 1, xQ 64 (.invokestatic 210) 3 210 1 1263, xP 67 .ireturn 1, xP 68 (.iload_n 1) 1, xP 69 .i2l 1, xQ 70 (.ldc2_w 342) 3 30 0 1423, xQ 73 (.ldc2_w 141) 3 33 0 1176, xQ 76 (.invokestatic 108) 3 201 3 1145, xP 79 (.ifCond .eq 16) 3, xP 82 (.aload_n 0) 1, xQ 83 (.getfield 52) 3 9 17 1025, xP 86 (.iload_n 1) 1, xP 87 (.bipush 30) 2, xP 89 .isub 1, xP 90 .iaload 1, xQ 91 (.invokestatic 210) 3 210 1 1263, xP 94 .ireturn 1, xP 95 (.iload_n 1) 1, xP 96 (.ifCond .ne 10) 3, xP 99 (.aload_n 0) 1, xQ 100 (.getfield 145) 3 9 19 1027, xP 103 (.goto 41) 3, xP 106 (.iload_n 1) 1, xP 107 (.iconst 1) 1, xP 108 (.if_icmp .ne 10) 3, xP 111 (.aload_n 0) 1, xQ 112 (.getfield 93) 3 9 3 1011, xP 115 (.goto 29) 3, xP 118 (.iload_n 1) 1, xP 119 (.iconst 2) 1, xP 120 (.if_icmp .ne 10) 3, xP 123 (.aload_n 0) 1, xQ 124 (.getfield 97) 3 9 4 1012, xP 127 (.goto 17) 3, xP 130 (.iload_n 1) 1, xP 131 (.iconst 3) 1, xP 132 (.if_icmp .ne 10) 3, xP 135 (.aload_n 0) 1, xQ 136 (.getfield 100) 3 9 5 1013, xP 139 (.goto 5) 3, xP 142 (.bipush (-2)) 2, xP 144 .ireturn 1]
noncomputable def xcl0 : List (List (Nat × xa_I)) := [xc_0, xc_1, xc_2, xc_3, xc_4, xc_5, xc_6, xc_7, xc_8, xc_9, xc_10, xc_11, xc_12, xc_13, xc_14, xc_15, xc_16, xc_17, xc_18, xc_19, xc_20, xc_21, xc_22, xc_23, xc_24, xc_25, xc_26, xc_27, xc_28, xc_29, xc_30, xc_31, xc_32, xc_33, xc_34, xc_35, xc_36, xc_37, xc_38, xc_39, xc_40, xc_41, xc_42, xc_43, xc_44, xc_45, xc_46, xc_47, xc_48, xc_49, xc_50, xc_51, xc_52, xc_53, xc_54, xc_55, xc_56, xc_57, xc_58, xc_59, xc_60, xc_61, xc_62, xc_63, xc_64, xc_65, xc_66, xc_67, xc_68, xc_69, xc_70, xc_71, xc_72, xc_73, xc_74, xc_75, xc_76, xc_77, xc_78, xc_79, xc_80, xc_81, xc_82, xc_83, xc_84, xc_85, xc_86, xc_87, xc_88, xc_89, xc_90, xc_91, xc_92, xc_93, xc_94, xc_95, xc_96, xc_97, xc_98, xc_99, xc_100, xc_101, xc_102, xc_103, xc_104, xc_105, xc_106, xc_107, xc_108, xc_109, xc_110, xc_111, xc_112, xc_113, xc_114, xc_115, xc_116, xc_117, xc_118, xc_119, xc_120, xc_121, xc_122, xc_123, xc_124, xc_125, xc_126, xc_127, xc_128, xc_129, xc_130, xc_131, xc_132, xc_133, xc_134, xc_135, xc_136]
noncomputable def xcl1 : List (List (Nat × xa_I)) := [xc_200, xc_201, xc_202, xc_203, xc_204, xc_205, xc_206, xc_207, xc_208, xc_209, xc_210, xc_211, xc_212, xc_213, xc_214, xc_215, xc_216, xc_217, xc_218, xc_219, xc_220, xc_221, xc_222, xc_223, xc_224, xc_225, xc_226, xc_227, xc_228, xc_229, xc_230, xc_231, xc_232, xc_233, xc_234, xc_235, xc_236, xc_237, xc_238, xc_239, xc_240, xc_241, xc_242, xc_243, xc_244, xc_245, xc_246, xc_247, xc_248, xc_249, xc_250, xc_251, xc_252, xc_253, xc_254, xc_255, xc_256, xc_257, xc_258, xc_259, xc_260, xc_261, xc_262, xc_263, xc_264, xc_265, xc_266, xc_267, xc_268, xc_269, xc_270, xc_271]
noncomputable def xcode (k : Nat) : List (Nat × xa_I) := cond (Nat.ble 200 k) (xcl1.getD (k - 200) []) (xcl0.getD k [])
noncomputable def xlk : Nat → List (Nat × xa_I) → Option xa_I
  | _, [] => none
  | pc, q :: r => cond (Nat.beq q.1 pc) (some q.2) (xlk pc r)
noncomputable def xcd (k pc : Nat) : Option xa_I := xlk pc (xcode k)
end
section
/-! the tables against the code and the words, by counting -/
noncomputable def xcl (K : Nat) : vw_C := vwCl.getD K ("", TX0, 0)
noncomputable def xck_f (k ix x y z : Nat) : Bool := (decide (lw_tbl[z]? = some (Cond.fieldLink (xmO k) ix (xcl x).1 ((xcl x).2.1 y).2.1 ((xcl x).2.1 y).2.2.1)) || decide (lw_tbl[z]? = some (Cond.fieldLinkNest (xmO k) ix (xcl x).1 ((xcl x).2.1 y).2.1 ((xcl x).2.1 y).2.2.1 "SofaStair"))) && Nat.blt x 10 && Nat.blt y (xcl x).2.2
noncomputable def xck_m (k ix x z : Nat) : Bool := decide (lw_tbl[z]? = some (Cond.methodLink (xmO k) ix (xmY x))) || decide (lw_tbl[z]? = some (Cond.methodLinkNest (xmO k) ix (xmY x) "SofaStair"))
def xck_p (x : Nat) : MethodName := cond (Nat.ble 5003 x) (cond (Nat.beq x 5003) Lib.Math.abs.name (cond (Nat.beq x 5004) Lib.Math.max.name Lib.Math.min.name)) <| cond (Nat.beq x 5000) ⟨"java/lang/String", "indexOf", "(I)I"⟩ (cond (Nat.beq x 5001) ⟨"java/lang/String", "charAt", "(I)C"⟩ ⟨"java/lang/String", "length", "()I"⟩)
noncomputable def xck_r (k x : Nat) : Bool := Nat.ble (xmF x + 1) (xmF k) && Nat.ble (8 + (xmL x + 11) + xmW x) (xmW k)
def xck_n (y : MethodName) (n : Nat) : Bool := decide ((parseMethodDescriptor y.desc).map (fun d => d.parameters.length) = some n)
def xck_t (pc : Nat) (off : Int) : Bool := decide (0 ≤ (pc : Int) + off)
noncomputable def xck_i (k pc : Nat) (e : xa_I) : Bool := match e.1 with
  | .getfield ix => xck_f k ix e.2.2.1 e.2.2.2.1 e.2.2.2.2
  | .putfield ix => Nat.beq (xfty e.2.2.1 e.2.2.2.1) 3 || (xck_f k ix e.2.2.1 e.2.2.2.1 e.2.2.2.2 && !((xcl e.2.2.1).2.1 e.2.2.2.1).2.2.2)
  | .invokevirtual ix => cond (Nat.ble 5000 e.2.2.1)
      (decide (lw_tbl[e.2.2.2.2]? = some (Cond.methodLink (xmO k) ix (xck_p e.2.2.1))) && Nat.ble 5 (xmF k) && Nat.ble 141 (xmW k) && Nat.blt e.2.2.1 5003)
      (xck_m k ix e.2.2.1 e.2.2.2.2 && xck_r k e.2.2.1 && Nat.blt 0 e.2.2.2.1 && xck_n (xmY e.2.2.1) (e.2.2.2.1 - 1) && Nat.beq (xkg (xcl 0).2.2) 0)
  | .invokestatic ix => cond (Nat.ble 5000 e.2.2.1)
      (decide (lw_tbl[e.2.2.2.2]? = some (Cond.methodLink (xmO k) ix (xck_p e.2.2.1))) && Nat.ble 2 (xmF k) && Nat.ble 34 (xmW k) && Nat.ble 5003 e.2.2.1 && Nat.blt e.2.2.1 5006)
      (xck_m k ix e.2.2.1 e.2.2.2.2 && xck_r k e.2.2.1 && xck_n (xmY e.2.2.1) e.2.2.2.1)
  | .iconst v => decide (-32768 ≤ v ∧ v < 32768)
  | .bipush v => decide (-32768 ≤ v ∧ v < 32768) && decide ((Int8.ofInt v).toInt32 = Int32.ofInt v)
  | .sipush v => decide (-32768 ≤ v ∧ v < 32768) && decide ((Int16.ofInt v).toInt32 = Int32.ofInt v)
  | .iinc _ v => decide (-32768 ≤ v ∧ v < 32768)
  | .ldc ix => cond (Nat.beq e.2.2.2.1 0) (decide (lw_tbl[e.2.2.2.2]? = some (Cond.constant (xmO k) ix (Int32.ofInt (e.2.2.1 : Int)))) && Nat.blt e.2.2.1 2147483648)
      (decide (xmO k = cond (Nat.beq e.2.2.1 0) "SofaStair$Pad" "SofaStair$Search") && decide (ix = cond (Nat.beq e.2.2.1 0) 27 142) && Nat.blt e.2.2.1 2)
  | .ldc2_w ix => decide (lw_tbl[e.2.2.2.2]? = some (Cond.constantLong (xmO k) ix (Int64.ofInt (cond (Nat.beq e.2.2.2.1 0) (e.2.2.1 : Int) (-(e.2.2.1 : Int)))))) && Nat.blt e.2.2.1 1000000000000000000
  | .goto off => xck_t pc off
  | .if_icmp _ off => xck_t pc off
  | .ifCond _ off => xck_t pc off
  | .ifnull off => xck_t pc off
  | .ifnonnull off => xck_t pc off
  | .if_acmp _ off => xck_t pc off
  | .tableswitch d _ _ offs => xck_t pc d && offs.toList.all (xck_t pc)
  | _ => true
noncomputable def xck (k : Nat) (q : Nat × xa_I) : Bool := decide (decode (xmB k) q.1 = .ok (q.2.1, q.2.2.1)) && xck_i k q.1 q.2
set_option maxRecDepth 100000 in
theorem xck_0 : ∀ j, j < 30 → (xcode (0 + j)).all (xck (0 + j)) = true := by decide +kernel
set_option maxRecDepth 100000 in
theorem xck_30 : ∀ j, j < 30 → (xcode (30 + j)).all (xck (30 + j)) = true := by decide +kernel
set_option maxRecDepth 100000 in
theorem xck_60 : ∀ j, j < 30 → (xcode (60 + j)).all (xck (60 + j)) = true := by decide +kernel
set_option maxRecDepth 100000 in
theorem xck_90 : ∀ j, j < 25 → (xcode (90 + j)).all (xck (90 + j)) = true := by decide +kernel
set_option maxRecDepth 100000 in
theorem xck_115 : ∀ j, j < 22 → (xcode (115 + j)).all (xck (115 + j)) = true := by decide +kernel
set_option maxRecDepth 100000 in
theorem xck_200 : ∀ j, j < 15 → (xcode (200 + j)).all (xck (200 + j)) = true := by decide +kernel
set_option maxRecDepth 100000 in
theorem xck_215 : ∀ j, j < 15 → (xcode (215 + j)).all (xck (215 + j)) = true := by decide +kernel
set_option maxRecDepth 100000 in
theorem xck_230 : ∀ j, j < 15 → (xcode (230 + j)).all (xck (230 + j)) = true := by decide +kernel
set_option maxRecDepth 100000 in
theorem xck_245 : ∀ j, j < 15 → (xcode (245 + j)).all (xck (245 + j)) = true := by decide +kernel
set_option maxRecDepth 100000 in
theorem xck_260 : ∀ j, j < 12 → (xcode (260 + j)).all (xck (260 + j)) = true := by decide +kernel
end
section
/-! the kind of the cell that a method is called on (99: it is static) -/
noncomputable def xmKl0 : List Nat := [99, 99, 99, 99, 0, 0, 0, 0, 0, 0, 1, 1, 1, 1, 1, 1, 1, 1, 1, 1, 1, 2, 2, 2, 2, 2, 2, 2, 2, 2, 2, 2, 2, 3, 3, 3, 3, 3, 3, 3, 3, 3, 3, 99, 99, 3, 3, 3, 99, 99, 4, 4, 4, 4, 5, 5, 5, 5, 5, 5, 5, 5, 5, 5, 6, 6, 6, 6, 6, 7, 7, 7, 7, 7, 7, 7, 7, 7, 7, 7, 7, 8, 8, 8, 8, 8, 8, 8, 8, 8, 8, 8, 8, 8, 8, 8, 8, 8, 8, 8, 8, 8, 8, 8, 8, 8, 8, 8, 8, 8, 8, 8, 8, 8, 8, 8, 8, 8, 99, 8, 8, 8, 8, 8, 8, 8, 99, 99, 99, 99, 99, 99, 99, 99, 99, 99, 99]
noncomputable def xmKl1 : List Nat := [9, 99, 99, 9, 9, 9, 9, 9, 99, 99, 99, 9, 9, 9, 9, 9, 9, 9, 99, 99, 9, 9, 9, 9, 9, 9, 9, 9, 9, 9, 9, 9, 9, 9, 9, 9, 9, 9, 9, 9, 9, 99, 9, 9, 9, 9, 9, 9, 99, 9, 9, 9, 9, 9, 9, 9, 9, 9, 9, 9, 9, 9, 9, 9, 9, 9, 9, 9, 9, 9, 9, 9]
noncomputable def xmK (k : Nat) : Nat := cond (Nat.ble 200 k) (xmKl1.getD (k - 200) 98) (xmKl0.getD k 98)
end
section
/-! the abstract machine: whole numbers, cells by kind and number, contents as one function -/
abbrev xi (x : Int) : xa_V := .inl x
abbrev xl (x : Int) : xa_V := .inr (.inl x)
abbrev xr (K i : Nat) : xa_V := .inr (.inr (some (K, i)))
abbrev xn : xa_V := .inr (.inr none)
noncomputable def w32 (x : Int) : Int := (x + 2147483648) % 4294967296 - 2147483648
noncomputable def w64 (x : Int) : Int := (x + 9223372036854775808) % 18446744073709551616 - 9223372036854775808
noncomputable def xand (a b : Int) : Int := (Int32.ofInt a &&& Int32.ofInt b).toInt
noncomputable def xor2 (a b : Int) : Int := (Int32.ofInt a ||| Int32.ofInt b).toInt
noncomputable def xxor (a b : Int) : Int := (Int32.ofInt a ^^^ Int32.ofInt b).toInt
noncomputable def xshl (a b : Int) : Int := (Int32.ofInt a <<< (Int32.ofInt b &&& 31)).toInt
noncomputable def xshr (a b : Int) : Int := (Int32.ofInt a >>> (Int32.ofInt b &&& 31)).toInt
noncomputable def xdiv (a b : Int) : Int := if 0 ≤ a then a / b else -((-a) / b)
noncomputable def xrem (a b : Int) : Int := if 0 ≤ a then a % b else -((-a) % b)
noncomputable def xcmp (a b : Int) : Int := if a < b then -1 else if a = b then 0 else 1
noncomputable def xup (σ : xa_H) (K i s : Nat) (v : Int) : xa_H := fun K' i' s' => if K' = K ∧ i' = i ∧ s' = s then v else σ K' i' s'
noncomputable def xlong : xa_V → Bool
  | .inr (.inl _) => true
  | _ => false
noncomputable def xget : xa_L → Nat → Option xa_V
  | [], _ => none
  | q :: r, i => cond (Nat.beq q.1 i) (some q.2) (xget r i)
noncomputable def xset (L : xa_L) (i : Nat) (v : xa_V) : xa_L := (i, v) :: L.filter (fun q => !(q.1 == i) && !(q.1 + 1 == i && xlong q.2))
noncomputable def xsetl (L : xa_L) (i : Nat) (v : xa_V) : xa_L := (i, v) :: L.filter (fun q => !(q.1 == i) && (!(q.1 == i + 1) && !(q.1 + 1 == i && xlong q.2)))
noncomputable def xargs : Nat → List xa_V → xa_L
  | _, [] => []
  | i, v :: vs => (i, v) :: xargs (cond (xlong v) (i + 2) (i + 1)) vs
noncomputable def xrel : ClassFile.Cond → Int → Int → Bool
  | .eq, a, b => decide (a = b)
  | .ne, a, b => decide (¬ a = b)
  | .lt, a, b => decide (a < b)
  | .ge, a, b => decide (b ≤ a)
  | .gt, a, b => decide (b < a)
  | .le, a, b => decide (a ≤ b)
noncomputable def xtgt (pc : Nat) (off : Int) : Nat := ((pc : Int) + off).toNat
abbrev xa_C : Type := Nat × xa_L × List xa_V × xa_H
noncomputable def xs_ld (i len pc : Nat) (L : xa_L) (S : List xa_V) (σ : xa_H) (t : Nat) : Option xa_C := match xget L i with
  | some (.inl v) => cond (Nat.beq t 0) (some (pc + len, L, .inl v :: S, σ)) none
  | some (.inr (.inl v)) => cond (Nat.beq t 1) (some (pc + len, L, .inr (.inl v) :: S, σ)) none
  | some (.inr (.inr r)) => cond (Nat.beq t 2) (some (pc + len, L, .inr (.inr r) :: S, σ)) none
  | none => none
noncomputable def xs_st (i len pc : Nat) (L : xa_L) (S : List xa_V) (σ : xa_H) (t : Nat) (mx : Nat) : Option xa_C := match S with
  | .inl v :: S' => cond (Nat.beq t 0 && Nat.blt i mx) (some (pc + len, xset L i (.inl v), S', σ)) none
  | .inr (.inl v) :: S' => cond (Nat.beq t 1 && Nat.blt (i + 1) mx) (some (pc + len, xsetl L i (.inr (.inl v)), S', σ)) none
  | .inr (.inr r) :: S' => cond (Nat.beq t 2 && Nat.blt i mx) (some (pc + len, xset L i (.inr (.inr r)), S', σ)) none
  | [] => none
noncomputable def xs_b (f : Int → Int → Int) (pc : Nat) (L : xa_L) (S : List xa_V) (σ : xa_H) : Option xa_C := match S with
  | .inl b :: .inl a :: S' => some (pc + 1, L, .inl (f a b) :: S', σ)
  | _ => none
noncomputable def xs_d (f : Int → Int → Int) (pc : Nat) (L : xa_L) (S : List xa_V) (σ : xa_H) : Option xa_C := match S with
  | .inl b :: .inl a :: S' => if 0 < b then some (pc + 1, L, .inl (f a b) :: S', σ) else none
  | _ => none
noncomputable def xs_bl (f : Int → Int → Int) (pc : Nat) (L : xa_L) (S : List xa_V) (σ : xa_H) : Option xa_C := match S with
  | .inr (.inl b) :: .inr (.inl a) :: S' => some (pc + 1, L, .inr (.inl (f a b)) :: S', σ)
  | _ => none
noncomputable def xs_aget (t : Nat) (pc : Nat) (L : xa_L) (S : List xa_V) (σ : xa_H) : Option xa_C := match S with
  | .inl j :: .inr (.inr (some (K, i))) :: S' =>
    if xaty K = t ∧ 0 ≤ j ∧ j < xalen K then some (pc + 1, L, (cond (Nat.beq t 2) (.inr (.inl (σ K i j.toNat))) (.inl (σ K i j.toNat))) :: S', σ) else none
  | _ => none
noncomputable def xs_aput (k t : Nat) (pc : Nat) (L : xa_L) (S : List xa_V) (σ : xa_H) : Option xa_C := match S with
  | .inl v :: .inl j :: .inr (.inr (some (K, i))) :: S' =>
    if (t = 0 ∨ t = 1) ∧ xaty K = t ∧ (0 ≤ j ∧ j < xalen K) ∧ xkg K = xmg k then some (pc + 1, L, S', xup σ K i j.toNat (cond (Nat.beq t 1) (v % 2) v)) else none
  | .inr (.inl v) :: .inl j :: .inr (.inr (some (K, i))) :: S' =>
    if t = 2 ∧ xaty K = t ∧ (0 ≤ j ∧ j < xalen K) ∧ xkg K = xmg k then some (pc + 1, L, S', xup σ K i j.toNat v) else none
  | _ => none
noncomputable def xs_getf (x y pc : Nat) (L : xa_L) (S : List xa_V) (σ : xa_H) : Option xa_C := match S with
  | .inr (.inr (some (K, i))) :: S' => cond (Nat.beq K x)
    (match xfty K y with
      | 0 => some (pc + 3, L, .inl (σ K i y) :: S', σ)
      | 1 => some (pc + 3, L, .inl (σ K i y) :: S', σ)
      | 3 => some (pc + 3, L, .inr (.inr (some (xsr K i y))) :: S', σ)
      | 4 => some (pc + 3, L, .inr (.inr (if σ K i y < 0 then none else some (5, (σ K i y).toNat))) :: S', σ)
      | _ => none) none
  | _ => none
noncomputable def xs_putf (k x y pc : Nat) (L : xa_L) (S : List xa_V) (σ : xa_H) : Option xa_C := match S with
  | v :: .inr (.inr (some (K, i))) :: S' => cond (Nat.beq K x && Nat.beq (xkg K) (xmg k))
    (match xfty K y, v with
      | 0, .inl a => some (pc + 3, L, S', xup σ K i y a)
      | 1, .inl a => if a = 0 ∨ a = 1 then some (pc + 3, L, S', xup σ K i y a) else none
      | 4, .inr (.inr none) => some (pc + 3, L, S', xup σ K i y (-1))
      | 4, .inr (.inr (some (K2, j))) => cond (Nat.beq K2 5) (some (pc + 3, L, S', xup σ K i y (j : Int))) none
      | _, _ => none) none
  | _ => none
noncomputable def xnst : Option (Nat × Nat) → Bool
  | none => true
  | some q => !Nat.beq q.1 99
/-- one instruction that is no call and no return -/
noncomputable def xstp (k : Nat) (e : xa_I) (pc : Nat) (L : xa_L) (S : List xa_V) (σ : xa_H) : Option xa_C :=
  match e.1 with
  | .iconst v => some (pc + 1, L, .inl v :: S, σ)
  | .bipush v => some (pc + 2, L, .inl v :: S, σ)
  | .sipush v => some (pc + 3, L, .inl v :: S, σ)
  | .lconst n => some (pc + 1, L, .inr (.inl ((n : Nat) : Int)) :: S, σ)
  | .ldc _ => some (pc + 2, L, cond (Nat.beq e.2.2.2.1 0) (.inl (e.2.2.1 : Int)) (.inr (.inr (some (99, e.2.2.1)))) :: S, σ)
  | .ldc2_w _ => some (pc + 3, L, .inr (.inl (cond (Nat.beq e.2.2.2.1 0) (e.2.2.1 : Int) (-(e.2.2.1 : Int)))) :: S, σ)
  | .aconst_null => some (pc + 1, L, .inr (.inr none) :: S, σ)
  | .iload i => xs_ld i 2 pc L S σ 0
  | .iload_n i => xs_ld i 1 pc L S σ 0
  | .lload i => xs_ld i 2 pc L S σ 1
  | .lload_n i => xs_ld i 1 pc L S σ 1
  | .aload i => xs_ld i 2 pc L S σ 2
  | .aload_n i => xs_ld i 1 pc L S σ 2
  | .istore i => xs_st i 2 pc L S σ 0 (xmL k)
  | .istore_n i => xs_st i 1 pc L S σ 0 (xmL k)
  | .lstore i => xs_st i 2 pc L S σ 1 (xmL k)
  | .lstore_n i => xs_st i 1 pc L S σ 1 (xmL k)
  | .astore i => xs_st i 2 pc L S σ 2 (xmL k)
  | .astore_n i => xs_st i 1 pc L S σ 2 (xmL k)
  | .iinc i n => match xget L i with
    | some (.inl v) => cond (Nat.blt i (xmL k)) (some (pc + 3, xset L i (.inl (w32 (v + n))), S, σ)) none
    | _ => none
  | .iadd => xs_b (fun a b => w32 (a + b)) pc L S σ
  | .isub => xs_b (fun a b => w32 (a - b)) pc L S σ
  | .imul => xs_b (fun a b => w32 (a * b)) pc L S σ
  | .iand => xs_b xand pc L S σ
  | .ior => xs_b xor2 pc L S σ
  | .ixor => xs_b xxor pc L S σ
  | .ishl => xs_b xshl pc L S σ
  | .ishr => xs_b xshr pc L S σ
  | .idiv => xs_d xdiv pc L S σ
  | .irem => xs_d xrem pc L S σ
  | .ineg => match S with
    | .inl a :: S' => some (pc + 1, L, .inl (w32 (-a)) :: S', σ)
    | _ => none
  | .ladd => xs_bl (fun a b => w64 (a + b)) pc L S σ
  | .lmul => xs_bl (fun a b => w64 (a * b)) pc L S σ
  | .ldiv => match S with
    | .inr (.inl b) :: .inr (.inl a) :: S' => if 0 < b then some (pc + 1, L, .inr (.inl (xdiv a b)) :: S', σ) else none
    | _ => none
  | .lcmp => match S with
    | .inr (.inl b) :: .inr (.inl a) :: S' => some (pc + 1, L, .inl (xcmp a b) :: S', σ)
    | _ => none
  | .i2l => match S with
    | .inl a :: S' => some (pc + 1, L, .inr (.inl a) :: S', σ)
    | _ => none
  | .l2i => match S with
    | .inr (.inl a) :: S' => some (pc + 1, L, .inl (w32 a) :: S', σ)
    | _ => none
  | .i2c => match S with
    | .inl a :: S' => some (pc + 1, L, .inl (a % 65536) :: S', σ)
    | _ => none
  | .if_icmp c off => match S with
    | .inl b :: .inl a :: S' => some (cond (xrel c a b) (xtgt pc off) (pc + 3), L, S', σ)
    | _ => none
  | .ifCond c off => match S with
    | .inl a :: S' => some (cond (xrel c a 0) (xtgt pc off) (pc + 3), L, S', σ)
    | _ => none
  | .ifnull off => match S with
    | .inr (.inr r) :: S' => some (cond r.isNone (xtgt pc off) (pc + 3), L, S', σ)
    | _ => none
  | .ifnonnull off => match S with
    | .inr (.inr r) :: S' => some (cond r.isSome (xtgt pc off) (pc + 3), L, S', σ)
    | _ => none
  | .if_acmp c off => match c, S with
    | .ne, .inr (.inr r2) :: .inr (.inr r1) :: S' => cond (xnst r1 && xnst r2) (some (cond (decide (r1 = r2)) (pc + 3) (xtgt pc off), L, S', σ)) none
    | _, _ => none
  | .goto off => some (xtgt pc off, L, S, σ)
  | .tableswitch d lo hi offs => match S with
    | .inl v :: S' => if v < lo ∨ hi < v then some (xtgt pc d, L, S', σ) else match offs[(v - lo).toNat]? with
      | some off => some (xtgt pc off, L, S', σ)
      | none => none
    | _ => none
  | .dup => match S with
    | a :: S' => cond (xlong a) none (some (pc + 1, L, a :: a :: S', σ))
    | _ => none
  | .dup2 => match S with
    | a :: b :: S' => cond (xlong a || xlong b) none (some (pc + 1, L, a :: b :: a :: b :: S', σ))
    | _ => none
  | .pop => match S with
    | a :: S' => cond (xlong a) none (some (pc + 1, L, S', σ))
    | _ => none
  | .arraylength => match S with
    | .inr (.inr (some (K, i))) :: S' => if xaty K = 9 ∨ K = 99 then none else some (pc + 1, L, .inl (xalen K : Int) :: S', σ)
    | _ => none
  | .iaload => xs_aget 0 pc L S σ
  | .baload => xs_aget 1 pc L S σ
  | .laload => xs_aget 2 pc L S σ
  | .aaload => match S with
    | .inl j :: .inr (.inr (some (K, i))) :: S' =>
      if (xaty K = 5 ∨ xaty K = 6) ∧ 0 ≤ j ∧ j < xalen K then some (pc + 1, L, .inr (.inr (some (xar K i j.toNat))) :: S', σ) else none
    | _ => none
  | .iastore => xs_aput k 0 pc L S σ
  | .bastore => xs_aput k 1 pc L S σ
  | .lastore => xs_aput k 2 pc L S σ
  | .getfield _ => xs_getf e.2.2.1 e.2.2.2.1 pc L S σ
  | .putfield _ => xs_putf k e.2.2.1 e.2.2.2.1 pc L S σ
  | _ => none
/-- what an instruction is: 1 a return, 2 a call, 0 another -/
noncomputable def xkd : Instr → Nat
  | .ireturn => 1
  | .lreturn => 1
  | .areturn => 1
  | .return_ => 1
  | .invokevirtual _ => 2
  | .invokestatic _ => 2
  | _ => 0
noncomputable def xret (k : Nat) (ins : Instr) (S : List xa_V) (σ : xa_H) : Option (Option xa_V × xa_H) := match ins, S with
  | .ireturn, [.inl v] => some (some (.inl (cond (Nat.beq (xmZ k) 1) (v % 2) v)), σ)
  | .lreturn, [.inr (.inl v)] => some (some (.inr (.inl v)), σ)
  | .areturn, [.inr (.inr r)] => some (some (.inr (.inr r)), σ)
  | .return_, [] => some (none, σ)
  | _, _ => none
noncomputable def xmoves : List Int := [110, 115, 119, 101, 117, 118, 120, 121, 122, 88, 89, 90]
noncomputable def xixo : List Int → Int → Int → Int
  | [], _, _ => -1
  | a :: r, c, n => if c = a then n else xixo r c (n + 1)
/-- the three calls on the text of the moves -/
noncomputable def xprim (x : Nat) (as : List xa_V) : Option xa_V := match as with
  | [.inr (.inr (some (K, _))), .inl c] => if K = 99 then (cond (Nat.beq x 5000) (if 0 ≤ c ∧ c < 65536 then some (.inl (xixo xmoves c 0)) else none) (cond (Nat.beq x 5001) (if 0 ≤ c ∧ c < 12 then some (.inl (xmoves.getD c.toNat 0)) else none) none)) else none
  | [.inr (.inr (some (K, _)))] => if K = 99 then (cond (Nat.beq x 5002) (some (.inl 12)) none) else none
  | [.inl a] => cond (Nat.beq x 5003) (some (.inl (if 0 ≤ a then a else w32 (0 - a)))) none
  | [.inl a, .inl b] => cond (Nat.beq x 5004) (some (.inl (if a < b then b else a))) (cond (Nat.beq x 5005) (some (.inl (if b < a then b else a))) none)
  | _ => none
/-- how many words a stack has -/
noncomputable def xwt : List xa_V → Nat
  | [] => 0
  | v :: r => cond (xlong v) 2 1 + xwt r
/-- the cell that a call is made on is of the method's class (a static method: 99) -/
noncomputable def xrcv (x : Nat) (as : List xa_V) : Bool := match as with
  | .inr (.inr (some (K, _))) :: _ => Nat.beq K (xmK x)
  | _ => false
def xstat : Instr → Bool
  | .invokestatic _ => true
  | _ => false
noncomputable def xrun : Nat → Nat → Nat → xa_L → List xa_V → xa_H → Option (Option xa_V × xa_H)
  | 0, _, _, _, _, _ => none
  | n + 1, k, pc, L, S, σ => match xcd k pc with
    | none => none
    | some e => match xkd e.1 with
      | 2 => cond (Nat.ble e.2.2.2.1 S.length && Nat.ble (xwt (S.drop e.2.2.2.1)) 8)
        (cond (Nat.ble 5000 e.2.2.1)
          (match xprim e.2.2.1 (S.take e.2.2.2.1).reverse with
            | some v => xrun n k (pc + 3) L (v :: S.drop e.2.2.2.1) σ
            | none => none)
          (cond (Nat.ble (xwt (S.take e.2.2.2.1).reverse) (xmL e.2.2.1) && (xstat e.1 || xrcv e.2.2.1 (S.take e.2.2.2.1).reverse))
            (match xrun n e.2.2.1 0 (xargs 0 (S.take e.2.2.2.1).reverse) [] σ with
              | some (v, σ') => xrun n k (pc + 3) L (v.toList ++ S.drop e.2.2.2.1) σ'
              | none => none) none)) none
      | 1 => xret k e.1 S σ
      | _ => match xstp k e pc L S σ with
        | some q => xrun n k q.1 q.2.1 q.2.2.1 q.2.2.2
        | none => none
theorem xrun_mono1 : ∀ (n k pc : Nat) (L : xa_L) (S : List xa_V) (σ : xa_H) (r : Option xa_V × xa_H), xrun n k pc L S σ = some r → xrun (n + 1) k pc L S σ = some r := by
  intro n
  induction n with
  | zero => intro k pc L S σ r h; cases h
  | succ n ih =>
    intro k pc L S σ r h
    unfold xrun at h ⊢
    split at h
    · cases h
    · rename_i e he
      split at h
      · rename_i hk
        cases h1 : Nat.ble e.2.2.2.1 S.length && Nat.ble (xwt (S.drop e.2.2.2.1)) 8 with
        | false => rw [h1] at h; cases h
        | true =>
          rw [h1] at h
          simp only [cond_true] at h ⊢
          cases h2 : Nat.ble 5000 e.2.2.1 with
          | true =>
            rw [h2] at h
            simp only [cond_true] at h ⊢
            split at h
            · exact ih _ _ _ _ _ _ h
            · cases h
          | false =>
            rw [h2] at h
            simp only [cond_false] at h ⊢
            cases h3 : Nat.ble (xwt (S.take e.2.2.2.1).reverse) (xmL e.2.2.1) && (xstat e.1 || xrcv e.2.2.1 (S.take e.2.2.2.1).reverse) with
            | false => rw [h3] at h; cases h
            | true =>
              rw [h3] at h
              simp only [cond_true] at h ⊢
              split at h
              · rename_i v σ' hc
                rw [ih _ _ _ _ _ _ hc]
                exact ih _ _ _ _ _ _ h
              · cases h
      · exact h
      · split at h
        · rename_i q hq
          exact ih _ _ _ _ _ _ h
        · cases h
theorem xrun_mono {n k pc : Nat} {L : xa_L} {S : List xa_V} {σ : xa_H} {r : Option xa_V × xa_H} (h : xrun n k pc L S σ = some r) : ∀ d : Nat, xrun (n + d) k pc L S σ = some r := by
  intro d
  induction d with
  | zero => exact h
  | succ d ih => exact xrun_mono1 _ _ _ _ _ _ _ ih
end
section
/-! numbers of the abstract machine and the machine's -/
def xr32 (a : Int) : Prop := -2147483648 ≤ a ∧ a < 2147483648
def xr64 (a : Int) : Prop := -9223372036854775808 ≤ a ∧ a < 9223372036854775808
theorem w32_r (a : Int) : xr32 (w32 a) := by unfold xr32 w32; omega
theorem w64_r (a : Int) : xr64 (w64 a) := by unfold xr64 w64; omega
theorem w32_id {a : Int} (h : xr32 a) : w32 a = a := by unfold xr32 at h; unfold w32; omega
theorem w64_id {a : Int} (h : xr64 a) : w64 a = a := by unfold xr64 at h; unfold w64; omega
theorem xo32 {a : Int} (h : xr32 a) : (Int32.ofInt a).toInt = a := Int32.toInt_ofInt_of_le (by have := h.1; omega) (by have := h.2; omega)
theorem xo64 {a : Int} (h : xr64 a) : (Int64.ofInt a).toInt = a := Int64.toInt_ofInt_of_le (by have := h.1; omega) (by have := h.2; omega)
theorem w32_o (a : Int) : Int32.ofInt (w32 a) = Int32.ofInt a := by
  apply Int32.toInt_inj.mp
  rw [xo32 (w32_r a), Int32.toInt_ofInt]
  show w32 a = a.bmod 4294967296
  unfold w32 Int.bmod
  dsimp only
  split <;> omega
theorem w64_o (a : Int) : Int64.ofInt (w64 a) = Int64.ofInt a := by
  apply Int64.toInt_inj.mp
  rw [xo64 (w64_r a), Int64.toInt_ofInt]
  show w64 a = a.bmod 18446744073709551616
  unfold w64 Int.bmod
  dsimp only
  split <;> omega
theorem xt32 (x : Int32) : xr32 x.toInt := ⟨x.le_toInt, x.toInt_lt⟩
theorem xt64 (x : Int64) : xr64 x.toInt := ⟨x.le_toInt, x.toInt_lt⟩
theorem xlt32 {a b : Int} (ha : xr32 a) (hb : xr32 b) : Int32.ofInt a < Int32.ofInt b ↔ a < b := by rw [Int32.lt_iff_toInt_lt, xo32 ha, xo32 hb]
theorem xle32 {a b : Int} (ha : xr32 a) (hb : xr32 b) : Int32.ofInt a ≤ Int32.ofInt b ↔ a ≤ b := by rw [Int32.le_iff_toInt_le, xo32 ha, xo32 hb]
theorem xeq32 {a b : Int} (ha : xr32 a) (hb : xr32 b) : Int32.ofInt a = Int32.ofInt b ↔ a = b := by rw [← Int32.toInt_inj, xo32 ha, xo32 hb]
theorem xlt64 {a b : Int} (ha : xr64 a) (hb : xr64 b) : Int64.ofInt a < Int64.ofInt b ↔ a < b := by rw [Int64.lt_iff_toInt_lt, xo64 ha, xo64 hb]
theorem xeq64 {a b : Int} (ha : xr64 a) (hb : xr64 b) : Int64.ofInt a = Int64.ofInt b ↔ a = b := by rw [← Int64.toInt_inj, xo64 ha, xo64 hb]
theorem xz32 : Int32.ofInt 0 = 0 := rfl
theorem xlt0 {a : Int} (ha : xr32 a) : Int32.ofInt a < 0 ↔ a < 0 := by rw [← xz32]; exact xlt32 ha ⟨by decide, by decide⟩
theorem xle0 {a : Int} (ha : xr32 a) : 0 ≤ Int32.ofInt a ↔ 0 ≤ a := by rw [← xz32]; exact xle32 ⟨by decide, by decide⟩ ha
theorem xeq0 {a : Int} (ha : xr32 a) : Int32.ofInt a = 0 ↔ a = 0 := by rw [← xz32]; exact xeq32 ha ⟨by decide, by decide⟩
theorem xcl32 {a : Int} (ha : xr32 a) : (Int32.ofInt a).toNatClampNeg = a.toNat := by
  show (Int32.ofInt a).toInt.toNat = a.toNat
  rw [xo32 ha]
theorem xvin {a : Int} {n : Nat} (ha : xr32 a) (h0 : 0 ≤ a) (h1 : a < n) : vp_in (Int32.ofInt a) n := by
  rintro (h | h)
  · rw [xlt0 ha] at h; omega
  · rw [xcl32 ha] at h; omega
theorem xadd (a b : Int) : Int32.ofInt (w32 (a + b)) = Int32.ofInt a + Int32.ofInt b := by rw [w32_o, Int32.ofInt_add]
theorem xsub (a b : Int) : Int32.ofInt (w32 (a - b)) = Int32.ofInt a - Int32.ofInt b := by rw [w32_o, Int32.ofInt_sub]
theorem xmul (a b : Int) : Int32.ofInt (w32 (a * b)) = Int32.ofInt a * Int32.ofInt b := by rw [w32_o, Int32.ofInt_mul]
theorem xneg (a : Int) : Int32.ofInt (w32 (-a)) = -Int32.ofInt a := by rw [w32_o, Int32.ofInt_neg]
theorem xladd (a b : Int) : Int64.ofInt (w64 (a + b)) = Int64.ofInt a + Int64.ofInt b := by rw [w64_o, Int64.ofInt_add]
theorem xlmul (a b : Int) : Int64.ofInt (w64 (a * b)) = Int64.ofInt a * Int64.ofInt b := by rw [w64_o, Int64.ofInt_mul]
theorem xdiv_t {a b : Int} (hb : 0 < b) : xdiv a b = a.tdiv b := by
  unfold xdiv
  split
  · rename_i h
    rw [Int.tdiv_eq_ediv_of_nonneg h]
  · rename_i h
    have e : a = -(-a) := by omega
    conv => rhs; rw [e]
    rw [Int.neg_tdiv, Int.tdiv_eq_ediv_of_nonneg (by omega)]
theorem xrem_t {a b : Int} (hb : 0 < b) : xrem a b = a.tmod b := by
  unfold xrem
  split
  · rename_i h
    rw [Int.tmod_eq_emod_of_nonneg h]
  · rename_i h
    have e : a = -(-a) := by omega
    conv => rhs; rw [e]
    rw [Int.neg_tmod, Int.tmod_eq_emod_of_nonneg (by omega)]
theorem xdiv_b {a b : Int} (hb : 0 < b) : (0 ≤ a → 0 ≤ xdiv a b ∧ xdiv a b ≤ a) ∧ (a < 0 → a ≤ xdiv a b ∧ xdiv a b ≤ 0) := by
  unfold xdiv
  refine ⟨fun h => ?_, fun h => ?_⟩
  · rw [if_pos h]
    exact ⟨Int.ediv_nonneg h (by omega), Int.ediv_le_self b h⟩
  · rw [if_neg (by omega)]
    have h1 : 0 ≤ (-a) / b := Int.ediv_nonneg (by omega) (by omega)
    have h2 : (-a) / b ≤ -a := Int.ediv_le_self b (by omega)
    omega
theorem xdiv_r {a b : Int} (ha : xr32 a) (hb : 0 < b) : xr32 (xdiv a b) := by
  have h := xdiv_b (a := a) hb
  unfold xr32 at ha ⊢
  rcases Int.lt_or_le a 0 with q | q
  · have := h.2 q; omega
  · have := h.1 q; omega
theorem xdiv_r64 {a b : Int} (ha : xr64 a) (hb : 0 < b) : xr64 (xdiv a b) := by
  have h := xdiv_b (a := a) hb
  unfold xr64 at ha ⊢
  rcases Int.lt_or_le a 0 with q | q
  · have := h.2 q; omega
  · have := h.1 q; omega
theorem xdiv_o {a b : Int} (ha : xr32 a) (hb0 : xr32 b) (hb : 0 < b) : Int32.ofInt (xdiv a b) = Int32.ofInt a / Int32.ofInt b := by
  apply Int32.toInt_inj.mp
  rw [xo32 (xdiv_r ha hb), Int32.toInt_div_of_ne_right _ _ (fun h => ?_), xo32 ha, xo32 hb0, xdiv_t hb]
  have h1 : (Int32.ofInt b).toInt = (-1 : Int32).toInt := by rw [h]
  rw [xo32 hb0] at h1
  have h2 : (-1 : Int32).toInt = -1 := by decide
  omega
theorem xdiv_o64 {a b : Int} (ha : xr64 a) (hb0 : xr64 b) (hb : 0 < b) : Int64.ofInt (xdiv a b) = Int64.ofInt a / Int64.ofInt b := by
  apply Int64.toInt_inj.mp
  rw [xo64 (xdiv_r64 ha hb), Int64.toInt_div_of_ne_right _ _ (fun h => ?_), xo64 ha, xo64 hb0, xdiv_t hb]
  have h1 : (Int64.ofInt b).toInt = (-1 : Int64).toInt := by rw [h]
  rw [xo64 hb0] at h1
  have h2 : (-1 : Int64).toInt = -1 := by decide
  omega
theorem xrem_e {a b : Int} : xrem a b = a - xdiv a b * b := by
  unfold xrem xdiv
  have h1 := Int.emod_def a b
  have h2 := Int.emod_def (-a) b
  have e1 := Int.mul_comm b (a / b)
  have e2 := Int.mul_comm b ((-a) / b)
  have e3 := Int.neg_mul ((-a) / b) b
  split <;> omega
theorem xrem_r {a b : Int} (ha : xr32 a) (hb : 0 < b) : xr32 (xrem a b) := by
  unfold xrem
  unfold xr32 at ha ⊢
  have f1 : ∀ c : Int, 0 ≤ c → 0 ≤ c % b ∧ c % b ≤ c := fun c hc => ⟨Int.emod_nonneg c (by omega), by
    have h := Int.emod_def c b
    have g : 0 ≤ b * (c / b) := Int.mul_nonneg (by omega) (Int.ediv_nonneg hc (by omega))
    omega⟩
  split
  · have := f1 a (by omega); omega
  · have := f1 (-a) (by omega); omega
theorem xrem_o {a b : Int} (ha : xr32 a) (hb0 : xr32 b) (hb : 0 < b) : Int32.ofInt (xrem a b) = Int32.ofInt a - Int32.ofInt a / Int32.ofInt b * Int32.ofInt b := by
  rw [xrem_e, Int32.ofInt_sub, Int32.ofInt_mul, xdiv_o ha hb0 hb]
theorem xne0 {b : Int} (hb0 : xr32 b) (hb : 0 < b) : ¬ Int32.ofInt b = 0 := by rw [xeq0 hb0]; omega
theorem xne064 {b : Int} (hb0 : xr64 b) (hb : 0 < b) : ¬ Int64.ofInt b = 0 := by
  intro h
  have h1 : (Int64.ofInt b).toInt = (0 : Int64).toInt := by rw [h]
  rw [xo64 hb0] at h1
  have h2 : (0 : Int64).toInt = 0 := by decide
  omega
theorem xti (x : Int32) : Int32.ofInt x.toInt = x := Int32.ofInt_toInt x
theorem xi2l {a : Int} (h : xr32 a) : (Int32.ofInt a).toInt64 = Int64.ofInt a := by
  apply Int64.toInt_inj.mp
  rw [Int32.toInt_toInt64, xo32 h, xo64 ⟨by have := h.1; omega, by have := h.2; omega⟩]
theorem xl2i (a : Int) : (Int64.ofInt a).toInt32 = Int32.ofInt (w32 a) := by rw [w32_o, Int64.toInt32_ofInt]
theorem xi2c {a : Int} (h : xr32 a) : ((Int32.ofInt a).toUInt32 % 65536).toInt32 = Int32.ofInt (a % 65536) := by
  apply Int32.toInt_inj.mp
  have hr : xr32 (a % 65536) := by unfold xr32; omega
  rw [xo32 hr]
  have e1 : ((Int32.ofInt a).toUInt32 % 65536).toNat = (a % 65536).toNat := by
    rw [UInt32.toNat_mod]
    show (Int32.ofInt a).toBitVec.toNat % 65536 = _
    have e2 : ((Int32.ofInt a).toBitVec.toNat : Int) = a % 4294967296 := by
      show ((BitVec.ofInt 32 a).toNat : Int) = _
      rw [BitVec.toNat_ofInt]
      omega
    omega
  have e3 : (((Int32.ofInt a).toUInt32 % 65536).toInt32).toInt = (((Int32.ofInt a).toUInt32 % 65536).toNat : Int) := by
    show ((Int32.ofInt a).toUInt32 % 65536).toBitVec.toInt = _
    rw [BitVec.toInt_eq_toNat_of_lt]
    · rfl
    · show 2 * ((Int32.ofInt a).toUInt32 % 65536).toNat < 2 ^ 32
      omega
  rw [e3, e1]
  omega
theorem xcmp_o {a b : Int} (ha : xr64 a) (hb : xr64 b) : Int32.ofInt (xcmp a b) = lg_cmp (Int64.ofInt a) (Int64.ofInt b) := by
  unfold xcmp lg_cmp
  have h1 := xlt64 ha hb
  have h2 := xlt64 hb ha
  have h3 := xeq64 ha hb
  by_cases q : a < b
  · have q2 : ¬ Int64.ofInt b < Int64.ofInt a := fun z => by have := h2.mp z; omega
    have q3 : ¬ Int64.ofInt a = Int64.ofInt b := fun z => by have := h3.mp z; omega
    simp [q, q2, q3]
  · by_cases q4 : a = b
    · subst q4
      simp
    · have q5 : Int64.ofInt b < Int64.ofInt a := h2.mpr (by omega)
      simp [q, q4, q5]
theorem xcmp_r (a b : Int) : xr32 (xcmp a b) := by
  unfold xcmp xr32
  split
  · omega
  · split <;> omega
end
section
/-! the cells of the abstract machine on the heap -/
def xcv (ad : Nat × Nat → Nat) : xa_V → Value
  | .inl a => .int (Int32.ofInt a)
  | .inr (.inl a) => .long (Int64.ofInt a)
  | .inr (.inr none) => .null
  | .inr (.inr (some q)) => .ref (ad q)
noncomputable def xfv (ad : Nat × Nat → Nat) (q : Nat × Nat) (f : Nat → Int) (s : Nat) : Value :=
  if xfty q.1 s = 3 then .ref (ad (xsr q.1 q.2 s)) else if xfty q.1 s = 4 then (if f s < 0 then .null else .ref (ad (5, (f s).toNat))) else .int (Int32.ofInt (f s))
noncomputable def xent (cA : Nat → ClassId) (ad : Nat × Nat → Nat) (q : Nat × Nat) (f : Nat → Int) : va_E :=
  if xaty q.1 = 9 then .inr (q.1, (List.range (xcl q.1).2.2).map (xfv ad q f))
  else .inl (cA (xaty q.1), xalen q.1, if xaty q.1 = 2 then .inr (.inl (fun j => Int64.ofInt (f j))) else if xaty q.1 = 5 ∨ xaty q.1 = 6 then .inr (.inr (.inr (.inr (fun j => some (ad (xar q.1 q.2 j)))))) else .inl (fun j => Int32.ofInt (f j)))
noncomputable def xwl (cA : Nat → ClassId) (ids : List (Nat × Nat)) (ad : Nat × Nat → Nat) (σ : xa_H) : va_W := ids.map fun q => (ad q, xent cA ad q (σ q.1 q.2))
def xtyp (t : Nat) : FieldType := if t = 0 then .int else if t = 1 then .boolean else if t = 2 then .long else if t = 5 then .object "SofaStair$Thing" else .object "SofaStair$Stair"
def xtys (cA : Nat → ClassId) (tyl : List Nat) : List (ClassId × FieldType) := tyl.map fun t => (cA t, xtyp t)
theorem xtys_get {cA : Nat → ClassId} {tyl : List Nat} {t : Nat} (h : t ∈ tyl) : ∃ n : Nat, (xtys cA tyl)[n]? = some (cA t, xtyp t) := by
  obtain ⟨n, hn⟩ := List.getElem?_of_mem h
  exact ⟨n, by unfold xtys; rw [List.getElem?_map, hn]; rfl⟩
theorem xwl_get {cA : Nat → ClassId} {ids : List (Nat × Nat)} {ad : Nat × Nat → Nat} {σ : xa_H} {q : Nat × Nat} (h : q ∈ ids) : ∃ n : Nat, ids[n]? = some q ∧ (xwl cA ids ad σ)[n]? = some (ad q, xent cA ad q (σ q.1 q.2)) := by
  obtain ⟨n, hn⟩ := List.getElem?_of_mem h
  exact ⟨n, hn, by unfold xwl; rw [List.getElem?_map, hn]; rfl⟩
theorem xup_ne {σ : xa_H} {K i s : Nat} {v : Int} {q : Nat × Nat} (h : ¬ q = (K, i)) : xup σ K i s v q.1 q.2 = σ q.1 q.2 := by
  funext s'
  unfold xup
  rw [if_neg]
  rintro ⟨h1, h2, -⟩
  exact h (Prod.ext h1 h2)
theorem xup_eq {σ : xa_H} {K i s : Nat} {v : Int} : xup σ K i s v K i = fun j => if j = s then v else σ K i j := by
  funext s'
  unfold xup
  simp
theorem xwl_set {cA : Nat → ClassId} {ids : List (Nat × Nat)} {ad : Nat × Nat → Nat} {σ : xa_H} {K i s n : Nat} {v : Int} (hn : ids.Nodup) (h : ids[n]? = some (K, i)) :
    (xwl cA ids ad σ).set n (ad (K, i), xent cA ad (K, i) (xup σ K i s v K i)) = xwl cA ids ad (xup σ K i s v) := by
  apply List.ext_getElem?
  intro k
  unfold xwl
  rw [List.getElem?_set, List.getElem?_map]
  by_cases hk : n = k
  · subst hk
    have hl : n < ids.length := (List.getElem?_eq_some_iff.mp h).1
    rw [if_pos rfl, if_pos (by simpa using hl), List.getElem?_map, h]
    rfl
  · rw [if_neg hk, List.getElem?_map]
    cases hq : ids[k]? with
    | none => rfl
    | some q =>
      have hne : ¬ q = (K, i) := by
        intro e
        subst e
        have hl : k < ids.length := (List.getElem?_eq_some_iff.mp hq).1
        exact hk ((List.getElem?_inj hl hn).mp (hq.trans h.symm)).symm
      show some (ad q, xent cA ad q (σ q.1 q.2)) = some (ad q, xent cA ad q (xup σ K i s v q.1 q.2))
      rw [xup_ne hne]
/-- which cells there are: apart, of a known kind, with what they point to -/
def xids (ids : List (Nat × Nat)) (tyl : List Nat) : Prop := ids.Nodup ∧ (∀ q ∈ ids, q.1 < 99 ∧ (xaty q.1 = 9 → q.1 < 10) ∧ (¬ xaty q.1 = 9 → xaty q.1 ∈ tyl)) ∧
  (∀ q ∈ ids, ∀ s, xfty q.1 s = 3 → xsr q.1 q.2 s ∈ ids) ∧ (∀ q ∈ ids, ∀ j, xaty q.1 = 5 ∨ xaty q.1 = 6 → j < xalen q.1 → xar q.1 q.2 j ∈ ids)
def xok (ids : List (Nat × Nat)) : xa_V → Prop
  | .inl a => xr32 a
  | .inr (.inl a) => xr64 a
  | .inr (.inr none) => True
  | .inr (.inr (some q)) => q ∈ ids ∨ q.1 = 99
/-- what the cells hold is in range -/
def xhok (ids : List (Nat × Nat)) (σ : xa_H) : Prop := ∀ q ∈ ids, ∀ s, (xaty q.1 = 9 → (xfty q.1 s = 0 ∨ xfty q.1 s = 1 → xr32 (σ q.1 q.2 s)) ∧ (xfty q.1 s = 4 → σ q.1 q.2 s < 0 ∨ (5, (σ q.1 q.2 s).toNat) ∈ ids)) ∧
  (xaty q.1 = 0 ∨ xaty q.1 = 1 → xr32 (σ q.1 q.2 s)) ∧ (xaty q.1 = 2 → xr64 (σ q.1 q.2 s))
theorem xalen_lt (K : Nat) : xalen K < 10000 := by
  by_cases h : K < 77
  · exact (by decide +kernel : ∀ K, K < 77 → xalen K < 10000) K h
  · unfold xalen
    rw [List.getD_eq_getElem?_getD, List.getElem?_eq_none (by simp; omega)]
    decide
theorem xnf_le (K : Nat) (h : K < 10) : (xcl K).2.2 = (xftl K).length := (by decide +kernel : ∀ K, K < 10 → (xcl K).2.2 = (xftl K).length) K h
theorem xcl_at (K : Nat) (h : K < 10) : vwCl[K]? = some (xcl K) := by
  unfold xcl
  have hl : K < vwCl.length := h
  rw [List.getD_eq_getElem?_getD, List.getElem?_eq_getElem hl]
  rfl
theorem xhok_int {ids : List (Nat × Nat)} {σ : xa_H} {K i y : Nat} {a : Int} (h : xhok ids σ) (hf : ¬ xaty K = 2) (hf4 : ¬ (xaty K = 9 ∧ xfty K y = 4)) (ha : xr32 a) : xhok ids (xup σ K i y a) := by
  intro q hq s
  by_cases e : q = (K, i)
  · subst e
    show _ ∧ _ ∧ _
    rw [xup_eq]
    by_cases hs : s = y
    · subst hs
      simp only [if_true]
      exact ⟨fun h9 => ⟨fun _ => ha, fun h4 => absurd ⟨h9, h4⟩ hf4⟩, fun _ => ha, fun h2 => absurd h2 hf⟩
    · simp only [if_neg hs]
      exact h _ hq s
  · rw [xup_ne e]
    exact h q hq s
theorem xhok_long {ids : List (Nat × Nat)} {σ : xa_H} {K i y : Nat} {a : Int} (h : xhok ids σ) (hf : xaty K = 2) (ha : xr64 a) : xhok ids (xup σ K i y a) := by
  intro q hq s
  by_cases e : q = (K, i)
  · subst e
    show _ ∧ _ ∧ _
    rw [xup_eq]
    by_cases hs : s = y
    · subst hs
      simp only [if_true]
      refine ⟨fun h9 => ?_, fun h9 => ?_, fun _ => ha⟩
      · exact absurd (show xaty K = 9 from h9) (by omega)
      · exact absurd (show xaty K = 0 ∨ xaty K = 1 from h9) (by omega)
    · simp only [if_neg hs]
      exact h _ hq s
  · rw [xup_ne e]
    exact h q hq s
theorem xhok_dyn {ids : List (Nat × Nat)} {σ : xa_H} {K i y : Nat} {a : Int} (h : xhok ids σ) (hf : xaty K = 9) (hf4 : xfty K y = 4) (ha : a < 0 ∨ (5, a.toNat) ∈ ids) : xhok ids (xup σ K i y a) := by
  intro q hq s
  by_cases e : q = (K, i)
  · subst e
    show _ ∧ _ ∧ _
    rw [xup_eq]
    by_cases hs : s = y
    · subst hs
      simp only [if_true]
      refine ⟨fun h9 => ⟨fun h0 => ?_, fun h4 => ha⟩, fun h9 => ?_, fun h9 => ?_⟩
      · exact absurd (show xfty K s = 0 ∨ xfty K s = 1 from h0) (by omega)
      · exact absurd (show xaty K = 0 ∨ xaty K = 1 from h9) (by omega)
      · exact absurd (show xaty K = 2 from h9) (by omega)
    · simp only [if_neg hs]
      exact h _ hq s
  · rw [xup_ne e]
    exact h q hq s
theorem xent_arr {cA : Nat → ClassId} {ad : Nat × Nat → Nat} {q : Nat × Nat} {f : Nat → Int} (h : xaty q.1 = 0 ∨ xaty q.1 = 1) : xent cA ad q f = .inl (cA (xaty q.1), xalen q.1, .inl (fun j => Int32.ofInt (f j))) := by
  unfold xent
  rw [if_neg (by omega), if_neg (by omega), if_neg (by omega)]
theorem xent_long {cA : Nat → ClassId} {ad : Nat × Nat → Nat} {q : Nat × Nat} {f : Nat → Int} (h : xaty q.1 = 2) : xent cA ad q f = .inl (cA (xaty q.1), xalen q.1, .inr (.inl (fun j => Int64.ofInt (f j)))) := by
  unfold xent
  rw [if_neg (by omega), if_pos h]
theorem xent_ref {cA : Nat → ClassId} {ad : Nat × Nat → Nat} {q : Nat × Nat} {f : Nat → Int} (h : xaty q.1 = 5 ∨ xaty q.1 = 6) : xent cA ad q f = .inl (cA (xaty q.1), xalen q.1, .inr (.inr (.inr (.inr (fun j => some (ad (xar q.1 q.2 j))))))) := by
  unfold xent
  rw [if_neg (by omega), if_neg (by omega), if_pos h]
theorem xent_any {cA : Nat → ClassId} {ad : Nat × Nat → Nat} {q : Nat × Nat} {f : Nat → Int} (h : ¬ xaty q.1 = 9) : ∃ x : vp_A, x.1 = xalen q.1 ∧ xent cA ad q f = .inl (cA (xaty q.1), x) := by
  unfold xent
  rw [if_neg h]
  exact ⟨_, rfl, rfl⟩
theorem xent_obj {cA : Nat → ClassId} {ad : Nat × Nat → Nat} {q : Nat × Nat} {f : Nat → Int} (h : xaty q.1 = 9) : xent cA ad q f = .inr (q.1, (List.range (xcl q.1).2.2).map (xfv ad q f)) := by
  unfold xent
  rw [if_pos h]
theorem xfv_set {ad : Nat × Nat → Nat} {q : Nat × Nat} {f : Nat → Int} {n y : Nat} {a : Int} (hy : y < n) : ((List.range n).map (xfv ad q f)).set y (xfv ad q (fun j => if j = y then a else f j) y) = (List.range n).map (xfv ad q (fun j => if j = y then a else f j)) := by
  apply List.ext_getElem?
  intro k
  rw [List.getElem?_set]
  by_cases hk : y = k
  · subst hk
    rw [if_pos rfl, if_pos (by simpa using hy), List.getElem?_map, List.getElem?_range hy]
    rfl
  · rw [if_neg hk, List.getElem?_map, List.getElem?_map]
    cases hr : (List.range n)[k]? with
    | none => rfl
    | some x =>
      have hx : x = k := by
        have hl : k < (List.range n).length := (List.getElem?_eq_some_iff.mp hr).1
        rw [List.getElem?_range (by simpa using hl)] at hr
        exact (Option.some.inj hr).symm
      subst hx
      show some _ = some _
      unfold xfv
      dsimp only
      have e0 : (if x = y then a else f x) = f x := if_neg (fun z => hk z.symm)
      simp only [e0]
theorem xfv_get {ad : Nat × Nat → Nat} {q : Nat × Nat} {f : Nat → Int} {n y : Nat} (hy : y < n) : ((List.range n).map (xfv ad q f))[y]? = some (xfv ad q f y) := by
  rw [List.getElem?_map, List.getElem?_range hy]
  rfl
end
section
/-! the machine follows the abstract machine: one instruction -/
def xisN : Jvm.Cond → Bool
  | .fieldLinkNest .. => true
  | .methodLinkNest .. => true
  | _ => false
noncomputable def xnw : List Jvm.Cond := lw_tbl.filter xisN
def xmvb : List Int32 := [110, 115, 119, 101, 117, 118, 120, 121, 122, 88, 89, 90]
/-- the text of the moves, and what String's own methods ask -/
def xstr (ad : Nat × Nat → Nat) (A : Nat → Prop) (U : State) (H : Heap) : Prop :=
  vk_R "SofaStair$Pad" 27 "nsweuvxyzXYZ" (ad (99, 0)) U ∧ vk_R "SofaStair$Search" 142 "nsweuvxyzXYZ" (ad (99, 1)) U ∧
  (∃ adV : Nat → Nat, vk_S 1 [12] [xmvb] (fun _ => ad (99, 0)) adV A U H) ∧ ad (99, 1) = ad (99, 0) ∧
  va_Z "java/lang/String" "COMPACT_STRINGS" "Z" (.int 1) A U H ∧ va_Zq "jdk/internal/util/Preconditions" "SIOOBE_FORMATTER" "Ljava/util/function/BiFunction;" A U H
theorem xlk_mem {pc : Nat} {e : xa_I} : ∀ {l : List (Nat × xa_I)}, xlk pc l = some e → (pc, e) ∈ l := by
  intro l
  induction l with
  | nil => intro h; cases h
  | cons q r ih =>
    intro h
    unfold xlk at h
    cases hq : Nat.beq q.1 pc with
    | true =>
      rw [hq] at h
      have e1 : q.2 = e := Option.some.inj h
      have e2 : q.1 = pc := Nat.eq_of_beq_eq_true hq
      rw [← e1, ← e2]
      exact List.mem_cons_self
    | false =>
      rw [hq] at h
      exact List.mem_cons_of_mem _ (ih h)
def xln : Instr → Nat
  | .iconst _ => 1
  | .bipush _ => 2
  | .sipush _ => 3
  | .lconst _ => 1
  | .ldc _ => 2
  | .ldc2_w _ => 3
  | .iload _ => 2
  | .iload_n _ => 1
  | .lload _ => 2
  | .lload_n _ => 1
  | .aload _ => 2
  | .aload_n _ => 1
  | .istore _ => 2
  | .istore_n _ => 1
  | .lstore _ => 2
  | .lstore_n _ => 1
  | .astore _ => 2
  | .astore_n _ => 1
  | .iinc _ _ => 3
  | .if_icmp _ _ => 3
  | .ifCond _ _ => 3
  | .ifnull _ => 3
  | .ifnonnull _ => 3
  | .if_acmp _ _ => 3
  | .goto _ => 3
  | .getfield _ => 3
  | .putfield _ => 3
  | .invokevirtual _ => 3
  | .invokestatic _ => 3
  | .tableswitch _ _ _ _ => 0
  | _ => 1
noncomputable def xck2 (q : Nat × xa_I) : Bool := Nat.beq (xln q.2.1) 0 || Nat.beq q.2.2.1 (xln q.2.1) || (match q.2.1 with | .new _ => true | .newarray _ => true | .anewarray _ => true | .invokespecial _ => true | _ => false)
set_option maxRecDepth 100000 in
theorem xck2_a : ∀ j, j < 137 → (xcode j).all xck2 = true := by decide +kernel
set_option maxRecDepth 100000 in
theorem xck2_b : ∀ j, j < 72 → (xcode (200 + j)).all xck2 = true := by decide +kernel
set_option maxRecDepth 100000 in
theorem xcode_no : ∀ j, j < 63 → (xcode (137 + j)).isEmpty = true := by decide +kernel
theorem xcode_out {k : Nat} (h : (137 ≤ k ∧ k < 200) ∨ 272 ≤ k) : xcode k = [] := by
  rcases h with h | h
  · have := xcode_no (k - 137) (by omega)
    rw [show 137 + (k - 137) = k by omega] at this
    exact List.isEmpty_iff.mp this
  · unfold xcode
    have h1 : Nat.ble 200 k = true := Nat.ble_eq.mpr (by omega)
    rw [h1, cond_true]
    rw [List.getD_eq_getElem?_getD, List.getElem?_eq_none (show xcl1.length ≤ k - 200 from (by have : xcl1.length = 72 := rfl; omega))]
    rfl
theorem xck_all (k : Nat) : (xcode k).all (xck k) = true ∧ (xcode k).all xck2 = true := by
  by_cases hout : (137 ≤ k ∧ k < 200) ∨ 272 ≤ k
  · rw [xcode_out hout]; exact ⟨rfl, rfl⟩
  refine ⟨?_, ?_⟩
  · by_cases h1 : k < 30
    · have := xck_0 k h1; rwa [Nat.zero_add] at this
    by_cases h2 : k < 60
    · have := xck_30 (k - 30) (by omega); rwa [show 30 + (k - 30) = k by omega] at this
    by_cases h3 : k < 90
    · have := xck_60 (k - 60) (by omega); rwa [show 60 + (k - 60) = k by omega] at this
    by_cases h4 : k < 115
    · have := xck_90 (k - 90) (by omega); rwa [show 90 + (k - 90) = k by omega] at this
    by_cases h5 : k < 137
    · have := xck_115 (k - 115) (by omega); rwa [show 115 + (k - 115) = k by omega] at this
    by_cases h6 : k < 215
    · have := xck_200 (k - 200) (by omega); rwa [show 200 + (k - 200) = k by omega] at this
    by_cases h7 : k < 230
    · have := xck_215 (k - 215) (by omega); rwa [show 215 + (k - 215) = k by omega] at this
    by_cases h8 : k < 245
    · have := xck_230 (k - 230) (by omega); rwa [show 230 + (k - 230) = k by omega] at this
    by_cases h9 : k < 260
    · have := xck_245 (k - 245) (by omega); rwa [show 245 + (k - 245) = k by omega] at this
    · have := xck_260 (k - 260) (by omega); rwa [show 260 + (k - 260) = k by omega] at this
  · by_cases h1 : k < 137
    · exact xck2_a k h1
    · have := xck2_b (k - 200) (by omega); rwa [show 200 + (k - 200) = k by omega] at this
theorem xdec {k pc : Nat} {e : xa_I} (h : xcd k pc = some e) : decode (xmB k) pc = .ok (e.1, e.2.1) ∧ xck_i k pc e = true ∧ xck2 (pc, e) = true := by
  have hm := xlk_mem h
  have h1 := List.all_eq_true.mp (xck_all k).1 _ hm
  have h2 := List.all_eq_true.mp (xck_all k).2 _ hm
  unfold xck at h1
  rw [Bool.and_eq_true, decide_eq_true_eq] at h1
  exact ⟨h1.1, h1.2, h2⟩
theorem xget_mem {i : Nat} {v : xa_V} : ∀ {L : xa_L}, xget L i = some v → (i, v) ∈ L := by
  intro L
  induction L with
  | nil => intro h; cases h
  | cons q r ih =>
    intro h
    unfold xget at h
    cases hq : Nat.beq q.1 i with
    | true =>
      rw [hq] at h
      have e1 : q.2 = v := Option.some.inj h
      have e2 : q.1 = i := Nat.eq_of_beq_eq_true hq
      rw [← e1, ← e2]
      exact List.mem_cons_self
    | false =>
      rw [hq] at h
      exact List.mem_cons_of_mem _ (ih h)
theorem xcv_cat {ad : Nat × Nat → Nat} (v : xa_V) : ((xcv ad v).category == 2) = xlong v := by
  rcases v with a | a | _ | q <;> rfl
theorem xset_map {ad : Nat × Nat → Nat} (L : xa_L) (i : Nat) (v : xa_V) : (xset L i v).map (fun q => (q.1, xcv ad q.2)) = (i, xcv ad v) :: (L.map (fun q => (q.1, xcv ad q.2))).filter (fun q => !(q.1 == i) && !(q.1 + 1 == i && q.2.category == 2)) := by
  unfold xset
  rw [List.map_cons, List.filter_map]
  congr 2
  apply List.filter_congr
  intro q _
  show _ = (!(q.1 == i) && !(q.1 + 1 == i && (xcv ad q.2).category == 2))
  rw [xcv_cat]
theorem xsetl_map {ad : Nat × Nat → Nat} (L : xa_L) (i : Nat) (v : xa_V) : (xsetl L i v).map (fun q => (q.1, xcv ad q.2)) = (i, xcv ad v) :: (L.map (fun q => (q.1, xcv ad q.2))).filter (fun q => !(q.1 == i) && (!(q.1 == i + 1) && !(q.1 + 1 == i && q.2.category == 2))) := by
  unfold xsetl
  rw [List.map_cons, List.filter_map]
  congr 2
  apply List.filter_congr
  intro q _
  show _ = (!(q.1 == i) && (!(q.1 == i + 1) && !(q.1 + 1 == i && (xcv ad q.2).category == 2)))
  rw [xcv_cat]
theorem xset_ok {ids : List (Nat × Nat)} {L : xa_L} {i : Nat} {v : xa_V} (h : ∀ q ∈ L, xok ids q.2) (hv : xok ids v) : ∀ q ∈ xset L i v, xok ids q.2 := by
  intro q hq
  rcases List.mem_cons.mp hq with rfl | hq
  · exact hv
  · exact h q (List.mem_filter.mp hq).1
theorem xsetl_ok {ids : List (Nat × Nat)} {L : xa_L} {i : Nat} {v : xa_V} (h : ∀ q ∈ L, xok ids q.2) (hv : xok ids v) : ∀ q ∈ xsetl L i v, xok ids q.2 := by
  intro q hq
  rcases List.mem_cons.mp hq with rfl | hq
  · exact hv
  · exact h q (List.mem_filter.mp hq).1
section XSIM
variable {p : Program} {l : Launch} {e : Env} {R : Room} {s : State} {m : MethodId} {args : Array Value} {below : List Frame} {meth : Method} {c : Code} {H : Heap} {locs : List Loc} {ls : Array Slot} {Q : State → Prop}
variable {D : va_G} {cA : Nat → ClassId} {tyl : List Nat} {ids : List (Nat × Nat)} {ad : Nat × Nat → Nat} {A : Nat → Prop} {k pc nL : Nat} {L L' : xa_L} {S S' : List xa_V} {σ σ' : xa_H} {q : xa_C}
def xcx (D : va_G) (cA : Nat → ClassId) (tyl : List Nat) (ids : List (Nat × Nat)) (ad : Nat × Nat → Nat) (A : Nat → Prop) (p : Program) (R : Room) (s : State) (m : MethodId) (args : Array Value) (meth : Method) (c : Code) (k : Nat) : Prop :=
  (p.tables.exec = Jvm.exec ∧ c.code = xmB k ∧ c.maxLocals = xmL k ∧ s.vm.findClass (xmO k) = some m.cls) ∧ (∀ w ∈ xw, w.before args s = true) ∧ (va_K D vwCl (xtys cA tyl) s ∧ (∀ w ∈ xnw, va_Nw w s) ∧ xstr ad A s s.heap) ∧ xids ids tyl ∧ (meth.sig.returnType = xmR k ∧ meth.locks = false) ∧ xmF k ≤ R.frames ∧ xmW k ≤ R.locals
def xdy (D : va_G) (cA : Nat → ClassId) (ids : List (Nat × Nat)) (ad : Nat × Nat → Nat) (A : Nat → Prop) (s : State) (H : Heap) (locs : List Loc) (ls : Array Slot) (nL : Nat) (L : xa_L) (S : List xa_V) (σ : xa_H) : Prop :=
  (va_P D vwCl (xwl cA ids ad σ) H ∧ va_D A (xwl cA ids ad σ) ∧ va_S A s.heap H locs) ∧ xhok ids σ ∧ (∀ q ∈ L, xok ids q.2) ∧ (∀ v ∈ S, xok ids v) ∧ lv_has ls nL (L.map fun q => (q.1, xcv ad q.2))
theorem xdy_st (Y : xdy D cA ids ad A s H locs ls nL L S σ) (h : ∀ v ∈ S', xok ids v) : xdy D cA ids ad A s H locs ls nL L S' σ := ⟨Y.1, Y.2.1, Y.2.2.1, h, Y.2.2.2.2⟩
theorem xdy_push {v : xa_V} (Y : xdy D cA ids ad A s H locs ls nL L S σ) (hs : ∀ w ∈ S', w ∈ S) (h : xok ids v) : xdy D cA ids ad A s H locs ls nL L (v :: S') σ := xdy_st Y (fun w hw => by
  rcases List.mem_cons.mp hw with rfl | hw
  · exact h
  · exact Y.2.2.2.1 w (hs w hw))
theorem xdy_pop (Y : xdy D cA ids ad A s H locs ls nL L S σ) (hs : ∀ w ∈ S', w ∈ S) : xdy D cA ids ad A s H locs ls nL L S' σ := xdy_st Y (fun w hw => Y.2.2.2.1 w (hs w hw))
theorem xdy_at {i : Nat} {v : xa_V} (Y : xdy D cA ids ad A s H locs ls nL L S σ) (h : xget L i = some v) : ls[i]? = some (.val (xcv ad v)) ∧ xok ids v := by
  have hm := xget_mem h
  exact ⟨Y.2.2.2.2.2.2 (i, xcv ad v) (List.mem_map.mpr ⟨(i, v), hm, rfl⟩), Y.2.2.1 _ hm⟩
theorem xdy_set {i : Nat} {v : xa_V} {ls' : Array Slot} (Y : xdy D cA ids ad A s H locs ls nL L S σ) (hv : xok ids v) (hs : ∀ w ∈ S', w ∈ S) (hl : lv_has ls' nL ((i, xcv ad v) :: (L.map (fun q => (q.1, xcv ad q.2))).filter (fun q => !(q.1 == i) && !(q.1 + 1 == i && q.2.category == 2)))) : xdy D cA ids ad A s H locs ls' nL (xset L i v) S' σ :=
  ⟨Y.1, Y.2.1, xset_ok Y.2.2.1 hv, fun w hw => Y.2.2.2.1 w (hs w hw), by rw [xset_map]; exact hl⟩
theorem xdy_setl {i : Nat} {v : xa_V} {ls' : Array Slot} (Y : xdy D cA ids ad A s H locs ls nL L S σ) (hv : xok ids v) (hs : ∀ w ∈ S', w ∈ S) (hl : lv_has ls' nL ((i, xcv ad v) :: (L.map (fun q => (q.1, xcv ad q.2))).filter (fun q => !(q.1 == i) && (!(q.1 == i + 1) && !(q.1 + 1 == i && q.2.category == 2))))) : xdy D cA ids ad A s H locs ls' nL (xsetl L i v) S' σ :=
  ⟨Y.1, Y.2.1, xsetl_ok Y.2.2.1 hv, fun w hw => Y.2.2.2.1 w (hs w hw), by rw [xsetl_map]; exact hl⟩
/-- a binary operation on ints -/
theorem xsg_b {f : Int → Int → Int} {g : Int32 → Int32 → Int32} (hf : ∀ a b, xr32 a → xr32 b → Int32.ofInt (f a b) = g (Int32.ofInt a) (Int32.ofInt b) ∧ xr32 (f a b))
    (hrow : ∀ (a b : Int32) (rest : List Value), W p l e R s m args below meth c H locs 0 0 Q (F0 m (pc + 1) ls (.int (g a b) :: rest)) → W p l e R s m args below meth c H locs 0 0 Q (F0 m pc ls (.int b :: .int a :: rest)))
    (Y : xdy D cA ids ad A s H locs ls nL L S σ) (hst : xs_b f pc L S σ = some q)
    (kk : ∀ H' locs' ls', xdy D cA ids ad A s H' locs' ls' nL q.2.1 q.2.2.1 q.2.2.2 → W p l e R s m args below meth c H' locs' 0 0 Q (F0 m q.1 ls' (q.2.2.1.map (xcv ad)))) : W p l e R s m args below meth c H locs 0 0 Q (F0 m pc ls (S.map (xcv ad))) := by
  match S, Y, hst with
  | .inl b :: .inl a :: S', Y, hst =>
    cases hst
    have ha : xr32 a := Y.2.2.2.1 (.inl a) (by simp)
    have hb : xr32 b := Y.2.2.2.1 (.inl b) (by simp)
    obtain ⟨h1, h2⟩ := hf a b ha hb
    refine hrow (Int32.ofInt a) (Int32.ofInt b) _ ?_
    rw [← h1]
    exact kk H locs ls (xdy_push Y (fun w hw => by simp [hw]) h2)
  | [], _, hst => cases hst
  | [_], _, hst => simp [xs_b] at hst
  | .inr _ :: _ :: _, _, hst => simp [xs_b] at hst
  | .inl _ :: .inr _ :: _, _, hst => simp [xs_b] at hst
theorem xsg_d {f : Int → Int → Int} {g : Int32 → Int32 → Int32} (hf : ∀ a b, xr32 a → xr32 b → 0 < b → Int32.ofInt (f a b) = g (Int32.ofInt a) (Int32.ofInt b) ∧ xr32 (f a b))
    (hrow : ∀ (a b : Int32) (rest : List Value), ¬ b = 0 → W p l e R s m args below meth c H locs 0 0 Q (F0 m (pc + 1) ls (.int (g a b) :: rest)) → W p l e R s m args below meth c H locs 0 0 Q (F0 m pc ls (.int b :: .int a :: rest)))
    (Y : xdy D cA ids ad A s H locs ls nL L S σ) (hst : xs_d f pc L S σ = some q)
    (kk : ∀ H' locs' ls', xdy D cA ids ad A s H' locs' ls' nL q.2.1 q.2.2.1 q.2.2.2 → W p l e R s m args below meth c H' locs' 0 0 Q (F0 m q.1 ls' (q.2.2.1.map (xcv ad)))) : W p l e R s m args below meth c H locs 0 0 Q (F0 m pc ls (S.map (xcv ad))) := by
  match S, Y, hst with
  | .inl b :: .inl a :: S', Y, hst =>
    have hst : (if 0 < b then some (pc + 1, L, (.inl (f a b) : xa_V) :: S', σ) else none) = some q := hst
    by_cases hpos : 0 < b
    · rw [if_pos hpos] at hst
      cases hst
      have ha : xr32 a := Y.2.2.2.1 (.inl a) (by simp)
      have hb : xr32 b := Y.2.2.2.1 (.inl b) (by simp)
      obtain ⟨h1, h2⟩ := hf a b ha hb hpos
      refine hrow (Int32.ofInt a) (Int32.ofInt b) _ (xne0 hb hpos) ?_
      rw [← h1]
      exact kk H locs ls (xdy_push Y (fun w hw => by simp [hw]) h2)
    · rw [if_neg hpos] at hst
      cases hst
  | [], _, hst => cases hst
  | [_], _, hst => simp [xs_d] at hst
  | .inr _ :: _ :: _, _, hst => simp [xs_d] at hst
  | .inl _ :: .inr _ :: _, _, hst => simp [xs_d] at hst
theorem xsg_bl {f : Int → Int → Int} {g : Int64 → Int64 → Int64} (hf : ∀ a b, xr64 a → xr64 b → Int64.ofInt (f a b) = g (Int64.ofInt a) (Int64.ofInt b) ∧ xr64 (f a b))
    (hrow : ∀ (a b : Int64) (rest : List Value), W p l e R s m args below meth c H locs 0 0 Q (F0 m (pc + 1) ls (.long (g a b) :: rest)) → W p l e R s m args below meth c H locs 0 0 Q (F0 m pc ls (.long b :: .long a :: rest)))
    (Y : xdy D cA ids ad A s H locs ls nL L S σ) (hst : xs_bl f pc L S σ = some q)
    (kk : ∀ H' locs' ls', xdy D cA ids ad A s H' locs' ls' nL q.2.1 q.2.2.1 q.2.2.2 → W p l e R s m args below meth c H' locs' 0 0 Q (F0 m q.1 ls' (q.2.2.1.map (xcv ad)))) : W p l e R s m args below meth c H locs 0 0 Q (F0 m pc ls (S.map (xcv ad))) := by
  match S, Y, hst with
  | .inr (.inl b) :: .inr (.inl a) :: S', Y, hst =>
    cases hst
    have ha : xr64 a := Y.2.2.2.1 (.inr (.inl a)) (by simp)
    have hb : xr64 b := Y.2.2.2.1 (.inr (.inl b)) (by simp)
    obtain ⟨h1, h2⟩ := hf a b ha hb
    refine hrow (Int64.ofInt a) (Int64.ofInt b) _ ?_
    rw [← h1]
    exact kk H locs ls (xdy_push Y (fun w hw => by simp [hw]) h2)
  | [], _, hst => cases hst
  | [_], _, hst => simp [xs_bl] at hst
  | .inl _ :: _ :: _, _, hst => simp [xs_bl] at hst
  | .inr (.inr _) :: _ :: _, _, hst => simp [xs_bl] at hst
  | .inr (.inl _) :: .inl _ :: _, _, hst => simp [xs_bl] at hst
  | .inr (.inl _) :: .inr (.inr _) :: _, _, hst => simp [xs_bl] at hst
/-- a constant -/
theorem xsg_c {v : xa_V} {n : Nat} (hv : xok ids v) (hrow : W p l e R s m args below meth c H locs 0 0 Q (F0 m (pc + n) ls (xcv ad v :: S.map (xcv ad))) → W p l e R s m args below meth c H locs 0 0 Q (F0 m pc ls (S.map (xcv ad))))
    (Y : xdy D cA ids ad A s H locs ls nL L S σ) (hst : some (pc + n, L, v :: S, σ) = some q)
    (kk : ∀ H' locs' ls', xdy D cA ids ad A s H' locs' ls' nL q.2.1 q.2.2.1 q.2.2.2 → W p l e R s m args below meth c H' locs' 0 0 Q (F0 m q.1 ls' (q.2.2.1.map (xcv ad)))) : W p l e R s m args below meth c H locs 0 0 Q (F0 m pc ls (S.map (xcv ad))) := by
  cases hst
  exact hrow (kk H locs ls (xdy_push Y (fun w hw => hw) hv))
end XSIM
end
section
/-! the machine follows the abstract machine: loads, stores, fields, rows, branches -/
section XSIM2
variable {p : Program} {l : Launch} {e : Env} {R : Room} {s : State} {m : MethodId} {args : Array Value} {below : List Frame} {meth : Method} {c : Code} {H : Heap} {locs : List Loc} {ls : Array Slot} {Q : State → Prop}
variable {D : va_G} {cA : Nat → ClassId} {tyl : List Nat} {ids : List (Nat × Nat)} {ad : Nat × Nat → Nat} {A : Nat → Prop} {k pc nL i n : Nat} {L L' : xa_L} {S S' : List xa_V} {σ σ' : xa_H} {q : xa_C}
theorem xno {α : Type} {q : α} {P : Prop} (h : none = some q) : P := by cases h
theorem xsg_ldi (hrow : ∀ (x : Int32) (rest : List Value), ls[i]? = some (.val (.int x)) → W p l e R s m args below meth c H locs 0 0 Q (F0 m (pc + n) ls (.int x :: rest)) → W p l e R s m args below meth c H locs 0 0 Q (F0 m pc ls rest))
    (Y : xdy D cA ids ad A s H locs ls nL L S σ) (hst : xs_ld i n pc L S σ 0 = some q)
    (kk : ∀ H' locs' ls', xdy D cA ids ad A s H' locs' ls' nL q.2.1 q.2.2.1 q.2.2.2 → W p l e R s m args below meth c H' locs' 0 0 Q (F0 m q.1 ls' (q.2.2.1.map (xcv ad)))) : W p l e R s m args below meth c H locs 0 0 Q (F0 m pc ls (S.map (xcv ad))) := by
  unfold xs_ld at hst
  cases hg : xget L i with
  | none => rw [hg] at hst; exact xno hst
  | some v =>
    rw [hg] at hst
    rcases v with a | a | r
    · have hst : some (pc + n, L, (.inl a : xa_V) :: S, σ) = some q := hst
      cases hst
      obtain ⟨h1, h2⟩ := xdy_at Y hg
      exact hrow _ _ h1 (kk H locs ls (xdy_push Y (fun w hw => hw) h2))
    · exact xno hst
    · exact xno hst
theorem xsg_ldl (hrow : ∀ (x : Int64) (rest : List Value), ls[i]? = some (.val (.long x)) → W p l e R s m args below meth c H locs 0 0 Q (F0 m (pc + n) ls (.long x :: rest)) → W p l e R s m args below meth c H locs 0 0 Q (F0 m pc ls rest))
    (Y : xdy D cA ids ad A s H locs ls nL L S σ) (hst : xs_ld i n pc L S σ 1 = some q)
    (kk : ∀ H' locs' ls', xdy D cA ids ad A s H' locs' ls' nL q.2.1 q.2.2.1 q.2.2.2 → W p l e R s m args below meth c H' locs' 0 0 Q (F0 m q.1 ls' (q.2.2.1.map (xcv ad)))) : W p l e R s m args below meth c H locs 0 0 Q (F0 m pc ls (S.map (xcv ad))) := by
  unfold xs_ld at hst
  cases hg : xget L i with
  | none => rw [hg] at hst; exact xno hst
  | some v =>
    rw [hg] at hst
    rcases v with a | a | r
    · exact xno hst
    · have hst : some (pc + n, L, (.inr (.inl a) : xa_V) :: S, σ) = some q := hst
      cases hst
      obtain ⟨h1, h2⟩ := xdy_at Y hg
      exact hrow _ _ h1 (kk H locs ls (xdy_push Y (fun w hw => hw) h2))
    · exact xno hst
theorem xsg_lda (hrow : ∀ (x : Nat) (rest : List Value), ls[i]? = some (.val (.ref x)) → W p l e R s m args below meth c H locs 0 0 Q (F0 m (pc + n) ls (.ref x :: rest)) → W p l e R s m args below meth c H locs 0 0 Q (F0 m pc ls rest))
    (hrow0 : ∀ (rest : List Value), ls[i]? = some (.val .null) → W p l e R s m args below meth c H locs 0 0 Q (F0 m (pc + n) ls (.null :: rest)) → W p l e R s m args below meth c H locs 0 0 Q (F0 m pc ls rest))
    (Y : xdy D cA ids ad A s H locs ls nL L S σ) (hst : xs_ld i n pc L S σ 2 = some q)
    (kk : ∀ H' locs' ls', xdy D cA ids ad A s H' locs' ls' nL q.2.1 q.2.2.1 q.2.2.2 → W p l e R s m args below meth c H' locs' 0 0 Q (F0 m q.1 ls' (q.2.2.1.map (xcv ad)))) : W p l e R s m args below meth c H locs 0 0 Q (F0 m pc ls (S.map (xcv ad))) := by
  unfold xs_ld at hst
  cases hg : xget L i with
  | none => rw [hg] at hst; exact xno hst
  | some v =>
    rw [hg] at hst
    rcases v with a | a | r
    · exact xno hst
    · exact xno hst
    · have hst : some (pc + n, L, (.inr (.inr r) : xa_V) :: S, σ) = some q := hst
      cases hst
      obtain ⟨h1, h2⟩ := xdy_at Y hg
      rcases r with _ | r
      · exact hrow0 _ h1 (kk H locs ls (xdy_push Y (fun w hw => hw) h2))
      · exact hrow _ _ h1 (kk H locs ls (xdy_push Y (fun w hw => hw) h2))
theorem xsg_sti (hrow : ∀ (x : Int32) (rest : List Value) (lv : List (Nat × Value)), lv_has ls nL lv → i < nL → (∀ ls' : Array Slot, lv_has ls' nL ((i, .int x) :: lv.filter (fun q => !(q.1 == i) && !(q.1 + 1 == i && q.2.category == 2))) → W p l e R s m args below meth c H locs 0 0 Q (F0 m (pc + n) ls' rest)) → W p l e R s m args below meth c H locs 0 0 Q (F0 m pc ls (.int x :: rest)))
    (Y : xdy D cA ids ad A s H locs ls nL L S σ) (hst : xs_st i n pc L S σ 0 nL = some q)
    (kk : ∀ H' locs' ls', xdy D cA ids ad A s H' locs' ls' nL q.2.1 q.2.2.1 q.2.2.2 → W p l e R s m args below meth c H' locs' 0 0 Q (F0 m q.1 ls' (q.2.2.1.map (xcv ad)))) : W p l e R s m args below meth c H locs 0 0 Q (F0 m pc ls (S.map (xcv ad))) := by
  match S, Y, hst with
  | [], _, hst => exact xno hst
  | .inl v :: S', Y, hst =>
    have hst : cond (Nat.blt i nL) (some (pc + n, xset L i (.inl v), S', σ)) none = some q := hst
    cases hb : Nat.blt i nL with
    | false => rw [hb] at hst; exact xno hst
    | true =>
      rw [hb] at hst
      cases hst
      refine hrow _ _ _ Y.2.2.2.2 (Nat.blt_eq.mp hb) (fun ls' hl => kk H locs ls' (xdy_set Y ?_ (fun w hw => by simp [hw]) hl))
      exact Y.2.2.2.1 (.inl v) (by simp)
  | .inr (.inl v) :: S', Y, hst => exact xno hst
  | .inr (.inr v) :: S', Y, hst => exact xno hst
theorem xsg_stl (hrow : ∀ (x : Int64) (rest : List Value) (lv : List (Nat × Value)), lv_has ls nL lv → i + 1 < nL → (∀ ls' : Array Slot, lv_has ls' nL ((i, .long x) :: lv.filter (fun q => !(q.1 == i) && (!(q.1 == i + 1) && !(q.1 + 1 == i && q.2.category == 2)))) → W p l e R s m args below meth c H locs 0 0 Q (F0 m (pc + n) ls' rest)) → W p l e R s m args below meth c H locs 0 0 Q (F0 m pc ls (.long x :: rest)))
    (Y : xdy D cA ids ad A s H locs ls nL L S σ) (hst : xs_st i n pc L S σ 1 nL = some q)
    (kk : ∀ H' locs' ls', xdy D cA ids ad A s H' locs' ls' nL q.2.1 q.2.2.1 q.2.2.2 → W p l e R s m args below meth c H' locs' 0 0 Q (F0 m q.1 ls' (q.2.2.1.map (xcv ad)))) : W p l e R s m args below meth c H locs 0 0 Q (F0 m pc ls (S.map (xcv ad))) := by
  match S, Y, hst with
  | [], _, hst => exact xno hst
  | .inr (.inl v) :: S', Y, hst =>
    have hst : cond (Nat.blt (i + 1) nL) (some (pc + n, xsetl L i (.inr (.inl v)), S', σ)) none = some q := hst
    cases hb : Nat.blt (i + 1) nL with
    | false => rw [hb] at hst; exact xno hst
    | true =>
      rw [hb] at hst
      cases hst
      refine hrow _ _ _ Y.2.2.2.2 (Nat.blt_eq.mp hb) (fun ls' hl => kk H locs ls' (xdy_setl Y ?_ (fun w hw => by simp [hw]) hl))
      exact Y.2.2.2.1 (.inr (.inl v)) (by simp)
  | .inl v :: S', Y, hst => exact xno hst
  | .inr (.inr v) :: S', Y, hst => exact xno hst
theorem xsg_sta (hrow : ∀ (x : Nat) (rest : List Value) (lv : List (Nat × Value)), lv_has ls nL lv → i < nL → (∀ ls' : Array Slot, lv_has ls' nL ((i, .ref x) :: lv.filter (fun q => !(q.1 == i) && !(q.1 + 1 == i && q.2.category == 2))) → W p l e R s m args below meth c H locs 0 0 Q (F0 m (pc + n) ls' rest)) → W p l e R s m args below meth c H locs 0 0 Q (F0 m pc ls (.ref x :: rest)))
    (hrow0 : ∀ (rest : List Value) (lv : List (Nat × Value)), lv_has ls nL lv → i < nL → (∀ ls' : Array Slot, lv_has ls' nL ((i, .null) :: lv.filter (fun q => !(q.1 == i) && !(q.1 + 1 == i && q.2.category == 2))) → W p l e R s m args below meth c H locs 0 0 Q (F0 m (pc + n) ls' rest)) → W p l e R s m args below meth c H locs 0 0 Q (F0 m pc ls (.null :: rest)))
    (Y : xdy D cA ids ad A s H locs ls nL L S σ) (hst : xs_st i n pc L S σ 2 nL = some q)
    (kk : ∀ H' locs' ls', xdy D cA ids ad A s H' locs' ls' nL q.2.1 q.2.2.1 q.2.2.2 → W p l e R s m args below meth c H' locs' 0 0 Q (F0 m q.1 ls' (q.2.2.1.map (xcv ad)))) : W p l e R s m args below meth c H locs 0 0 Q (F0 m pc ls (S.map (xcv ad))) := by
  match S, Y, hst with
  | [], _, hst => exact xno hst
  | .inr (.inr v) :: S', Y, hst =>
    have hst : cond (Nat.blt i nL) (some (pc + n, xset L i (.inr (.inr v)), S', σ)) none = some q := hst
    cases hb : Nat.blt i nL with
    | false => rw [hb] at hst; exact xno hst
    | true =>
      rw [hb] at hst
      cases hst
      have hv : xok ids (.inr (.inr v)) := Y.2.2.2.1 (.inr (.inr v)) (by simp)
      rcases v with _ | v
      · exact hrow0 _ _ Y.2.2.2.2 (Nat.blt_eq.mp hb) (fun ls' hl => kk H locs ls' (xdy_set Y hv (fun w hw => by simp [hw]) hl))
      · exact hrow _ _ _ Y.2.2.2.2 (Nat.blt_eq.mp hb) (fun ls' hl => kk H locs ls' (xdy_set Y hv (fun w hw => by simp [hw]) hl))
  | .inl v :: S', Y, hst => exact xno hst
  | .inr (.inl v) :: S', Y, hst => exact xno hst
/-- a branch on one int -/
theorem xsg_if {cnd : ClassFile.Cond} {off : Int} (ht : 0 ≤ (pc : Int) + off)
    (hrow : ∀ (x : Int32) (rest : List Value) (tgt : Nat), (pc : Int) + off = (tgt : Int) → (∀ b : Bool, (∀ a : Int, xr32 a → x = Int32.ofInt a → xrel cnd a 0 = b) → W p l e R s m args below meth c H locs 0 0 Q (F0 m (cond b tgt (pc + 3)) ls rest)) → W p l e R s m args below meth c H locs 0 0 Q (F0 m pc ls (.int x :: rest)))
    (Y : xdy D cA ids ad A s H locs ls nL L S σ) (hst : xstp k (.ifCond cnd off, 3, 0, 0, 0) pc L S σ = some q)
    (kk : ∀ H' locs' ls', xdy D cA ids ad A s H' locs' ls' nL q.2.1 q.2.2.1 q.2.2.2 → W p l e R s m args below meth c H' locs' 0 0 Q (F0 m q.1 ls' (q.2.2.1.map (xcv ad)))) : W p l e R s m args below meth c H locs 0 0 Q (F0 m pc ls (S.map (xcv ad))) := by
  match S, Y, hst with
  | [], _, hst => exact xno hst
  | .inr _ :: _, _, hst => exact xno hst
  | .inl a :: S', Y, hst =>
    have hst : some (cond (xrel cnd a 0) (xtgt pc off) (pc + 3), L, S', σ) = some q := hst
    cases hst
    have ha : xr32 a := Y.2.2.2.1 (.inl a) (by simp)
    refine hrow _ _ (xtgt pc off) (by unfold xtgt; omega) (fun b hb => ?_)
    rw [← hb a ha rfl]
    exact kk H locs ls (xdy_pop Y (fun w hw => by simp [hw]))
theorem xsg_icmp {cnd : ClassFile.Cond} {off : Int} (ht : 0 ≤ (pc : Int) + off)
    (hrow : ∀ (x y : Int32) (rest : List Value) (tgt : Nat), (pc : Int) + off = (tgt : Int) → (∀ b : Bool, (∀ a a' : Int, xr32 a → xr32 a' → x = Int32.ofInt a → y = Int32.ofInt a' → xrel cnd a a' = b) → W p l e R s m args below meth c H locs 0 0 Q (F0 m (cond b tgt (pc + 3)) ls rest)) → W p l e R s m args below meth c H locs 0 0 Q (F0 m pc ls (.int y :: .int x :: rest)))
    (Y : xdy D cA ids ad A s H locs ls nL L S σ) (hst : xstp k (.if_icmp cnd off, 3, 0, 0, 0) pc L S σ = some q)
    (kk : ∀ H' locs' ls', xdy D cA ids ad A s H' locs' ls' nL q.2.1 q.2.2.1 q.2.2.2 → W p l e R s m args below meth c H' locs' 0 0 Q (F0 m q.1 ls' (q.2.2.1.map (xcv ad)))) : W p l e R s m args below meth c H locs 0 0 Q (F0 m pc ls (S.map (xcv ad))) := by
  match S, Y, hst with
  | [], _, hst => exact xno hst
  | [.inl _], _, hst => exact xno hst
  | .inr _ :: _, _, hst => exact xno hst
  | .inl _ :: .inr _ :: _, _, hst => exact xno hst
  | .inl b :: .inl a :: S', Y, hst =>
    have hst : some (cond (xrel cnd a b) (xtgt pc off) (pc + 3), L, S', σ) = some q := hst
    cases hst
    have ha : xr32 a := Y.2.2.2.1 (.inl a) (by simp)
    have hb : xr32 b := Y.2.2.2.1 (.inl b) (by simp)
    refine hrow _ _ _ (xtgt pc off) (by unfold xtgt; omega) (fun d hd => ?_)
    rw [← hd a b ha hb rfl rfl]
    exact kk H locs ls (xdy_pop Y (fun w hw => by simp [hw]))
end XSIM2
end
section
/-! the machine follows the abstract machine: fields and rows -/
set_option maxRecDepth 100000 in
theorem xu_in : ∀ K, K < 10 → (u_ws (xcl K).1 (xcl K).2.1 (xcl K).2.2).all (fun w => decide (w ∈ xw)) = true := by decide +kernel
theorem xu_mem {K : Nat} (h : K < 10) : ∀ w ∈ u_ws (xcl K).1 (xcl K).2.1 (xcl K).2.2, w ∈ xw := fun w hw => of_decide_eq_true (List.all_eq_true.mp (xu_in K h) w hw)
theorem xu_own : ∀ K, K < 10 → ∀ y, y < (xcl K).2.2 → ((xcl K).2.1 y).1 = (xcl K).1 := by decide +kernel
def xuty (d : String) : FieldType := (parseFieldDescriptor d).getD .int
theorem xu_ty : ∀ K, K < 10 → ∀ y, y < (xcl K).2.2 → parseFieldDescriptor ((xcl K).2.1 y).2.2.1 = some (xuty ((xcl K).2.1 y).2.2.1) := by decide +kernel
theorem xu_nm : ∀ K, K < 10 → ∀ a, a < (xcl K).2.2 → ∀ b, b < (xcl K).2.2 → a ≠ b → ((xcl K).2.1 a).2.1 ≠ ((xcl K).2.1 b).2.1 := by decide +kernel
theorem xu_0 : ∀ K, K < 10 → ∀ y, y < (xcl K).2.2 → xfty K y = 0 → xuty ((xcl K).2.1 y).2.2.1 = .int := by decide +kernel
theorem xu_1 : ∀ K, K < 10 → ∀ y, y < (xcl K).2.2 → xfty K y = 1 → xuty ((xcl K).2.1 y).2.2.1 = .boolean := by decide +kernel
theorem xu_4 : ∀ K, K < 10 → ∀ y, y < (xcl K).2.2 → xfty K y = 4 → xuty ((xcl K).2.1 y).2.2.1 = .object "SofaStair$Thing" := by decide +kernel
theorem xaty_obj : ∀ K, K < 10 → xaty K = 9 := by decide +kernel
theorem xw_nest {i : Nat} {w : Jvm.Cond} (h : lw_tbl[i]? = some w) (g : xisN w = true) : w ∈ xnw := List.mem_filter.mpr ⟨List.mem_of_getElem? h, g⟩
theorem xfv_v {ad : Nat × Nat → Nat} {q : Nat × Nat} {f : Nat → Int} {y : Nat} {a : Int} : xfv ad q (fun j => if j = y then a else f j) y = xfv ad q (fun _ => a) y := by
  unfold xfv
  simp
section XSIM3
variable {p : Program} {l : Launch} {e : Env} {R : Room} {s : State} {m : MethodId} {args : Array Value} {below : List Frame} {meth : Method} {c : Code} {H : Heap} {locs : List Loc} {ls : Array Slot} {Q : State → Prop}
variable {D : va_G} {cA : Nat → ClassId} {tyl : List Nat} {ids : List (Nat × Nat)} {ad : Nat × Nat → Nat} {A : Nat → Prop} {k pc nL x y z ix : Nat} {L L' : xa_L} {S S' : List xa_V} {σ σ' : xa_H} {q : xa_C}
theorem xck_f_of (h : xck_f k ix x y z = true) : x < 10 ∧ y < (xcl x).2.2 ∧ (lw_tbl[z]? = some (Cond.fieldLink (xmO k) ix (xcl x).1 ((xcl x).2.1 y).2.1 ((xcl x).2.1 y).2.2.1) ∨ lw_tbl[z]? = some (Cond.fieldLinkNest (xmO k) ix (xcl x).1 ((xcl x).2.1 y).2.1 ((xcl x).2.1 y).2.2.1 "SofaStair")) := by
  unfold xck_f at h
  rw [Bool.and_eq_true, Bool.and_eq_true, Bool.or_eq_true, decide_eq_true_eq, decide_eq_true_eq] at h
  exact ⟨Nat.blt_eq.mp h.1.2, Nat.blt_eq.mp h.2, h.1.1⟩
theorem xsg_get (C : xcx D cA tyl ids ad A p R s m args meth c k) (hlk : xck_f k ix x y z = true) (hdg : decode (xmB k) pc = .ok (.getfield ix, 3))
    (Y : xdy D cA ids ad A s H locs ls nL L S σ) (hst : xs_getf x y pc L S σ = some q)
    (kk : ∀ H' locs' ls', xdy D cA ids ad A s H' locs' ls' nL q.2.1 q.2.2.1 q.2.2.2 → W p l e R s m args below meth c H' locs' 0 0 Q (F0 m q.1 ls' (q.2.2.1.map (xcv ad)))) : W p l e R s m args below meth c H locs 0 0 Q (F0 m pc ls (S.map (xcv ad))) := by
  obtain ⟨⟨hx, hb, hml, hown⟩, hts, ⟨hK, hN, -⟩, hI, -, -, -⟩ := C
  obtain ⟨hx10, hy, hlw⟩ := xck_f_of hlk
  match S, Y, hst with
  | [], _, hst => exact xno hst
  | .inl _ :: _, _, hst => exact xno hst
  | .inr (.inl _) :: _, _, hst => exact xno hst
  | .inr (.inr none) :: _, _, hst => exact xno hst
  | .inr (.inr (some (K, i))) :: S', Y, hst =>
    unfold xs_getf at hst
    cases hKx : Nat.beq K x with
    | false => simp only [hKx, cond_false] at hst; exact xno hst
    | true =>
      have hKe : K = x := Nat.eq_of_beq_eq_true hKx
      subst hKe
      simp only [hKx, cond_true] at hst
      have hq : (K, i) ∈ ids := by
        rcases Y.2.2.2.1 (.inr (.inr (some (K, i)))) (by simp) with h | h
        · exact h
        · have : K = 99 := h; omega
      obtain ⟨n, hn, he⟩ := xwl_get (cA := cA) (ad := ad) (σ := σ) hq
      have h9 := xaty_obj K hx10
      rw [xent_obj (q := (K, i)) h9] at he
      have core : ∀ v : Value, v = xfv ad (K, i) (σ K i) y → W p l e R s m args below meth c H locs 0 0 Q (F0 m (pc + 3) ls (v :: S'.map (xcv ad))) → W p l e R s m args below meth c H locs 0 0 Q (F0 m pc ls (.ref (ad (K, i)) :: S'.map (xcv ad))) := by
        intro v hv kk
        subst hv
        rcases hlw with hlw | hlw
        · exact va_get (D := D) (ci := K) (C := (xcl K).1) (T := (xcl K).2.1) (N := (xcl K).2.2) (own := xmO k) (ref := (xcl K).1) hx hb hts (xu_mem hx10) hown hK Y.1.1 n he (xcl_at K hx10) y hy (hts _ (xw_in hlw rfl)) (fun x h => by rw [xu_own K hx10 y hy] at h; exact h) (xfv_get hy) hdg kk
        · exact va_getN (D := D) (ci := K) (C := (xcl K).1) (T := (xcl K).2.1) (N := (xcl K).2.2) (own := xmO k) (ref := (xcl K).1) (host := "SofaStair") hx hb hts (xu_mem hx10) hown hK Y.1.1 n he (xcl_at K hx10) y hy (va_Nw.use rfl (hN _ (xw_nest hlw rfl))) (fun x h => by rw [xu_own K hx10 y hy] at h; exact h) (xfv_get hy) hdg kk
      have hok := Y.2.1 _ hq y
      split at hst
      · rename_i h0
        cases hst
        exact core _ (by unfold xfv; rw [if_neg (by show ¬ xfty K y = 3; omega), if_neg (by show ¬ xfty K y = 4; omega)]; rfl) (kk H locs ls (xdy_push (v := .inl (σ K i y)) Y (fun w hw => by simp [hw]) ((hok.1 h9).1 (Or.inl h0))))
      · rename_i h0
        cases hst
        exact core _ (by unfold xfv; rw [if_neg (by show ¬ xfty K y = 3; omega), if_neg (by show ¬ xfty K y = 4; omega)]; rfl) (kk H locs ls (xdy_push (v := .inl (σ K i y)) Y (fun w hw => by simp [hw]) ((hok.1 h9).1 (Or.inr h0))))
      · rename_i h0
        cases hst
        exact core _ (by unfold xfv; rw [if_pos (show xfty K y = 3 from h0)]; rfl) (kk H locs ls (xdy_push (v := .inr (.inr (some (xsr K i y)))) Y (fun w hw => by simp [hw]) (Or.inl (hI.2.2.1 (K, i) hq y h0))))
      · rename_i h0
        cases hst
        have h4 := (hok.1 h9).2 h0
        by_cases hneg : σ K i y < 0
        · refine core .null (by unfold xfv; rw [if_neg (by show ¬ xfty K y = 3; omega), if_pos (show xfty K y = 4 from h0), if_pos hneg]) ?_
          have := kk H locs ls (xdy_push (v := .inr (.inr (if σ K i y < 0 then none else some (5, (σ K i y).toNat)))) Y (fun w hw => by simp [hw]) (by rw [if_pos hneg]; trivial))
          simp only [if_pos hneg] at this
          exact this
        · refine core (.ref (ad (5, (σ K i y).toNat))) (by unfold xfv; rw [if_neg (by show ¬ xfty K y = 3; omega), if_pos (show xfty K y = 4 from h0), if_neg hneg]) ?_
          have := kk H locs ls (xdy_push (v := .inr (.inr (if σ K i y < 0 then none else some (5, (σ K i y).toNat)))) Y (fun w hw => by simp [hw]) (by rw [if_neg hneg]; exact Or.inl (h4.resolve_left hneg)))
          simp only [if_neg hneg] at this
          exact this
      · exact xno hst
theorem xsg_put (C : xcx D cA tyl ids ad A p R s m args meth c k) (hlk : xck_f k ix x y z = true) (hfin : ((xcl x).2.1 y).2.2.2 = false) (hdg : decode (xmB k) pc = .ok (.putfield ix, 3))
    (Y : xdy D cA ids ad A s H locs ls nL L S σ) (hst : xs_putf k x y pc L S σ = some q)
    (kk : ∀ H' locs' ls', xdy D cA ids ad A s H' locs' ls' nL q.2.1 q.2.2.1 q.2.2.2 → W p l e R s m args below meth c H' locs' 0 0 Q (F0 m q.1 ls' (q.2.2.1.map (xcv ad)))) : W p l e R s m args below meth c H locs 0 0 Q (F0 m pc ls (S.map (xcv ad))) := by
  obtain ⟨⟨hx, hb, hml, hown⟩, hts, ⟨hK, hN, -⟩, hI, -, -, -⟩ := C
  obtain ⟨hx10, hy, hlw⟩ := xck_f_of hlk
  match S, Y, hst with
  | [], _, hst => exact xno hst
  | [_], _, hst => exact xno hst
  | _ :: .inl _ :: _, _, hst => exact xno hst
  | _ :: .inr (.inl _) :: _, _, hst => exact xno hst
  | _ :: .inr (.inr none) :: _, _, hst => exact xno hst
  | v :: .inr (.inr (some (K, i))) :: S', Y, hst =>
    unfold xs_putf at hst
    cases hKx : Nat.beq K x && Nat.beq (xkg K) (xmg k) with
    | false => simp only [hKx, cond_false] at hst; exact xno hst
    | true =>
      have hKe : K = x := Nat.eq_of_beq_eq_true (Bool.and_eq_true _ _ ▸ hKx).1
      subst hKe
      simp only [hKx, cond_true] at hst
      have hq : (K, i) ∈ ids := by
        rcases Y.2.2.2.1 (.inr (.inr (some (K, i)))) (by simp) with h | h
        · exact h
        · have : K = 99 := h; omega
      obtain ⟨n, hn, he⟩ := xwl_get (cA := cA) (ad := ad) (σ := σ) hq
      have h9 := xaty_obj K hx10
      have he' := he
      rw [xent_obj (q := (K, i)) h9] at he
      have core : ∀ (a : Int) (w : Value), w = xfv ad (K, i) (fun j => if j = y then a else σ K i j) y → narrow (xuty ((xcl K).2.1 y).2.2.1) w = w → fits (xuty ((xcl K).2.1 y).2.2.1) w = true → xhok ids (xup σ K i y a) →
          (∀ H' locs' ls', xdy D cA ids ad A s H' locs' ls' nL L S' (xup σ K i y a) → W p l e R s m args below meth c H' locs' 0 0 Q (F0 m (pc + 3) ls' (S'.map (xcv ad)))) →
          W p l e R s m args below meth c H locs 0 0 Q (F0 m pc ls (w :: .ref (ad (K, i)) :: S'.map (xcv ad))) := by
        intro a w hw hna hfi hho kk
        subst hw
        have fin : ∀ (H1 : Heap) (locs1 : List Loc), va_P D vwCl ((xwl cA ids ad σ).set n (ad (K, i), .inr (K, ((List.range (xcl K).2.2).map (xfv ad (K, i) (σ K i))).set y (xfv ad (K, i) (fun j => if j = y then a else σ K i j) y)))) H1 → va_D A ((xwl cA ids ad σ).set n (ad (K, i), .inr (K, ((List.range (xcl K).2.2).map (xfv ad (K, i) (σ K i))).set y (xfv ad (K, i) (fun j => if j = y then a else σ K i j) y)))) → va_S A s.heap H1 locs1 → W p l e R s m args below meth c H1 locs1 0 0 Q (F0 m (pc + 3) ls (S'.map (xcv ad))) := by
          intro H1 locs1 hP hD hS
          have e1 : (ad (K, i), (.inr (K, ((List.range (xcl K).2.2).map (xfv ad (K, i) (σ K i))).set y (xfv ad (K, i) (fun j => if j = y then a else σ K i j) y)) : va_E)) = (ad (K, i), xent cA ad (K, i) (xup σ K i y a K i)) := by
            rw [xent_obj (q := (K, i)) h9, xup_eq, xfv_set hy]
          rw [e1, xwl_set hI.1 hn] at hP hD
          exact kk H1 locs1 ls ⟨⟨hP, hD, hS⟩, hho, Y.2.2.1, fun w hw => Y.2.2.2.1 w (by simp [hw]), Y.2.2.2.2⟩
        rcases hlw with hlw | hlw
        · exact va_put (D := D) (ci := K) (C := (xcl K).1) (T := (xcl K).2.1) (N := (xcl K).2.2) (own := xmO k) (ref := (xcl K).1) hx hb hts (xu_mem hx10) _ (xu_ty K hx10) (xu_nm K hx10) hown hK Y.1.1 Y.1.2.1 Y.1.2.2 n he (xcl_at K hx10) y hy (hts _ (xw_in hlw rfl)) (fun x h => by rw [xu_own K hx10 y hy] at h; exact h) hfin (xu_ty K hx10 y hy) hna hfi (by simpa using hy) hdg fin
        · exact va_putN (D := D) (ci := K) (C := (xcl K).1) (T := (xcl K).2.1) (N := (xcl K).2.2) (own := xmO k) (ref := (xcl K).1) (host := "SofaStair") hx hb hts (xu_mem hx10) _ (xu_ty K hx10) (xu_nm K hx10) hown hK Y.1.1 Y.1.2.1 Y.1.2.2 n he (xcl_at K hx10) y hy (va_Nw.use rfl (hN _ (xw_nest hlw rfl))) (fun x h => by rw [xu_own K hx10 y hy] at h; exact h) hfin (xu_ty K hx10 y hy) hna hfi (by simpa using hy) hdg fin
      have hv0 : xok ids v := Y.2.2.2.1 v (by simp)
      split at hst
      · rename_i a h0
        cases hst
        have ha : xr32 a := hv0
        refine core a (.int (Int32.ofInt a)) ?_ ?_ ?_ (xhok_int Y.2.1 (by omega) (by omega) ha) kk
        · rw [xfv_v]
          unfold xfv
          rw [if_neg (by show ¬ xfty K y = 3; omega), if_neg (by show ¬ xfty K y = 4; omega)]
        · rw [xu_0 K hx10 y hy h0]; rfl
        · rw [xu_0 K hx10 y hy h0]; rfl
      · rename_i a h0
        split at hst
        · rename_i h01
          cases hst
          have ha : xr32 a := hv0
          refine core a (.int (Int32.ofInt a)) ?_ ?_ ?_ (xhok_int Y.2.1 (by omega) (by omega) ha) kk
          · rw [xfv_v]
            unfold xfv
            rw [if_neg (by show ¬ xfty K y = 3; omega), if_neg (by show ¬ xfty K y = 4; omega)]
          · rw [xu_1 K hx10 y hy h0]
            rcases h01 with rfl | rfl <;> rfl
          · rw [xu_1 K hx10 y hy h0]
            rcases h01 with rfl | rfl <;> rfl
        · exact xno hst
      · rename_i h0
        cases hst
        refine core (-1) .null ?_ ?_ ?_ (xhok_dyn Y.2.1 h9 h0 (Or.inl (by decide))) kk
        · rw [xfv_v]
          unfold xfv
          rw [if_neg (by show ¬ xfty K y = 3; omega), if_pos (show xfty K y = 4 from h0)]
          rfl
        · rw [xu_4 K hx10 y hy h0]; rfl
        · rw [xu_4 K hx10 y hy h0]; rfl
      · rename_i K2 j h0
        cases hK2 : Nat.beq K2 5 with
        | false => rw [hK2] at hst; exact xno hst
        | true =>
          rw [hK2] at hst
          have hK2e : K2 = 5 := Nat.eq_of_beq_eq_true hK2
          subst hK2e
          cases hst
          have hj : (5, j) ∈ ids := by
            rcases hv0 with h | h
            · exact h
            · cases h
          refine core (j : Int) (.ref (ad (5, j))) ?_ ?_ ?_ (xhok_dyn Y.2.1 h9 h0 (Or.inr hj)) kk
          · rw [xfv_v]
            unfold xfv
            rw [if_neg (by show ¬ xfty K y = 3; omega), if_pos (show xfty K y = 4 from h0), if_neg (show ¬ ((j : Int) < 0) by omega)]
            rfl
          · rw [xu_4 K hx10 y hy h0]; rfl
          · rw [xu_4 K hx10 y hy h0]; rfl
      · exact xno hst
end XSIM3
end
section
/-! the machine follows the abstract machine: rows (arrays), and the other instructions -/
theorem xand1 (v : Int) : Int32.ofInt v &&& 1 = Int32.ofInt (v % 2) := by
  apply Int32.toBitVec_inj.mp
  have h1 : (Int32.ofInt v &&& 1).toBitVec = BitVec.ofInt 32 v &&& 1#32 := rfl
  have h2 : (Int32.ofInt (v % 2)).toBitVec = BitVec.ofInt 32 (v % 2) := rfl
  rw [h1, h2]
  apply BitVec.eq_of_toNat_eq
  rw [BitVec.toNat_and, BitVec.toNat_ofInt, BitVec.toNat_ofInt, BitVec.toNat_ofNat]
  show _ &&& 1 = _
  rw [Nat.and_one_is_mod]
  omega
section XSIM4
variable {p : Program} {l : Launch} {e : Env} {R : Room} {s : State} {m : MethodId} {args : Array Value} {below : List Frame} {meth : Method} {c : Code} {H : Heap} {locs : List Loc} {ls : Array Slot} {Q : State → Prop}
variable {D : va_G} {cA : Nat → ClassId} {tyl : List Nat} {ids : List (Nat × Nat)} {ad : Nat × Nat → Nat} {A : Nat → Prop} {k pc nL : Nat} {L L' : xa_L} {S S' : List xa_V} {σ σ' : xa_H} {q : xa_C}
theorem xid_of {K i : Nat} (h : xok ids (.inr (.inr (some (K, i))))) (h9 : ¬ K = 99) : (K, i) ∈ ids := h.resolve_right h9
theorem xaty_99 : xaty 99 = 9 := by decide +kernel
theorem xarr_id {K i : Nat} (h : xok ids (.inr (.inr (some (K, i))))) (h9 : ¬ xaty K = 9) : (K, i) ∈ ids := xid_of h (fun e => h9 (by rw [e]; exact xaty_99))
theorem xsg_ald0 (C : xcx D cA tyl ids ad A p R s m args meth c k) (hdg : decode (xmB k) pc = .ok (.iaload, 1))
    (Y : xdy D cA ids ad A s H locs ls nL L S σ) (hst : xs_aget 0 pc L S σ = some q)
    (kk : ∀ H' locs' ls', xdy D cA ids ad A s H' locs' ls' nL q.2.1 q.2.2.1 q.2.2.2 → W p l e R s m args below meth c H' locs' 0 0 Q (F0 m q.1 ls' (q.2.2.1.map (xcv ad)))) : W p l e R s m args below meth c H locs 0 0 Q (F0 m pc ls (S.map (xcv ad))) := by
  obtain ⟨⟨hx, hb, hml, hown⟩, hts, ⟨hK, hN, -⟩, hI, -, -, -⟩ := C
  match S, Y, hst with
  | [], _, hst => exact xno hst
  | [.inl _], _, hst => exact xno hst
  | .inr _ :: _, _, hst => exact xno hst
  | .inl _ :: .inl _ :: _, _, hst => exact xno hst
  | .inl _ :: .inr (.inl _) :: _, _, hst => exact xno hst
  | .inl _ :: .inr (.inr none) :: _, _, hst => exact xno hst
  | .inl j :: .inr (.inr (some (K, i))) :: S', Y, hst =>
    have hst : (if xaty K = 0 ∧ 0 ≤ j ∧ j < xalen K then some (pc + 1, L, (.inl (σ K i j.toNat) : xa_V) :: S', σ) else none) = some q := hst
    split at hst
    · rename_i hc
      cases hst
      have hj : xr32 j := Y.2.2.2.1 (.inl j) (by simp)
      have hq : (K, i) ∈ ids := xarr_id (Y.2.2.2.1 (.inr (.inr (some (K, i)))) (by simp)) (by omega)
      obtain ⟨n, hn, he⟩ := xwl_get (cA := cA) (ad := ad) (σ := σ) hq
      rw [xent_arr (q := (K, i)) (Or.inl hc.1)] at he
      obtain ⟨t0, ht⟩ := xtys_get (cA := cA) ((hI.2.1 _ hq).2.2 (show ¬ xaty K = 9 by omega))
      have ht : (xtys cA tyl)[t0]? = some (cA (xaty K), .int) := by rw [ht]; show some (cA (xaty K), xtyp (xaty K)) = _; rw [hc.1]; rfl
      have hcl := xcl32 hj
      refine va_iald hx hb hK Y.1.1 n t0 he ht (xvin hj hc.2.1 hc.2.2) hdg ?_
      rw [hcl]
      exact kk H locs ls (xdy_push (v := .inl (σ K i j.toNat)) Y (fun w hw => by simp [hw]) ((Y.2.1 _ hq j.toNat).2.1 (Or.inl hc.1)))
    · exact xno hst
theorem xsg_ald1 (C : xcx D cA tyl ids ad A p R s m args meth c k) (hdg : decode (xmB k) pc = .ok (.baload, 1))
    (Y : xdy D cA ids ad A s H locs ls nL L S σ) (hst : xs_aget 1 pc L S σ = some q)
    (kk : ∀ H' locs' ls', xdy D cA ids ad A s H' locs' ls' nL q.2.1 q.2.2.1 q.2.2.2 → W p l e R s m args below meth c H' locs' 0 0 Q (F0 m q.1 ls' (q.2.2.1.map (xcv ad)))) : W p l e R s m args below meth c H locs 0 0 Q (F0 m pc ls (S.map (xcv ad))) := by
  obtain ⟨⟨hx, hb, hml, hown⟩, hts, ⟨hK, hN, -⟩, hI, -, -, -⟩ := C
  match S, Y, hst with
  | [], _, hst => exact xno hst
  | [.inl _], _, hst => exact xno hst
  | .inr _ :: _, _, hst => exact xno hst
  | .inl _ :: .inl _ :: _, _, hst => exact xno hst
  | .inl _ :: .inr (.inl _) :: _, _, hst => exact xno hst
  | .inl _ :: .inr (.inr none) :: _, _, hst => exact xno hst
  | .inl j :: .inr (.inr (some (K, i))) :: S', Y, hst =>
    have hst : (if xaty K = 1 ∧ 0 ≤ j ∧ j < xalen K then some (pc + 1, L, (.inl (σ K i j.toNat) : xa_V) :: S', σ) else none) = some q := hst
    split at hst
    · rename_i hc
      cases hst
      have hj : xr32 j := Y.2.2.2.1 (.inl j) (by simp)
      have hq : (K, i) ∈ ids := xarr_id (Y.2.2.2.1 (.inr (.inr (some (K, i)))) (by simp)) (by omega)
      obtain ⟨n, hn, he⟩ := xwl_get (cA := cA) (ad := ad) (σ := σ) hq
      rw [xent_arr (q := (K, i)) (Or.inr hc.1)] at he
      obtain ⟨t0, ht⟩ := xtys_get (cA := cA) ((hI.2.1 _ hq).2.2 (show ¬ xaty K = 9 by omega))
      have ht : (xtys cA tyl)[t0]? = some (cA (xaty K), .boolean) := by rw [ht]; show some (cA (xaty K), xtyp (xaty K)) = _; rw [hc.1]; rfl
      have hcl := xcl32 hj
      refine va_zald hx hb hK Y.1.1 n t0 he ht (xvin hj hc.2.1 hc.2.2) hdg ?_
      rw [hcl]
      exact kk H locs ls (xdy_push (v := .inl (σ K i j.toNat)) Y (fun w hw => by simp [hw]) ((Y.2.1 _ hq j.toNat).2.1 (Or.inr hc.1)))
    · exact xno hst
theorem xsg_ald2 (C : xcx D cA tyl ids ad A p R s m args meth c k) (hdg : decode (xmB k) pc = .ok (.laload, 1))
    (Y : xdy D cA ids ad A s H locs ls nL L S σ) (hst : xs_aget 2 pc L S σ = some q)
    (kk : ∀ H' locs' ls', xdy D cA ids ad A s H' locs' ls' nL q.2.1 q.2.2.1 q.2.2.2 → W p l e R s m args below meth c H' locs' 0 0 Q (F0 m q.1 ls' (q.2.2.1.map (xcv ad)))) : W p l e R s m args below meth c H locs 0 0 Q (F0 m pc ls (S.map (xcv ad))) := by
  obtain ⟨⟨hx, hb, hml, hown⟩, hts, ⟨hK, hN, -⟩, hI, -, -, -⟩ := C
  match S, Y, hst with
  | [], _, hst => exact xno hst
  | [.inl _], _, hst => exact xno hst
  | .inr _ :: _, _, hst => exact xno hst
  | .inl _ :: .inl _ :: _, _, hst => exact xno hst
  | .inl _ :: .inr (.inl _) :: _, _, hst => exact xno hst
  | .inl _ :: .inr (.inr none) :: _, _, hst => exact xno hst
  | .inl j :: .inr (.inr (some (K, i))) :: S', Y, hst =>
    have hst : (if xaty K = 2 ∧ 0 ≤ j ∧ j < xalen K then some (pc + 1, L, (.inr (.inl (σ K i j.toNat)) : xa_V) :: S', σ) else none) = some q := hst
    split at hst
    · rename_i hc
      cases hst
      have hj : xr32 j := Y.2.2.2.1 (.inl j) (by simp)
      have hq : (K, i) ∈ ids := xarr_id (Y.2.2.2.1 (.inr (.inr (some (K, i)))) (by simp)) (by omega)
      obtain ⟨n, hn, he⟩ := xwl_get (cA := cA) (ad := ad) (σ := σ) hq
      rw [xent_long (q := (K, i)) hc.1] at he
      obtain ⟨t0, ht⟩ := xtys_get (cA := cA) ((hI.2.1 _ hq).2.2 (show ¬ xaty K = 9 by omega))
      have ht : (xtys cA tyl)[t0]? = some (cA (xaty K), .long) := by rw [ht]; show some (cA (xaty K), xtyp (xaty K)) = _; rw [hc.1]; rfl
      have hcl := xcl32 hj
      refine va_lald hx hb hK Y.1.1 n t0 he ht (xvin hj hc.2.1 hc.2.2) hdg ?_
      rw [hcl]
      exact kk H locs ls (xdy_push (v := .inr (.inl (σ K i j.toNat))) Y (fun w hw => by simp [hw]) ((Y.2.1 _ hq j.toNat).2.2 hc.1))
    · exact xno hst
theorem xsg_aald (C : xcx D cA tyl ids ad A p R s m args meth c k) (hdg : decode (xmB k) pc = .ok (.aaload, 1))
    (Y : xdy D cA ids ad A s H locs ls nL L S σ) (hst : xstp k (.aaload, 1, 0, 0, 0) pc L S σ = some q)
    (kk : ∀ H' locs' ls', xdy D cA ids ad A s H' locs' ls' nL q.2.1 q.2.2.1 q.2.2.2 → W p l e R s m args below meth c H' locs' 0 0 Q (F0 m q.1 ls' (q.2.2.1.map (xcv ad)))) : W p l e R s m args below meth c H locs 0 0 Q (F0 m pc ls (S.map (xcv ad))) := by
  obtain ⟨⟨hx, hb, hml, hown⟩, hts, ⟨hK, hN, -⟩, hI, -, -, -⟩ := C
  match S, Y, hst with
  | [], _, hst => exact xno hst
  | [.inl _], _, hst => exact xno hst
  | .inr _ :: _, _, hst => exact xno hst
  | .inl _ :: .inl _ :: _, _, hst => exact xno hst
  | .inl _ :: .inr (.inl _) :: _, _, hst => exact xno hst
  | .inl _ :: .inr (.inr none) :: _, _, hst => exact xno hst
  | .inl j :: .inr (.inr (some (K, i))) :: S', Y, hst =>
    have hst : (if (xaty K = 5 ∨ xaty K = 6) ∧ 0 ≤ j ∧ j < xalen K then some (pc + 1, L, (.inr (.inr (some (xar K i j.toNat))) : xa_V) :: S', σ) else none) = some q := hst
    split at hst
    · rename_i hc
      cases hst
      have hj : xr32 j := Y.2.2.2.1 (.inl j) (by simp)
      have hq : (K, i) ∈ ids := xarr_id (Y.2.2.2.1 (.inr (.inr (some (K, i)))) (by simp)) (by omega)
      obtain ⟨n, hn, he⟩ := xwl_get (cA := cA) (ad := ad) (σ := σ) hq
      rw [xent_ref (q := (K, i)) hc.1] at he
      obtain ⟨t0, ht⟩ := xtys_get (cA := cA) ((hI.2.1 _ hq).2.2 (show ¬ xaty K = 9 by omega))
      have ht : ∃ C : String, (xtys cA tyl)[t0]? = some (cA (xaty K), .object C) := by
        rcases hc.1 with h | h
        · exact ⟨"SofaStair$Thing", by rw [ht]; show some (cA (xaty K), xtyp (xaty K)) = _; rw [h]; rfl⟩
        · exact ⟨"SofaStair$Stair", by rw [ht]; show some (cA (xaty K), xtyp (xaty K)) = _; rw [h]; rfl⟩
      obtain ⟨C, ht⟩ := ht
      have hcl := xcl32 hj
      refine va_aldq hx hb hK Y.1.1 n t0 he ht (xvin hj hc.2.1 hc.2.2) hdg ?_
      rw [hcl]
      have hlt : j.toNat < xalen K := by have h1 := hc.2.1; have h2 := hc.2.2; omega
      exact kk H locs ls (xdy_push (v := .inr (.inr (some (xar K i j.toNat)))) Y (fun w hw => by simp [hw]) (Or.inl (hI.2.2.2 _ hq j.toNat hc.1 hlt)))
    · exact xno hst
theorem xsg_alen (C : xcx D cA tyl ids ad A p R s m args meth c k) (hdg : decode (xmB k) pc = .ok (.arraylength, 1))
    (Y : xdy D cA ids ad A s H locs ls nL L S σ) (hst : xstp k (.arraylength, 1, 0, 0, 0) pc L S σ = some q)
    (kk : ∀ H' locs' ls', xdy D cA ids ad A s H' locs' ls' nL q.2.1 q.2.2.1 q.2.2.2 → W p l e R s m args below meth c H' locs' 0 0 Q (F0 m q.1 ls' (q.2.2.1.map (xcv ad)))) : W p l e R s m args below meth c H locs 0 0 Q (F0 m pc ls (S.map (xcv ad))) := by
  obtain ⟨⟨hx, hb, hml, hown⟩, hts, ⟨hK, hN, -⟩, hI, -, -, -⟩ := C
  match S, Y, hst with
  | [], _, hst => exact xno hst
  | .inl _ :: _, _, hst => exact xno hst
  | .inr (.inl _) :: _, _, hst => exact xno hst
  | .inr (.inr none) :: _, _, hst => exact xno hst
  | .inr (.inr (some (K, i))) :: S', Y, hst =>
    have hst : (if xaty K = 9 ∨ K = 99 then none else some (pc + 1, L, (.inl (xalen K : Int) : xa_V) :: S', σ)) = some q := hst
    split at hst
    · exact xno hst
    · rename_i hc
      cases hst
      have hq : (K, i) ∈ ids := xarr_id (Y.2.2.2.1 (.inr (.inr (some (K, i)))) (by simp)) (by omega)
      obtain ⟨n, hn, he⟩ := xwl_get (cA := cA) (ad := ad) (σ := σ) hq
      obtain ⟨x, hx1, hx2⟩ := xent_any (cA := cA) (ad := ad) (q := (K, i)) (f := σ K i) (show ¬ xaty K = 9 by omega)
      rw [hx2] at he
      obtain ⟨t0, ht⟩ := xtys_get (cA := cA) ((hI.2.1 _ hq).2.2 (show ¬ xaty K = 9 by omega))
      refine va_alen (v := Int32.ofInt (xalen K : Int)) hx hb hK Y.1.1 n t0 he ht ?_ hdg ?_
      · rw [hx1]
        exact (Int32.ofInt_eq_ofNat).symm
      · have := xalen_lt K
        exact kk H locs ls (xdy_push (v := .inl (xalen K : Int)) Y (fun w hw => by simp [hw]) ⟨by omega, by omega⟩)
theorem xsg_ast0 (C : xcx D cA tyl ids ad A p R s m args meth c k) (hdg : decode (xmB k) pc = .ok (.iastore, 1))
    (Y : xdy D cA ids ad A s H locs ls nL L S σ) (hst : xs_aput k 0 pc L S σ = some q)
    (kk : ∀ H' locs' ls', xdy D cA ids ad A s H' locs' ls' nL q.2.1 q.2.2.1 q.2.2.2 → W p l e R s m args below meth c H' locs' 0 0 Q (F0 m q.1 ls' (q.2.2.1.map (xcv ad)))) : W p l e R s m args below meth c H locs 0 0 Q (F0 m pc ls (S.map (xcv ad))) := by
  obtain ⟨⟨hx, hb, hml, hown⟩, hts, ⟨hK, hN, -⟩, hI, -, -, -⟩ := C
  unfold xs_aput at hst
  split at hst
  · rename_i v j K i S' 
    split at hst
    · rename_i hc
      cases hst
      have hv : xr32 v := Y.2.2.2.1 (.inl v) (by simp)
      have hj : xr32 j := Y.2.2.2.1 (.inl j) (by simp)
      have hq : (K, i) ∈ ids := xarr_id (Y.2.2.2.1 (.inr (.inr (some (K, i)))) (by simp)) (by omega)
      obtain ⟨n, hn, he⟩ := xwl_get (cA := cA) (ad := ad) (σ := σ) hq
      rw [xent_arr (q := (K, i)) (Or.inl hc.2.1)] at he
      obtain ⟨t0, ht⟩ := xtys_get (cA := cA) ((hI.2.1 _ hq).2.2 (show ¬ xaty K = 9 by omega))
      have ht : (xtys cA tyl)[t0]? = some (cA (xaty K), .int) := by rw [ht]; show some (cA (xaty K), xtyp (xaty K)) = _; rw [hc.2.1]; rfl
      have hcl := xcl32 hj
      refine va_iast hx hb hK Y.1.1 Y.1.2.1 Y.1.2.2 n t0 he ht (xvin hj hc.2.2.1.1 hc.2.2.1.2) hdg (fun H1 locs1 hP hD hS => ?_)
      have e1 : (ad (K, i), (.inl (cA (xaty K), xalen K, .inl (upd (fun j => Int32.ofInt (σ K i j)) (Int32.ofInt j).toNatClampNeg (Int32.ofInt v))) : va_E)) = (ad (K, i), xent cA ad (K, i) (xup σ K i j.toNat v K i)) := by
        rw [xent_arr (q := (K, i)) (Or.inl hc.2.1), xup_eq, hcl]
        have e2 : upd (fun j => Int32.ofInt (σ K i j)) j.toNat (Int32.ofInt v) = fun j_1 => Int32.ofInt (if j_1 = j.toNat then v else σ K i j_1) := by
          funext a
          unfold upd
          split <;> rfl
        rw [e2]
      rw [e1, xwl_set hI.1 hn] at hP hD
      exact kk H1 locs1 ls ⟨⟨hP, hD, hS⟩, xhok_int Y.2.1 (by omega) (by omega) hv, Y.2.2.1, fun w hw => Y.2.2.2.1 w (by simp [hw]), Y.2.2.2.2⟩
    · exact xno hst
  · split at hst
    · rename_i hc
      exact absurd hc.1 (by decide)
    · exact xno hst
  · exact xno hst
theorem xsg_ast1 (C : xcx D cA tyl ids ad A p R s m args meth c k) (hdg : decode (xmB k) pc = .ok (.bastore, 1))
    (Y : xdy D cA ids ad A s H locs ls nL L S σ) (hst : xs_aput k 1 pc L S σ = some q)
    (kk : ∀ H' locs' ls', xdy D cA ids ad A s H' locs' ls' nL q.2.1 q.2.2.1 q.2.2.2 → W p l e R s m args below meth c H' locs' 0 0 Q (F0 m q.1 ls' (q.2.2.1.map (xcv ad)))) : W p l e R s m args below meth c H locs 0 0 Q (F0 m pc ls (S.map (xcv ad))) := by
  obtain ⟨⟨hx, hb, hml, hown⟩, hts, ⟨hK, hN, -⟩, hI, -, -, -⟩ := C
  unfold xs_aput at hst
  split at hst
  · rename_i v j K i S' 
    split at hst
    · rename_i hc
      cases hst
      have hv : xr32 v := Y.2.2.2.1 (.inl v) (by simp)
      have hj : xr32 j := Y.2.2.2.1 (.inl j) (by simp)
      have hq : (K, i) ∈ ids := xarr_id (Y.2.2.2.1 (.inr (.inr (some (K, i)))) (by simp)) (by omega)
      obtain ⟨n, hn, he⟩ := xwl_get (cA := cA) (ad := ad) (σ := σ) hq
      rw [xent_arr (q := (K, i)) (Or.inr hc.2.1)] at he
      obtain ⟨t0, ht⟩ := xtys_get (cA := cA) ((hI.2.1 _ hq).2.2 (show ¬ xaty K = 9 by omega))
      have ht : (xtys cA tyl)[t0]? = some (cA (xaty K), .boolean) := by rw [ht]; show some (cA (xaty K), xtyp (xaty K)) = _; rw [hc.2.1]; rfl
      have hcl := xcl32 hj
      refine va_zast hx hb hK Y.1.1 Y.1.2.1 Y.1.2.2 n t0 he ht (xvin hj hc.2.2.1.1 hc.2.2.1.2) hdg (fun H1 locs1 hP hD hS => ?_)
      have e0 : vp_nar .boolean (Int32.ofInt v) = Int32.ofInt (v % 2) := xand1 v
      have e1 : (ad (K, i), (.inl (cA (xaty K), xalen K, .inl (upd (fun j => Int32.ofInt (σ K i j)) (Int32.ofInt j).toNatClampNeg (vp_nar .boolean (Int32.ofInt v)))) : va_E)) = (ad (K, i), xent cA ad (K, i) (xup σ K i j.toNat (v % 2) K i)) := by
        rw [xent_arr (q := (K, i)) (Or.inr hc.2.1), xup_eq, hcl, e0]
        have e2 : upd (fun j => Int32.ofInt (σ K i j)) j.toNat (Int32.ofInt (v % 2)) = fun j_1 => Int32.ofInt (if j_1 = j.toNat then v % 2 else σ K i j_1) := by
          funext a
          unfold upd
          split <;> rfl
        rw [e2]
      rw [e1, xwl_set hI.1 hn] at hP hD
      have hv2 : xr32 (v % 2) := ⟨by omega, by omega⟩
      exact kk H1 locs1 ls ⟨⟨hP, hD, hS⟩, xhok_int Y.2.1 (by omega) (by omega) hv2, Y.2.2.1, fun w hw => Y.2.2.2.1 w (by simp [hw]), Y.2.2.2.2⟩
    · exact xno hst
  · split at hst
    · rename_i hc
      exact absurd hc.1 (by decide)
    · exact xno hst
  · exact xno hst
theorem xsg_ast2 (C : xcx D cA tyl ids ad A p R s m args meth c k) (hdg : decode (xmB k) pc = .ok (.lastore, 1))
    (Y : xdy D cA ids ad A s H locs ls nL L S σ) (hst : xs_aput k 2 pc L S σ = some q)
    (kk : ∀ H' locs' ls', xdy D cA ids ad A s H' locs' ls' nL q.2.1 q.2.2.1 q.2.2.2 → W p l e R s m args below meth c H' locs' 0 0 Q (F0 m q.1 ls' (q.2.2.1.map (xcv ad)))) : W p l e R s m args below meth c H locs 0 0 Q (F0 m pc ls (S.map (xcv ad))) := by
  obtain ⟨⟨hx, hb, hml, hown⟩, hts, ⟨hK, hN, -⟩, hI, -, -, -⟩ := C
  unfold xs_aput at hst
  split at hst
  · split at hst
    · rename_i hc
      exact absurd hc.1 (by decide)
    · exact xno hst
  · rename_i v j K i S' 
    split at hst
    · rename_i hc
      cases hst
      have hv : xr64 v := Y.2.2.2.1 (.inr (.inl v)) (by simp)
      have hj : xr32 j := Y.2.2.2.1 (.inl j) (by simp)
      have hq : (K, i) ∈ ids := xarr_id (Y.2.2.2.1 (.inr (.inr (some (K, i)))) (by simp)) (by omega)
      obtain ⟨n, hn, he⟩ := xwl_get (cA := cA) (ad := ad) (σ := σ) hq
      rw [xent_long (q := (K, i)) hc.2.1] at he
      obtain ⟨t0, ht⟩ := xtys_get (cA := cA) ((hI.2.1 _ hq).2.2 (show ¬ xaty K = 9 by omega))
      have ht : (xtys cA tyl)[t0]? = some (cA (xaty K), .long) := by rw [ht]; show some (cA (xaty K), xtyp (xaty K)) = _; rw [hc.2.1]; rfl
      have hcl := xcl32 hj
      refine va_last hx hb hK Y.1.1 Y.1.2.1 Y.1.2.2 n t0 he ht (xvin hj hc.2.2.1.1 hc.2.2.1.2) hdg (fun H1 locs1 hP hD hS => ?_)
      have e1 : (ad (K, i), (.inl (cA (xaty K), xalen K, .inr (.inl (vp_updL (fun j => Int64.ofInt (σ K i j)) (Int32.ofInt j).toNatClampNeg (Int64.ofInt v)))) : va_E)) = (ad (K, i), xent cA ad (K, i) (xup σ K i j.toNat v K i)) := by
        rw [xent_long (q := (K, i)) hc.2.1, xup_eq, hcl]
        have e2 : vp_updL (fun j => Int64.ofInt (σ K i j)) j.toNat (Int64.ofInt v) = fun j_1 => Int64.ofInt (if j_1 = j.toNat then v else σ K i j_1) := by
          funext a
          unfold vp_updL
          split <;> rfl
        rw [e2]
      rw [e1, xwl_set hI.1 hn] at hP hD
      exact kk H1 locs1 ls ⟨⟨hP, hD, hS⟩, xhok_long Y.2.1 hc.2.1 hv, Y.2.2.1, fun w hw => Y.2.2.2.1 w (by simp [hw]), Y.2.2.2.2⟩
    · exact xno hst
  · exact xno hst
end XSIM4
end
section
/-! what a call needs of the method that it calls -/
noncomputable def xmSl0 : List Nat := [1, 0, 0, 0, 0, 2, 2, 2, 2, 2, 0, 2, 2, 2, 2, 2, 2, 2, 2, 2, 2, 0, 2, 2, 2, 2, 2, 2, 2, 2, 2, 2, 2, 0, 2, 2, 2, 2, 2, 2, 2, 2, 2, 1, 1, 2, 2, 2, 1, 1, 0, 2, 2, 2, 0, 2, 2, 2, 2, 2, 2, 2, 2, 2, 0, 2, 2, 2, 2, 0, 2, 2, 2, 2, 2, 2, 2, 2, 2, 2, 2, 0, 2, 2, 2, 2, 2, 2, 2, 2, 2, 2, 2, 2, 2, 2, 2, 2, 2, 2, 2, 2, 2, 2, 2, 2, 2, 2, 2, 2, 2, 2, 2, 2, 2, 2, 2, 2, 1, 2, 2, 2, 2, 2, 2, 2, 1, 1, 1, 1, 1, 1, 1, 1, 1, 1, 1]
noncomputable def xmSl1 : List Nat := [0, 1, 1, 2, 2, 2, 2, 2, 1, 1, 1, 2, 2, 2, 2, 2, 2, 2, 1, 1, 2, 2, 2, 2, 2, 2, 2, 2, 2, 2, 2, 2, 2, 2, 2, 2, 2, 2, 2, 2, 2, 1, 2, 2, 2, 2, 2, 2, 1, 2, 2, 2, 2, 2, 2, 2, 2, 2, 2, 2, 2, 2, 2, 2, 2, 2, 2, 2, 2, 2, 2, 2]
noncomputable def xmS (k : Nat) : Nat := cond (Nat.ble 200 k) (xmSl1.getD (k - 200) 0) (xmSl0.getD k 0)
noncomputable def xmil0 : List Nat := [176, 622, 534, 494, 340, 414, 721, 749, 836, 846, 315, 792, 797, 841, 805, 826, 830, 814, 810, 818, 822, 107, 446, 450, 459, 483, 478, 502, 498, 470, 474, 487, 491, 266, 410, 648, 941, 725, 740, 666, 697, 736, 753, 756, 760, 744, 671, 652, 661, 274, 123, 402, 630, 964, 172, 596, 921, 602, 976, 693, 613, 618, 886, 786, 237, 644, 246, 253, 242, 129, 397, 968, 134, 147, 422, 656, 702, 437, 429, 890, 989, 99, 393, 418, 433, 442, 455, 463, 592, 609, 626, 635, 675, 682, 706, 710, 851, 855, 878, 909, 925, 945, 956, 981, 985, 639, 689, 714, 732, 859, 863, 868, 873, 894, 882, 898, 903, 949, 952, 913, 917, 929, 933, 937, 960, 406, 685, 466, 717, 728, 249, 150, 971, 137, 140, 143, 678]
noncomputable def xmil1 : List Nat := [994, 1147, 1211, 1003, 1007, 999, 1160, 1156, 1164, 1171, 1265, 1143, 1152, 1168, 1175, 1181, 1195, 1189, 1204, 1329, 1201, 1185, 1208, 1224, 1220, 1216, 1228, 1242, 1254, 1258, 1250, 1246, 1238, 1234, 1262, 1277, 1273, 1269, 1281, 1297, 1309, 1305, 1301, 1313, 1293, 1318, 1326, 1322, 1288, 1285, 1333, 1342, 1354, 1350, 1346, 1358, 1337, 1366, 1370, 1362, 1382, 1378, 1374, 1394, 1390, 1386, 1398, 1410, 1406, 1402, 1414, 1418]
noncomputable def xmi (k : Nat) : Nat := cond (Nat.ble 200 k) (xmil1.getD (k - 200) 0) (xmil0.getD k 0)
noncomputable def xmjl0 : List Nat := [83, 89, 89, 89, 87, 87, 87, 87, 87, 87, 86, 86, 86, 86, 86, 86, 86, 86, 86, 86, 86, 79, 79, 79, 79, 79, 79, 79, 79, 79, 79, 79, 79, 85, 85, 85, 85, 85, 85, 85, 85, 85, 85, 85, 85, 85, 85, 85, 85, 85, 80, 80, 80, 80, 82, 82, 82, 82, 82, 82, 82, 82, 82, 82, 84, 84, 84, 84, 84, 81, 81, 81, 81, 81, 81, 81, 81, 81, 81, 81, 81, 78, 78, 78, 78, 78, 78, 78, 78, 78, 78, 78, 78, 78, 78, 78, 78, 78, 78, 78, 78, 78, 78, 78, 78, 78, 78, 78, 78, 78, 78, 78, 78, 78, 78, 78, 78, 78, 78, 78, 78, 78, 78, 78, 78, 78, 78, 78, 78, 78, 78, 78, 78, 78, 78, 78, 78]
noncomputable def xmjl1 : List Nat := [88, 88, 88, 88, 88, 88, 88, 88, 88, 88, 88, 88, 88, 88, 88, 88, 88, 88, 88, 88, 88, 88, 88, 88, 88, 88, 88, 88, 88, 88, 88, 88, 88, 88, 88, 88, 88, 88, 88, 88, 88, 88, 88, 88, 88, 88, 88, 88, 88, 88, 88, 88, 88, 88, 88, 88, 88, 88, 88, 88, 88, 88, 88, 88, 88, 88, 88, 88, 88, 88, 88, 88]
noncomputable def xmj (k : Nat) : Nat := cond (Nat.ble 200 k) (xmjl1.getD (k - 200) 0) (xmjl0.getD k 0)
noncomputable def xmal0 : List Nat := [175, 0, 0, 0, 339, 412, 719, 747, 834, 844, 314, 790, 795, 840, 804, 825, 829, 813, 809, 817, 821, 106, 444, 448, 457, 481, 476, 500, 496, 468, 473, 486, 490, 265, 408, 646, 939, 723, 738, 664, 695, 734, 751, 755, 759, 743, 670, 651, 660, 273, 122, 400, 628, 962, 171, 594, 919, 601, 974, 691, 611, 616, 884, 784, 236, 642, 244, 252, 241, 128, 395, 966, 133, 145, 420, 654, 700, 435, 427, 888, 987, 98, 391, 416, 431, 440, 453, 461, 590, 607, 624, 633, 673, 680, 704, 708, 849, 853, 876, 907, 923, 943, 954, 979, 983, 638, 688, 713, 731, 858, 862, 867, 872, 893, 881, 897, 902, 948, 951, 912, 916, 928, 932, 936, 959, 405, 684, 465, 716, 727, 248, 149, 970, 136, 139, 142, 677]
noncomputable def xmal1 : List Nat := [993, 1146, 1210, 1002, 1006, 998, 1159, 1155, 1163, 1170, 1264, 1141, 1150, 1166, 1173, 1179, 1194, 1188, 1203, 1328, 1200, 1183, 1206, 1223, 1219, 1214, 1226, 1241, 1253, 1257, 1249, 1245, 1237, 1232, 1260, 1276, 1272, 1267, 1279, 1296, 1308, 1304, 1300, 1312, 1292, 1317, 1325, 1321, 1287, 1283, 1331, 1341, 1353, 1349, 1345, 1357, 1335, 1365, 1369, 1360, 1381, 1377, 1372, 1393, 1389, 1384, 1396, 1409, 1405, 1400, 1412, 1416]
noncomputable def xma (k : Nat) : Nat := cond (Nat.ble 200 k) (xmal1.getD (k - 200) 0) (xmal0.getD k 0)
noncomputable def xmbl0 : List Nat := [0, 0, 0, 0, 0, 413, 720, 748, 835, 845, 0, 791, 796, 22, 15, 20, 21, 17, 16, 18, 19, 0, 445, 449, 458, 482, 477, 501, 497, 469, 4, 5, 6, 0, 409, 647, 940, 724, 739, 665, 696, 735, 752, 0, 0, 14, 10, 9, 0, 0, 0, 401, 629, 963, 0, 595, 920, 7, 975, 692, 612, 617, 885, 785, 0, 643, 245, 2, 1, 0, 396, 967, 0, 146, 421, 655, 701, 436, 428, 889, 988, 0, 392, 417, 432, 441, 454, 462, 591, 608, 625, 634, 674, 681, 705, 709, 850, 854, 877, 908, 924, 944, 955, 980, 984, 8, 11, 12, 13, 23, 24, 25, 26, 28, 27, 29, 30, 36, 0, 31, 32, 33, 34, 35, 37, 3, 0, 0, 0, 0, 0, 0, 0, 0, 0, 0, 0]
noncomputable def xmbl1 : List Nat := [0, 0, 0, 39, 40, 38, 42, 41, 0, 0, 0, 1142, 1151, 1167, 1174, 1180, 44, 43, 0, 0, 45, 1184, 1207, 47, 46, 1215, 1227, 49, 52, 53, 51, 50, 48, 1233, 1261, 55, 54, 1268, 1280, 57, 59, 0, 58, 60, 56, 61, 63, 62, 0, 1284, 1332, 64, 67, 66, 65, 68, 1336, 69, 70, 1361, 72, 71, 1373, 74, 73, 1385, 1397, 76, 75, 1401, 1413, 1417]
noncomputable def xmb (k : Nat) : Nat := cond (Nat.ble 200 k) (xmbl1.getD (k - 200) 0) (xmbl0.getD k 0)
noncomputable def xce (x : Nat) : Bool := Nat.beq (xmS x) 0 || (plainName (xmY x).cls && decide (lw_tbl[xmj x]? = some (Cond.initialized (xmY x).cls)) &&
  decide ((xmY x).cls ≠ "java/lang/invoke/MethodHandle" ∧ (xmY x).cls ≠ "java/lang/invoke/VarHandle") && decide (xmO x = (xmY x).cls) &&
  (match xmS x with
    | 1 => decide (lw_tbl[xma x]? = some (Cond.static (xmY x)))
    | _ => decide (lw_tbl[xma x]? = some (Cond.instanceMethod (xmY x))) && decide (lw_tbl[xmb x]? = some (Cond.selects (xmY x).cls (xmY x) (xmY x))) && decide ((xcl (xmK x)).1 = (xmY x).cls) && Nat.blt (xmK x) 10))
set_option maxRecDepth 100000 in
theorem xce_a : ∀ j, j < 137 → xce j = true := by decide +kernel
set_option maxRecDepth 100000 in
theorem xce_b : ∀ j, j < 72 → xce (200 + j) = true := by decide +kernel
set_option maxRecDepth 100000 in
theorem xcw_0 : lw_tbl[176]? = some (Cond.code (xmY 0) (xmB 0) (xmL 0) (xmR 0)) := rfl
set_option maxRecDepth 100000 in
theorem xcw_1 : lw_tbl[622]? = some (Cond.code (xmY 1) (xmB 1) (xmL 1) (xmR 1)) := rfl
set_option maxRecDepth 100000 in
theorem xcw_2 : lw_tbl[534]? = some (Cond.code (xmY 2) (xmB 2) (xmL 2) (xmR 2)) := rfl
set_option maxRecDepth 100000 in
theorem xcw_3 : lw_tbl[494]? = some (Cond.code (xmY 3) (xmB 3) (xmL 3) (xmR 3)) := rfl
set_option maxRecDepth 100000 in
theorem xcw_4 : lw_tbl[340]? = some (Cond.code (xmY 4) (xmB 4) (xmL 4) (xmR 4)) := rfl
set_option maxRecDepth 100000 in
theorem xcw_5 : lw_tbl[414]? = some (Cond.code (xmY 5) (xmB 5) (xmL 5) (xmR 5)) := rfl
set_option maxRecDepth 100000 in
theorem xcw_6 : lw_tbl[721]? = some (Cond.code (xmY 6) (xmB 6) (xmL 6) (xmR 6)) := rfl
set_option maxRecDepth 100000 in
theorem xcw_7 : lw_tbl[749]? = some (Cond.code (xmY 7) (xmB 7) (xmL 7) (xmR 7)) := rfl
set_option maxRecDepth 100000 in
theorem xcw_8 : lw_tbl[836]? = some (Cond.code (xmY 8) (xmB 8) (xmL 8) (xmR 8)) := rfl
set_option maxRecDepth 100000 in
theorem xcw_9 : lw_tbl[846]? = some (Cond.code (xmY 9) (xmB 9) (xmL 9) (xmR 9)) := rfl
set_option maxRecDepth 100000 in
theorem xcw_10 : lw_tbl[315]? = some (Cond.code (xmY 10) (xmB 10) (xmL 10) (xmR 10)) := rfl
set_option maxRecDepth 100000 in
theorem xcw_11 : lw_tbl[792]? = some (Cond.code (xmY 11) (xmB 11) (xmL 11) (xmR 11)) := rfl
set_option maxRecDepth 100000 in
theorem xcw_12 : lw_tbl[797]? = some (Cond.code (xmY 12) (xmB 12) (xmL 12) (xmR 12)) := rfl
set_option maxRecDepth 100000 in
theorem xcw_13 : lw_tbl[841]? = some (Cond.code (xmY 13) (xmB 13) (xmL 13) (xmR 13)) := rfl
set_option maxRecDepth 100000 in
theorem xcw_14 : lw_tbl[805]? = some (Cond.code (xmY 14) (xmB 14) (xmL 14) (xmR 14)) := rfl
set_option maxRecDepth 100000 in
theorem xcw_15 : lw_tbl[826]? = some (Cond.code (xmY 15) (xmB 15) (xmL 15) (xmR 15)) := rfl
set_option maxRecDepth 100000 in
theorem xcw_16 : lw_tbl[830]? = some (Cond.code (xmY 16) (xmB 16) (xmL 16) (xmR 16)) := rfl
set_option maxRecDepth 100000 in
theorem xcw_17 : lw_tbl[814]? = some (Cond.code (xmY 17) (xmB 17) (xmL 17) (xmR 17)) := rfl
set_option maxRecDepth 100000 in
theorem xcw_18 : lw_tbl[810]? = some (Cond.code (xmY 18) (xmB 18) (xmL 18) (xmR 18)) := rfl
set_option maxRecDepth 100000 in
theorem xcw_19 : lw_tbl[818]? = some (Cond.code (xmY 19) (xmB 19) (xmL 19) (xmR 19)) := rfl
set_option maxRecDepth 100000 in
theorem xcw_20 : lw_tbl[822]? = some (Cond.code (xmY 20) (xmB 20) (xmL 20) (xmR 20)) := rfl
set_option maxRecDepth 100000 in
theorem xcw_21 : lw_tbl[107]? = some (Cond.code (xmY 21) (xmB 21) (xmL 21) (xmR 21)) := rfl
set_option maxRecDepth 100000 in
theorem xcw_22 : lw_tbl[446]? = some (Cond.code (xmY 22) (xmB 22) (xmL 22) (xmR 22)) := rfl
set_option maxRecDepth 100000 in
theorem xcw_23 : lw_tbl[450]? = some (Cond.code (xmY 23) (xmB 23) (xmL 23) (xmR 23)) := rfl
set_option maxRecDepth 100000 in
theorem xcw_24 : lw_tbl[459]? = some (Cond.code (xmY 24) (xmB 24) (xmL 24) (xmR 24)) := rfl
set_option maxRecDepth 100000 in
theorem xcw_25 : lw_tbl[483]? = some (Cond.code (xmY 25) (xmB 25) (xmL 25) (xmR 25)) := rfl
set_option maxRecDepth 100000 in
theorem xcw_26 : lw_tbl[478]? = some (Cond.code (xmY 26) (xmB 26) (xmL 26) (xmR 26)) := rfl
set_option maxRecDepth 100000 in
theorem xcw_27 : lw_tbl[502]? = some (Cond.code (xmY 27) (xmB 27) (xmL 27) (xmR 27)) := rfl
set_option maxRecDepth 100000 in
theorem xcw_28 : lw_tbl[498]? = some (Cond.code (xmY 28) (xmB 28) (xmL 28) (xmR 28)) := rfl
set_option maxRecDepth 100000 in
theorem xcw_29 : lw_tbl[470]? = some (Cond.code (xmY 29) (xmB 29) (xmL 29) (xmR 29)) := rfl
set_option maxRecDepth 100000 in
theorem xcw_30 : lw_tbl[474]? = some (Cond.code (xmY 30) (xmB 30) (xmL 30) (xmR 30)) := rfl
set_option maxRecDepth 100000 in
theorem xcw_31 : lw_tbl[487]? = some (Cond.code (xmY 31) (xmB 31) (xmL 31) (xmR 31)) := rfl
set_option maxRecDepth 100000 in
theorem xcw_32 : lw_tbl[491]? = some (Cond.code (xmY 32) (xmB 32) (xmL 32) (xmR 32)) := rfl
set_option maxRecDepth 100000 in
theorem xcw_33 : lw_tbl[266]? = some (Cond.code (xmY 33) (xmB 33) (xmL 33) (xmR 33)) := rfl
set_option maxRecDepth 100000 in
theorem xcw_34 : lw_tbl[410]? = some (Cond.code (xmY 34) (xmB 34) (xmL 34) (xmR 34)) := rfl
set_option maxRecDepth 100000 in
theorem xcw_35 : lw_tbl[648]? = some (Cond.code (xmY 35) (xmB 35) (xmL 35) (xmR 35)) := rfl
set_option maxRecDepth 100000 in
theorem xcw_36 : lw_tbl[941]? = some (Cond.code (xmY 36) (xmB 36) (xmL 36) (xmR 36)) := rfl
set_option maxRecDepth 100000 in
theorem xcw_37 : lw_tbl[725]? = some (Cond.code (xmY 37) (xmB 37) (xmL 37) (xmR 37)) := rfl
set_option maxRecDepth 100000 in
theorem xcw_38 : lw_tbl[740]? = some (Cond.code (xmY 38) (xmB 38) (xmL 38) (xmR 38)) := rfl
set_option maxRecDepth 100000 in
theorem xcw_39 : lw_tbl[666]? = some (Cond.code (xmY 39) (xmB 39) (xmL 39) (xmR 39)) := rfl
set_option maxRecDepth 100000 in
theorem xcw_40 : lw_tbl[697]? = some (Cond.code (xmY 40) (xmB 40) (xmL 40) (xmR 40)) := rfl
set_option maxRecDepth 100000 in
theorem xcw_41 : lw_tbl[736]? = some (Cond.code (xmY 41) (xmB 41) (xmL 41) (xmR 41)) := rfl
set_option maxRecDepth 100000 in
theorem xcw_42 : lw_tbl[753]? = some (Cond.code (xmY 42) (xmB 42) (xmL 42) (xmR 42)) := rfl
set_option maxRecDepth 100000 in
theorem xcw_43 : lw_tbl[756]? = some (Cond.code (xmY 43) (xmB 43) (xmL 43) (xmR 43)) := rfl
set_option maxRecDepth 100000 in
theorem xcw_44 : lw_tbl[760]? = some (Cond.code (xmY 44) (xmB 44) (xmL 44) (xmR 44)) := rfl
set_option maxRecDepth 100000 in
theorem xcw_45 : lw_tbl[744]? = some (Cond.code (xmY 45) (xmB 45) (xmL 45) (xmR 45)) := rfl
set_option maxRecDepth 100000 in
theorem xcw_46 : lw_tbl[671]? = some (Cond.code (xmY 46) (xmB 46) (xmL 46) (xmR 46)) := rfl
set_option maxRecDepth 100000 in
theorem xcw_47 : lw_tbl[652]? = some (Cond.code (xmY 47) (xmB 47) (xmL 47) (xmR 47)) := rfl
set_option maxRecDepth 100000 in
theorem xcw_48 : lw_tbl[661]? = some (Cond.code (xmY 48) (xmB 48) (xmL 48) (xmR 48)) := rfl
set_option maxRecDepth 100000 in
theorem xcw_49 : lw_tbl[274]? = some (Cond.code (xmY 49) (xmB 49) (xmL 49) (xmR 49)) := rfl
set_option maxRecDepth 100000 in
theorem xcw_50 : lw_tbl[123]? = some (Cond.code (xmY 50) (xmB 50) (xmL 50) (xmR 50)) := rfl
set_option maxRecDepth 100000 in
theorem xcw_51 : lw_tbl[402]? = some (Cond.code (xmY 51) (xmB 51) (xmL 51) (xmR 51)) := rfl
set_option maxRecDepth 100000 in
theorem xcw_52 : lw_tbl[630]? = some (Cond.code (xmY 52) (xmB 52) (xmL 52) (xmR 52)) := rfl
set_option maxRecDepth 100000 in
theorem xcw_53 : lw_tbl[964]? = some (Cond.code (xmY 53) (xmB 53) (xmL 53) (xmR 53)) := rfl
set_option maxRecDepth 100000 in
theorem xcw_54 : lw_tbl[172]? = some (Cond.code (xmY 54) (xmB 54) (xmL 54) (xmR 54)) := rfl
set_option maxRecDepth 100000 in
theorem xcw_55 : lw_tbl[596]? = some (Cond.code (xmY 55) (xmB 55) (xmL 55) (xmR 55)) := rfl
set_option maxRecDepth 100000 in
theorem xcw_56 : lw_tbl[921]? = some (Cond.code (xmY 56) (xmB 56) (xmL 56) (xmR 56)) := rfl
set_option maxRecDepth 100000 in
theorem xcw_57 : lw_tbl[602]? = some (Cond.code (xmY 57) (xmB 57) (xmL 57) (xmR 57)) := rfl
set_option maxRecDepth 100000 in
theorem xcw_58 : lw_tbl[976]? = some (Cond.code (xmY 58) (xmB 58) (xmL 58) (xmR 58)) := rfl
set_option maxRecDepth 100000 in
theorem xcw_59 : lw_tbl[693]? = some (Cond.code (xmY 59) (xmB 59) (xmL 59) (xmR 59)) := rfl
set_option maxRecDepth 100000 in
theorem xcw_60 : lw_tbl[613]? = some (Cond.code (xmY 60) (xmB 60) (xmL 60) (xmR 60)) := rfl
set_option maxRecDepth 100000 in
theorem xcw_61 : lw_tbl[618]? = some (Cond.code (xmY 61) (xmB 61) (xmL 61) (xmR 61)) := rfl
set_option maxRecDepth 100000 in
theorem xcw_62 : lw_tbl[886]? = some (Cond.code (xmY 62) (xmB 62) (xmL 62) (xmR 62)) := rfl
set_option maxRecDepth 100000 in
theorem xcw_63 : lw_tbl[786]? = some (Cond.code (xmY 63) (xmB 63) (xmL 63) (xmR 63)) := rfl
set_option maxRecDepth 100000 in
theorem xcw_64 : lw_tbl[237]? = some (Cond.code (xmY 64) (xmB 64) (xmL 64) (xmR 64)) := rfl
set_option maxRecDepth 100000 in
theorem xcw_65 : lw_tbl[644]? = some (Cond.code (xmY 65) (xmB 65) (xmL 65) (xmR 65)) := rfl
set_option maxRecDepth 100000 in
theorem xcw_66 : lw_tbl[246]? = some (Cond.code (xmY 66) (xmB 66) (xmL 66) (xmR 66)) := rfl
set_option maxRecDepth 100000 in
theorem xcw_67 : lw_tbl[253]? = some (Cond.code (xmY 67) (xmB 67) (xmL 67) (xmR 67)) := rfl
set_option maxRecDepth 100000 in
theorem xcw_68 : lw_tbl[242]? = some (Cond.code (xmY 68) (xmB 68) (xmL 68) (xmR 68)) := rfl
set_option maxRecDepth 100000 in
theorem xcw_69 : lw_tbl[129]? = some (Cond.code (xmY 69) (xmB 69) (xmL 69) (xmR 69)) := rfl
set_option maxRecDepth 100000 in
theorem xcw_70 : lw_tbl[397]? = some (Cond.code (xmY 70) (xmB 70) (xmL 70) (xmR 70)) := rfl
set_option maxRecDepth 100000 in
theorem xcw_71 : lw_tbl[968]? = some (Cond.code (xmY 71) (xmB 71) (xmL 71) (xmR 71)) := rfl
set_option maxRecDepth 100000 in
theorem xcw_72 : lw_tbl[134]? = some (Cond.code (xmY 72) (xmB 72) (xmL 72) (xmR 72)) := rfl
set_option maxRecDepth 100000 in
theorem xcw_73 : lw_tbl[147]? = some (Cond.code (xmY 73) (xmB 73) (xmL 73) (xmR 73)) := rfl
set_option maxRecDepth 100000 in
theorem xcw_74 : lw_tbl[422]? = some (Cond.code (xmY 74) (xmB 74) (xmL 74) (xmR 74)) := rfl
set_option maxRecDepth 100000 in
theorem xcw_75 : lw_tbl[656]? = some (Cond.code (xmY 75) (xmB 75) (xmL 75) (xmR 75)) := rfl
set_option maxRecDepth 100000 in
theorem xcw_76 : lw_tbl[702]? = some (Cond.code (xmY 76) (xmB 76) (xmL 76) (xmR 76)) := rfl
set_option maxRecDepth 100000 in
theorem xcw_77 : lw_tbl[437]? = some (Cond.code (xmY 77) (xmB 77) (xmL 77) (xmR 77)) := rfl
set_option maxRecDepth 100000 in
theorem xcw_78 : lw_tbl[429]? = some (Cond.code (xmY 78) (xmB 78) (xmL 78) (xmR 78)) := rfl
set_option maxRecDepth 100000 in
theorem xcw_79 : lw_tbl[890]? = some (Cond.code (xmY 79) (xmB 79) (xmL 79) (xmR 79)) := rfl
set_option maxRecDepth 100000 in
theorem xcw_80 : lw_tbl[989]? = some (Cond.code (xmY 80) (xmB 80) (xmL 80) (xmR 80)) := rfl
set_option maxRecDepth 100000 in
theorem xcw_81 : lw_tbl[99]? = some (Cond.code (xmY 81) (xmB 81) (xmL 81) (xmR 81)) := rfl
set_option maxRecDepth 100000 in
theorem xcw_82 : lw_tbl[393]? = some (Cond.code (xmY 82) (xmB 82) (xmL 82) (xmR 82)) := rfl
set_option maxRecDepth 100000 in
theorem xcw_83 : lw_tbl[418]? = some (Cond.code (xmY 83) (xmB 83) (xmL 83) (xmR 83)) := rfl
set_option maxRecDepth 100000 in
theorem xcw_84 : lw_tbl[433]? = some (Cond.code (xmY 84) (xmB 84) (xmL 84) (xmR 84)) := rfl
set_option maxRecDepth 100000 in
theorem xcw_85 : lw_tbl[442]? = some (Cond.code (xmY 85) (xmB 85) (xmL 85) (xmR 85)) := rfl
set_option maxRecDepth 100000 in
theorem xcw_86 : lw_tbl[455]? = some (Cond.code (xmY 86) (xmB 86) (xmL 86) (xmR 86)) := rfl
set_option maxRecDepth 100000 in
theorem xcw_87 : lw_tbl[463]? = some (Cond.code (xmY 87) (xmB 87) (xmL 87) (xmR 87)) := rfl
set_option maxRecDepth 100000 in
theorem xcw_88 : lw_tbl[592]? = some (Cond.code (xmY 88) (xmB 88) (xmL 88) (xmR 88)) := rfl
set_option maxRecDepth 100000 in
theorem xcw_89 : lw_tbl[609]? = some (Cond.code (xmY 89) (xmB 89) (xmL 89) (xmR 89)) := rfl
set_option maxRecDepth 100000 in
theorem xcw_90 : lw_tbl[626]? = some (Cond.code (xmY 90) (xmB 90) (xmL 90) (xmR 90)) := rfl
set_option maxRecDepth 100000 in
theorem xcw_91 : lw_tbl[635]? = some (Cond.code (xmY 91) (xmB 91) (xmL 91) (xmR 91)) := rfl
set_option maxRecDepth 100000 in
theorem xcw_92 : lw_tbl[675]? = some (Cond.code (xmY 92) (xmB 92) (xmL 92) (xmR 92)) := rfl
set_option maxRecDepth 100000 in
theorem xcw_93 : lw_tbl[682]? = some (Cond.code (xmY 93) (xmB 93) (xmL 93) (xmR 93)) := rfl
set_option maxRecDepth 100000 in
theorem xcw_94 : lw_tbl[706]? = some (Cond.code (xmY 94) (xmB 94) (xmL 94) (xmR 94)) := rfl
set_option maxRecDepth 100000 in
theorem xcw_95 : lw_tbl[710]? = some (Cond.code (xmY 95) (xmB 95) (xmL 95) (xmR 95)) := rfl
set_option maxRecDepth 100000 in
theorem xcw_96 : lw_tbl[851]? = some (Cond.code (xmY 96) (xmB 96) (xmL 96) (xmR 96)) := rfl
set_option maxRecDepth 100000 in
theorem xcw_97 : lw_tbl[855]? = some (Cond.code (xmY 97) (xmB 97) (xmL 97) (xmR 97)) := rfl
set_option maxRecDepth 100000 in
theorem xcw_98 : lw_tbl[878]? = some (Cond.code (xmY 98) (xmB 98) (xmL 98) (xmR 98)) := rfl
set_option maxRecDepth 100000 in
theorem xcw_99 : lw_tbl[909]? = some (Cond.code (xmY 99) (xmB 99) (xmL 99) (xmR 99)) := rfl
set_option maxRecDepth 100000 in
theorem xcw_100 : lw_tbl[925]? = some (Cond.code (xmY 100) (xmB 100) (xmL 100) (xmR 100)) := rfl
set_option maxRecDepth 100000 in
theorem xcw_101 : lw_tbl[945]? = some (Cond.code (xmY 101) (xmB 101) (xmL 101) (xmR 101)) := rfl
set_option maxRecDepth 100000 in
theorem xcw_102 : lw_tbl[956]? = some (Cond.code (xmY 102) (xmB 102) (xmL 102) (xmR 102)) := rfl
set_option maxRecDepth 100000 in
theorem xcw_103 : lw_tbl[981]? = some (Cond.code (xmY 103) (xmB 103) (xmL 103) (xmR 103)) := rfl
set_option maxRecDepth 100000 in
theorem xcw_104 : lw_tbl[985]? = some (Cond.code (xmY 104) (xmB 104) (xmL 104) (xmR 104)) := rfl
set_option maxRecDepth 100000 in
theorem xcw_105 : lw_tbl[639]? = some (Cond.code (xmY 105) (xmB 105) (xmL 105) (xmR 105)) := rfl
set_option maxRecDepth 100000 in
theorem xcw_106 : lw_tbl[689]? = some (Cond.code (xmY 106) (xmB 106) (xmL 106) (xmR 106)) := rfl
set_option maxRecDepth 100000 in
theorem xcw_107 : lw_tbl[714]? = some (Cond.code (xmY 107) (xmB 107) (xmL 107) (xmR 107)) := rfl
set_option maxRecDepth 100000 in
theorem xcw_108 : lw_tbl[732]? = some (Cond.code (xmY 108) (xmB 108) (xmL 108) (xmR 108)) := rfl
set_option maxRecDepth 100000 in
theorem xcw_109 : lw_tbl[859]? = some (Cond.code (xmY 109) (xmB 109) (xmL 109) (xmR 109)) := rfl
set_option maxRecDepth 100000 in
theorem xcw_110 : lw_tbl[863]? = some (Cond.code (xmY 110) (xmB 110) (xmL 110) (xmR 110)) := rfl
set_option maxRecDepth 100000 in
theorem xcw_111 : lw_tbl[868]? = some (Cond.code (xmY 111) (xmB 111) (xmL 111) (xmR 111)) := rfl
set_option maxRecDepth 100000 in
theorem xcw_112 : lw_tbl[873]? = some (Cond.code (xmY 112) (xmB 112) (xmL 112) (xmR 112)) := rfl
set_option maxRecDepth 100000 in
theorem xcw_113 : lw_tbl[894]? = some (Cond.code (xmY 113) (xmB 113) (xmL 113) (xmR 113)) := rfl
set_option maxRecDepth 100000 in
theorem xcw_114 : lw_tbl[882]? = some (Cond.code (xmY 114) (xmB 114) (xmL 114) (xmR 114)) := rfl
set_option maxRecDepth 100000 in
theorem xcw_115 : lw_tbl[898]? = some (Cond.code (xmY 115) (xmB 115) (xmL 115) (xmR 115)) := rfl
set_option maxRecDepth 100000 in
theorem xcw_116 : lw_tbl[903]? = some (Cond.code (xmY 116) (xmB 116) (xmL 116) (xmR 116)) := rfl
set_option maxRecDepth 100000 in
theorem xcw_117 : lw_tbl[949]? = some (Cond.code (xmY 117) (xmB 117) (xmL 117) (xmR 117)) := rfl
set_option maxRecDepth 100000 in
theorem xcw_118 : lw_tbl[952]? = some (Cond.code (xmY 118) (xmB 118) (xmL 118) (xmR 118)) := rfl
set_option maxRecDepth 100000 in
theorem xcw_119 : lw_tbl[913]? = some (Cond.code (xmY 119) (xmB 119) (xmL 119) (xmR 119)) := rfl
set_option maxRecDepth 100000 in
theorem xcw_120 : lw_tbl[917]? = some (Cond.code (xmY 120) (xmB 120) (xmL 120) (xmR 120)) := rfl
set_option maxRecDepth 100000 in
theorem xcw_121 : lw_tbl[929]? = some (Cond.code (xmY 121) (xmB 121) (xmL 121) (xmR 121)) := rfl
set_option maxRecDepth 100000 in
theorem xcw_122 : lw_tbl[933]? = some (Cond.code (xmY 122) (xmB 122) (xmL 122) (xmR 122)) := rfl
set_option maxRecDepth 100000 in
theorem xcw_123 : lw_tbl[937]? = some (Cond.code (xmY 123) (xmB 123) (xmL 123) (xmR 123)) := rfl
set_option maxRecDepth 100000 in
theorem xcw_124 : lw_tbl[960]? = some (Cond.code (xmY 124) (xmB 124) (xmL 124) (xmR 124)) := rfl
set_option maxRecDepth 100000 in
theorem xcw_125 : lw_tbl[406]? = some (Cond.code (xmY 125) (xmB 125) (xmL 125) (xmR 125)) := rfl
set_option maxRecDepth 100000 in
theorem xcw_126 : lw_tbl[685]? = some (Cond.code (xmY 126) (xmB 126) (xmL 126) (xmR 126)) := rfl
set_option maxRecDepth 100000 in
theorem xcw_127 : lw_tbl[466]? = some (Cond.code (xmY 127) (xmB 127) (xmL 127) (xmR 127)) := rfl
set_option maxRecDepth 100000 in
theorem xcw_128 : lw_tbl[717]? = some (Cond.code (xmY 128) (xmB 128) (xmL 128) (xmR 128)) := rfl
set_option maxRecDepth 100000 in
theorem xcw_129 : lw_tbl[728]? = some (Cond.code (xmY 129) (xmB 129) (xmL 129) (xmR 129)) := rfl
set_option maxRecDepth 100000 in
theorem xcw_130 : lw_tbl[249]? = some (Cond.code (xmY 130) (xmB 130) (xmL 130) (xmR 130)) := rfl
set_option maxRecDepth 100000 in
theorem xcw_131 : lw_tbl[150]? = some (Cond.code (xmY 131) (xmB 131) (xmL 131) (xmR 131)) := rfl
set_option maxRecDepth 100000 in
theorem xcw_132 : lw_tbl[971]? = some (Cond.code (xmY 132) (xmB 132) (xmL 132) (xmR 132)) := rfl
set_option maxRecDepth 100000 in
theorem xcw_133 : lw_tbl[137]? = some (Cond.code (xmY 133) (xmB 133) (xmL 133) (xmR 133)) := rfl
set_option maxRecDepth 100000 in
theorem xcw_134 : lw_tbl[140]? = some (Cond.code (xmY 134) (xmB 134) (xmL 134) (xmR 134)) := rfl
set_option maxRecDepth 100000 in
theorem xcw_135 : lw_tbl[143]? = some (Cond.code (xmY 135) (xmB 135) (xmL 135) (xmR 135)) := rfl
set_option maxRecDepth 100000 in
theorem xcw_136 : lw_tbl[678]? = some (Cond.code (xmY 136) (xmB 136) (xmL 136) (xmR 136)) := rfl
set_option maxRecDepth 100000 in
theorem xcw_200 : lw_tbl[994]? = some (Cond.code (xmY 200) (xmB 200) (xmL 200) (xmR 200)) := rfl
set_option maxRecDepth 100000 in
theorem xcw_201 : lw_tbl[1147]? = some (Cond.code (xmY 201) (xmB 201) (xmL 201) (xmR 201)) := rfl
set_option maxRecDepth 100000 in
theorem xcw_202 : lw_tbl[1211]? = some (Cond.code (xmY 202) (xmB 202) (xmL 202) (xmR 202)) := rfl
set_option maxRecDepth 100000 in
theorem xcw_203 : lw_tbl[1003]? = some (Cond.code (xmY 203) (xmB 203) (xmL 203) (xmR 203)) := rfl
set_option maxRecDepth 100000 in
theorem xcw_204 : lw_tbl[1007]? = some (Cond.code (xmY 204) (xmB 204) (xmL 204) (xmR 204)) := rfl
set_option maxRecDepth 100000 in
theorem xcw_205 : lw_tbl[999]? = some (Cond.code (xmY 205) (xmB 205) (xmL 205) (xmR 205)) := rfl
set_option maxRecDepth 100000 in
theorem xcw_206 : lw_tbl[1160]? = some (Cond.code (xmY 206) (xmB 206) (xmL 206) (xmR 206)) := rfl
set_option maxRecDepth 100000 in
theorem xcw_207 : lw_tbl[1156]? = some (Cond.code (xmY 207) (xmB 207) (xmL 207) (xmR 207)) := rfl
set_option maxRecDepth 100000 in
theorem xcw_208 : lw_tbl[1164]? = some (Cond.code (xmY 208) (xmB 208) (xmL 208) (xmR 208)) := rfl
set_option maxRecDepth 100000 in
theorem xcw_209 : lw_tbl[1171]? = some (Cond.code (xmY 209) (xmB 209) (xmL 209) (xmR 209)) := rfl
set_option maxRecDepth 100000 in
theorem xcw_210 : lw_tbl[1265]? = some (Cond.code (xmY 210) (xmB 210) (xmL 210) (xmR 210)) := rfl
set_option maxRecDepth 100000 in
theorem xcw_211 : lw_tbl[1143]? = some (Cond.code (xmY 211) (xmB 211) (xmL 211) (xmR 211)) := rfl
set_option maxRecDepth 100000 in
theorem xcw_212 : lw_tbl[1152]? = some (Cond.code (xmY 212) (xmB 212) (xmL 212) (xmR 212)) := rfl
set_option maxRecDepth 100000 in
theorem xcw_213 : lw_tbl[1168]? = some (Cond.code (xmY 213) (xmB 213) (xmL 213) (xmR 213)) := rfl
set_option maxRecDepth 100000 in
theorem xcw_214 : lw_tbl[1175]? = some (Cond.code (xmY 214) (xmB 214) (xmL 214) (xmR 214)) := rfl
set_option maxRecDepth 100000 in
theorem xcw_215 : lw_tbl[1181]? = some (Cond.code (xmY 215) (xmB 215) (xmL 215) (xmR 215)) := rfl
set_option maxRecDepth 100000 in
theorem xcw_216 : lw_tbl[1195]? = some (Cond.code (xmY 216) (xmB 216) (xmL 216) (xmR 216)) := rfl
set_option maxRecDepth 100000 in
theorem xcw_217 : lw_tbl[1189]? = some (Cond.code (xmY 217) (xmB 217) (xmL 217) (xmR 217)) := rfl
set_option maxRecDepth 100000 in
theorem xcw_218 : lw_tbl[1204]? = some (Cond.code (xmY 218) (xmB 218) (xmL 218) (xmR 218)) := rfl
set_option maxRecDepth 100000 in
theorem xcw_219 : lw_tbl[1329]? = some (Cond.code (xmY 219) (xmB 219) (xmL 219) (xmR 219)) := rfl
set_option maxRecDepth 100000 in
theorem xcw_220 : lw_tbl[1201]? = some (Cond.code (xmY 220) (xmB 220) (xmL 220) (xmR 220)) := rfl
set_option maxRecDepth 100000 in
theorem xcw_221 : lw_tbl[1185]? = some (Cond.code (xmY 221) (xmB 221) (xmL 221) (xmR 221)) := rfl
set_option maxRecDepth 100000 in
theorem xcw_222 : lw_tbl[1208]? = some (Cond.code (xmY 222) (xmB 222) (xmL 222) (xmR 222)) := rfl
set_option maxRecDepth 100000 in
theorem xcw_223 : lw_tbl[1224]? = some (Cond.code (xmY 223) (xmB 223) (xmL 223) (xmR 223)) := rfl
set_option maxRecDepth 100000 in
theorem xcw_224 : lw_tbl[1220]? = some (Cond.code (xmY 224) (xmB 224) (xmL 224) (xmR 224)) := rfl
set_option maxRecDepth 100000 in
theorem xcw_225 : lw_tbl[1216]? = some (Cond.code (xmY 225) (xmB 225) (xmL 225) (xmR 225)) := rfl
set_option maxRecDepth 100000 in
theorem xcw_226 : lw_tbl[1228]? = some (Cond.code (xmY 226) (xmB 226) (xmL 226) (xmR 226)) := rfl
set_option maxRecDepth 100000 in
theorem xcw_227 : lw_tbl[1242]? = some (Cond.code (xmY 227) (xmB 227) (xmL 227) (xmR 227)) := rfl
set_option maxRecDepth 100000 in
theorem xcw_228 : lw_tbl[1254]? = some (Cond.code (xmY 228) (xmB 228) (xmL 228) (xmR 228)) := rfl
set_option maxRecDepth 100000 in
theorem xcw_229 : lw_tbl[1258]? = some (Cond.code (xmY 229) (xmB 229) (xmL 229) (xmR 229)) := rfl
set_option maxRecDepth 100000 in
theorem xcw_230 : lw_tbl[1250]? = some (Cond.code (xmY 230) (xmB 230) (xmL 230) (xmR 230)) := rfl
set_option maxRecDepth 100000 in
theorem xcw_231 : lw_tbl[1246]? = some (Cond.code (xmY 231) (xmB 231) (xmL 231) (xmR 231)) := rfl
set_option maxRecDepth 100000 in
theorem xcw_232 : lw_tbl[1238]? = some (Cond.code (xmY 232) (xmB 232) (xmL 232) (xmR 232)) := rfl
set_option maxRecDepth 100000 in
theorem xcw_233 : lw_tbl[1234]? = some (Cond.code (xmY 233) (xmB 233) (xmL 233) (xmR 233)) := rfl
set_option maxRecDepth 100000 in
theorem xcw_234 : lw_tbl[1262]? = some (Cond.code (xmY 234) (xmB 234) (xmL 234) (xmR 234)) := rfl
set_option maxRecDepth 100000 in
theorem xcw_235 : lw_tbl[1277]? = some (Cond.code (xmY 235) (xmB 235) (xmL 235) (xmR 235)) := rfl
set_option maxRecDepth 100000 in
theorem xcw_236 : lw_tbl[1273]? = some (Cond.code (xmY 236) (xmB 236) (xmL 236) (xmR 236)) := rfl
set_option maxRecDepth 100000 in
theorem xcw_237 : lw_tbl[1269]? = some (Cond.code (xmY 237) (xmB 237) (xmL 237) (xmR 237)) := rfl
set_option maxRecDepth 100000 in
theorem xcw_238 : lw_tbl[1281]? = some (Cond.code (xmY 238) (xmB 238) (xmL 238) (xmR 238)) := rfl
set_option maxRecDepth 100000 in
theorem xcw_239 : lw_tbl[1297]? = some (Cond.code (xmY 239) (xmB 239) (xmL 239) (xmR 239)) := rfl
set_option maxRecDepth 100000 in
theorem xcw_240 : lw_tbl[1309]? = some (Cond.code (xmY 240) (xmB 240) (xmL 240) (xmR 240)) := rfl
set_option maxRecDepth 100000 in
theorem xcw_241 : lw_tbl[1305]? = some (Cond.code (xmY 241) (xmB 241) (xmL 241) (xmR 241)) := rfl
set_option maxRecDepth 100000 in
theorem xcw_242 : lw_tbl[1301]? = some (Cond.code (xmY 242) (xmB 242) (xmL 242) (xmR 242)) := rfl
set_option maxRecDepth 100000 in
theorem xcw_243 : lw_tbl[1313]? = some (Cond.code (xmY 243) (xmB 243) (xmL 243) (xmR 243)) := rfl
set_option maxRecDepth 100000 in
theorem xcw_244 : lw_tbl[1293]? = some (Cond.code (xmY 244) (xmB 244) (xmL 244) (xmR 244)) := rfl
set_option maxRecDepth 100000 in
theorem xcw_245 : lw_tbl[1318]? = some (Cond.code (xmY 245) (xmB 245) (xmL 245) (xmR 245)) := rfl
set_option maxRecDepth 100000 in
theorem xcw_246 : lw_tbl[1326]? = some (Cond.code (xmY 246) (xmB 246) (xmL 246) (xmR 246)) := rfl
set_option maxRecDepth 100000 in
theorem xcw_247 : lw_tbl[1322]? = some (Cond.code (xmY 247) (xmB 247) (xmL 247) (xmR 247)) := rfl
set_option maxRecDepth 100000 in
theorem xcw_248 : lw_tbl[1288]? = some (Cond.code (xmY 248) (xmB 248) (xmL 248) (xmR 248)) := rfl
set_option maxRecDepth 100000 in
theorem xcw_249 : lw_tbl[1285]? = some (Cond.code (xmY 249) (xmB 249) (xmL 249) (xmR 249)) := rfl
set_option maxRecDepth 100000 in
theorem xcw_250 : lw_tbl[1333]? = some (Cond.code (xmY 250) (xmB 250) (xmL 250) (xmR 250)) := rfl
set_option maxRecDepth 100000 in
theorem xcw_251 : lw_tbl[1342]? = some (Cond.code (xmY 251) (xmB 251) (xmL 251) (xmR 251)) := rfl
set_option maxRecDepth 100000 in
theorem xcw_252 : lw_tbl[1354]? = some (Cond.code (xmY 252) (xmB 252) (xmL 252) (xmR 252)) := rfl
set_option maxRecDepth 100000 in
theorem xcw_253 : lw_tbl[1350]? = some (Cond.code (xmY 253) (xmB 253) (xmL 253) (xmR 253)) := rfl
set_option maxRecDepth 100000 in
theorem xcw_254 : lw_tbl[1346]? = some (Cond.code (xmY 254) (xmB 254) (xmL 254) (xmR 254)) := rfl
set_option maxRecDepth 100000 in
theorem xcw_255 : lw_tbl[1358]? = some (Cond.code (xmY 255) (xmB 255) (xmL 255) (xmR 255)) := rfl
set_option maxRecDepth 100000 in
theorem xcw_256 : lw_tbl[1337]? = some (Cond.code (xmY 256) (xmB 256) (xmL 256) (xmR 256)) := rfl
set_option maxRecDepth 100000 in
theorem xcw_257 : lw_tbl[1366]? = some (Cond.code (xmY 257) (xmB 257) (xmL 257) (xmR 257)) := rfl
set_option maxRecDepth 100000 in
theorem xcw_258 : lw_tbl[1370]? = some (Cond.code (xmY 258) (xmB 258) (xmL 258) (xmR 258)) := rfl
set_option maxRecDepth 100000 in
theorem xcw_259 : lw_tbl[1362]? = some (Cond.code (xmY 259) (xmB 259) (xmL 259) (xmR 259)) := rfl
set_option maxRecDepth 100000 in
theorem xcw_260 : lw_tbl[1382]? = some (Cond.code (xmY 260) (xmB 260) (xmL 260) (xmR 260)) := rfl
set_option maxRecDepth 100000 in
theorem xcw_261 : lw_tbl[1378]? = some (Cond.code (xmY 261) (xmB 261) (xmL 261) (xmR 261)) := rfl
set_option maxRecDepth 100000 in
theorem xcw_262 : lw_tbl[1374]? = some (Cond.code (xmY 262) (xmB 262) (xmL 262) (xmR 262)) := rfl
set_option maxRecDepth 100000 in
theorem xcw_263 : lw_tbl[1394]? = some (Cond.code (xmY 263) (xmB 263) (xmL 263) (xmR 263)) := rfl
set_option maxRecDepth 100000 in
theorem xcw_264 : lw_tbl[1390]? = some (Cond.code (xmY 264) (xmB 264) (xmL 264) (xmR 264)) := rfl
set_option maxRecDepth 100000 in
theorem xcw_265 : lw_tbl[1386]? = some (Cond.code (xmY 265) (xmB 265) (xmL 265) (xmR 265)) := rfl
set_option maxRecDepth 100000 in
theorem xcw_266 : lw_tbl[1398]? = some (Cond.code (xmY 266) (xmB 266) (xmL 266) (xmR 266)) := rfl
set_option maxRecDepth 100000 in
theorem xcw_267 : lw_tbl[1410]? = some (Cond.code (xmY 267) (xmB 267) (xmL 267) (xmR 267)) := rfl
set_option maxRecDepth 100000 in
theorem xcw_268 : lw_tbl[1406]? = some (Cond.code (xmY 268) (xmB 268) (xmL 268) (xmR 268)) := rfl
set_option maxRecDepth 100000 in
theorem xcw_269 : lw_tbl[1402]? = some (Cond.code (xmY 269) (xmB 269) (xmL 269) (xmR 269)) := rfl
set_option maxRecDepth 100000 in
theorem xcw_270 : lw_tbl[1414]? = some (Cond.code (xmY 270) (xmB 270) (xmL 270) (xmR 270)) := rfl
set_option maxRecDepth 100000 in
theorem xcw_271 : lw_tbl[1418]? = some (Cond.code (xmY 271) (xmB 271) (xmL 271) (xmR 271)) := rfl
theorem xcv_0 : ∀ x ∈ [0, 1, 2, 3, 4, 5, 6, 7, 8, 9, 10, 11, 12, 13, 14, 15, 16, 17, 18, 19, 20, 21, 22, 23, 24, 25, 26, 27, 28, 29, 30, 31, 32, 33, 34, 35, 36, 37, 38, 39], Cond.code (xmY x) (xmB x) (xmL x) (xmR x) ∈ xw := List.forall_mem_cons.mpr ⟨xw_in xcw_0 rfl, List.forall_mem_cons.mpr ⟨xw_in xcw_1 rfl, List.forall_mem_cons.mpr ⟨xw_in xcw_2 rfl, List.forall_mem_cons.mpr ⟨xw_in xcw_3 rfl, List.forall_mem_cons.mpr ⟨xw_in xcw_4 rfl, List.forall_mem_cons.mpr ⟨xw_in xcw_5 rfl, List.forall_mem_cons.mpr ⟨xw_in xcw_6 rfl, List.forall_mem_cons.mpr ⟨xw_in xcw_7 rfl, List.forall_mem_cons.mpr ⟨xw_in xcw_8 rfl, List.forall_mem_cons.mpr ⟨xw_in xcw_9 rfl, List.forall_mem_cons.mpr ⟨xw_in xcw_10 rfl, List.forall_mem_cons.mpr ⟨xw_in xcw_11 rfl, List.forall_mem_cons.mpr ⟨xw_in xcw_12 rfl, List.forall_mem_cons.mpr ⟨xw_in xcw_13 rfl, List.forall_mem_cons.mpr ⟨xw_in xcw_14 rfl, List.forall_mem_cons.mpr ⟨xw_in xcw_15 rfl, List.forall_mem_cons.mpr ⟨xw_in xcw_16 rfl, List.forall_mem_cons.mpr ⟨xw_in xcw_17 rfl, List.forall_mem_cons.mpr ⟨xw_in xcw_18 rfl, List.forall_mem_cons.mpr ⟨xw_in xcw_19 rfl, List.forall_mem_cons.mpr ⟨xw_in xcw_20 rfl, List.forall_mem_cons.mpr ⟨xw_in xcw_21 rfl, List.forall_mem_cons.mpr ⟨xw_in xcw_22 rfl, List.forall_mem_cons.mpr ⟨xw_in xcw_23 rfl, List.forall_mem_cons.mpr ⟨xw_in xcw_24 rfl, List.forall_mem_cons.mpr ⟨xw_in xcw_25 rfl, List.forall_mem_cons.mpr ⟨xw_in xcw_26 rfl, List.forall_mem_cons.mpr ⟨xw_in xcw_27 rfl, List.forall_mem_cons.mpr ⟨xw_in xcw_28 rfl, List.forall_mem_cons.mpr ⟨xw_in xcw_29 rfl, List.forall_mem_cons.mpr ⟨xw_in xcw_30 rfl, List.forall_mem_cons.mpr ⟨xw_in xcw_31 rfl, List.forall_mem_cons.mpr ⟨xw_in xcw_32 rfl, List.forall_mem_cons.mpr ⟨xw_in xcw_33 rfl, List.forall_mem_cons.mpr ⟨xw_in xcw_34 rfl, List.forall_mem_cons.mpr ⟨xw_in xcw_35 rfl, List.forall_mem_cons.mpr ⟨xw_in xcw_36 rfl, List.forall_mem_cons.mpr ⟨xw_in xcw_37 rfl, List.forall_mem_cons.mpr ⟨xw_in xcw_38 rfl, List.forall_mem_cons.mpr ⟨xw_in xcw_39 rfl, fun _ h => absurd h List.not_mem_nil⟩⟩⟩⟩⟩⟩⟩⟩⟩⟩⟩⟩⟩⟩⟩⟩⟩⟩⟩⟩⟩⟩⟩⟩⟩⟩⟩⟩⟩⟩⟩⟩⟩⟩⟩⟩⟩⟩⟩⟩
theorem xcv_40 : ∀ x ∈ [40, 41, 42, 43, 44, 45, 46, 47, 48, 49, 50, 51, 52, 53, 54, 55, 56, 57, 58, 59, 60, 61, 62, 63, 64, 65, 66, 67, 68, 69, 70, 71, 72, 73, 74, 75, 76, 77, 78, 79], Cond.code (xmY x) (xmB x) (xmL x) (xmR x) ∈ xw := List.forall_mem_cons.mpr ⟨xw_in xcw_40 rfl, List.forall_mem_cons.mpr ⟨xw_in xcw_41 rfl, List.forall_mem_cons.mpr ⟨xw_in xcw_42 rfl, List.forall_mem_cons.mpr ⟨xw_in xcw_43 rfl, List.forall_mem_cons.mpr ⟨xw_in xcw_44 rfl, List.forall_mem_cons.mpr ⟨xw_in xcw_45 rfl, List.forall_mem_cons.mpr ⟨xw_in xcw_46 rfl, List.forall_mem_cons.mpr ⟨xw_in xcw_47 rfl, List.forall_mem_cons.mpr ⟨xw_in xcw_48 rfl, List.forall_mem_cons.mpr ⟨xw_in xcw_49 rfl, List.forall_mem_cons.mpr ⟨xw_in xcw_50 rfl, List.forall_mem_cons.mpr ⟨xw_in xcw_51 rfl, List.forall_mem_cons.mpr ⟨xw_in xcw_52 rfl, List.forall_mem_cons.mpr ⟨xw_in xcw_53 rfl, List.forall_mem_cons.mpr ⟨xw_in xcw_54 rfl, List.forall_mem_cons.mpr ⟨xw_in xcw_55 rfl, List.forall_mem_cons.mpr ⟨xw_in xcw_56 rfl, List.forall_mem_cons.mpr ⟨xw_in xcw_57 rfl, List.forall_mem_cons.mpr ⟨xw_in xcw_58 rfl, List.forall_mem_cons.mpr ⟨xw_in xcw_59 rfl, List.forall_mem_cons.mpr ⟨xw_in xcw_60 rfl, List.forall_mem_cons.mpr ⟨xw_in xcw_61 rfl, List.forall_mem_cons.mpr ⟨xw_in xcw_62 rfl, List.forall_mem_cons.mpr ⟨xw_in xcw_63 rfl, List.forall_mem_cons.mpr ⟨xw_in xcw_64 rfl, List.forall_mem_cons.mpr ⟨xw_in xcw_65 rfl, List.forall_mem_cons.mpr ⟨xw_in xcw_66 rfl, List.forall_mem_cons.mpr ⟨xw_in xcw_67 rfl, List.forall_mem_cons.mpr ⟨xw_in xcw_68 rfl, List.forall_mem_cons.mpr ⟨xw_in xcw_69 rfl, List.forall_mem_cons.mpr ⟨xw_in xcw_70 rfl, List.forall_mem_cons.mpr ⟨xw_in xcw_71 rfl, List.forall_mem_cons.mpr ⟨xw_in xcw_72 rfl, List.forall_mem_cons.mpr ⟨xw_in xcw_73 rfl, List.forall_mem_cons.mpr ⟨xw_in xcw_74 rfl, List.forall_mem_cons.mpr ⟨xw_in xcw_75 rfl, List.forall_mem_cons.mpr ⟨xw_in xcw_76 rfl, List.forall_mem_cons.mpr ⟨xw_in xcw_77 rfl, List.forall_mem_cons.mpr ⟨xw_in xcw_78 rfl, List.forall_mem_cons.mpr ⟨xw_in xcw_79 rfl, fun _ h => absurd h List.not_mem_nil⟩⟩⟩⟩⟩⟩⟩⟩⟩⟩⟩⟩⟩⟩⟩⟩⟩⟩⟩⟩⟩⟩⟩⟩⟩⟩⟩⟩⟩⟩⟩⟩⟩⟩⟩⟩⟩⟩⟩⟩
theorem xcv_80 : ∀ x ∈ [80, 81, 82, 83, 84, 85, 86, 87, 88, 89, 90, 91, 92, 93, 94, 95, 96, 97, 98, 99, 100, 101, 102, 103, 104, 105, 106, 107, 108, 109, 110, 111, 112, 113, 114, 115, 116, 117, 118, 119], Cond.code (xmY x) (xmB x) (xmL x) (xmR x) ∈ xw := List.forall_mem_cons.mpr ⟨xw_in xcw_80 rfl, List.forall_mem_cons.mpr ⟨xw_in xcw_81 rfl, List.forall_mem_cons.mpr ⟨xw_in xcw_82 rfl, List.forall_mem_cons.mpr ⟨xw_in xcw_83 rfl, List.forall_mem_cons.mpr ⟨xw_in xcw_84 rfl, List.forall_mem_cons.mpr ⟨xw_in xcw_85 rfl, List.forall_mem_cons.mpr ⟨xw_in xcw_86 rfl, List.forall_mem_cons.mpr ⟨xw_in xcw_87 rfl, List.forall_mem_cons.mpr ⟨xw_in xcw_88 rfl, List.forall_mem_cons.mpr ⟨xw_in xcw_89 rfl, List.forall_mem_cons.mpr ⟨xw_in xcw_90 rfl, List.forall_mem_cons.mpr ⟨xw_in xcw_91 rfl, List.forall_mem_cons.mpr ⟨xw_in xcw_92 rfl, List.forall_mem_cons.mpr ⟨xw_in xcw_93 rfl, List.forall_mem_cons.mpr ⟨xw_in xcw_94 rfl, List.forall_mem_cons.mpr ⟨xw_in xcw_95 rfl, List.forall_mem_cons.mpr ⟨xw_in xcw_96 rfl, List.forall_mem_cons.mpr ⟨xw_in xcw_97 rfl, List.forall_mem_cons.mpr ⟨xw_in xcw_98 rfl, List.forall_mem_cons.mpr ⟨xw_in xcw_99 rfl, List.forall_mem_cons.mpr ⟨xw_in xcw_100 rfl, List.forall_mem_cons.mpr ⟨xw_in xcw_101 rfl, List.forall_mem_cons.mpr ⟨xw_in xcw_102 rfl, List.forall_mem_cons.mpr ⟨xw_in xcw_103 rfl, List.forall_mem_cons.mpr ⟨xw_in xcw_104 rfl, List.forall_mem_cons.mpr ⟨xw_in xcw_105 rfl, List.forall_mem_cons.mpr ⟨xw_in xcw_106 rfl, List.forall_mem_cons.mpr ⟨xw_in xcw_107 rfl, List.forall_mem_cons.mpr ⟨xw_in xcw_108 rfl, List.forall_mem_cons.mpr ⟨xw_in xcw_109 rfl, List.forall_mem_cons.mpr ⟨xw_in xcw_110 rfl, List.forall_mem_cons.mpr ⟨xw_in xcw_111 rfl, List.forall_mem_cons.mpr ⟨xw_in xcw_112 rfl, List.forall_mem_cons.mpr ⟨xw_in xcw_113 rfl, List.forall_mem_cons.mpr ⟨xw_in xcw_114 rfl, List.forall_mem_cons.mpr ⟨xw_in xcw_115 rfl, List.forall_mem_cons.mpr ⟨xw_in xcw_116 rfl, List.forall_mem_cons.mpr ⟨xw_in xcw_117 rfl, List.forall_mem_cons.mpr ⟨xw_in xcw_118 rfl, List.forall_mem_cons.mpr ⟨xw_in xcw_119 rfl, fun _ h => absurd h List.not_mem_nil⟩⟩⟩⟩⟩⟩⟩⟩⟩⟩⟩⟩⟩⟩⟩⟩⟩⟩⟩⟩⟩⟩⟩⟩⟩⟩⟩⟩⟩⟩⟩⟩⟩⟩⟩⟩⟩⟩⟩⟩
theorem xcv_120 : ∀ x ∈ [120, 121, 122, 123, 124, 125, 126, 127, 128, 129, 130, 131, 132, 133, 134, 135, 136], Cond.code (xmY x) (xmB x) (xmL x) (xmR x) ∈ xw := List.forall_mem_cons.mpr ⟨xw_in xcw_120 rfl, List.forall_mem_cons.mpr ⟨xw_in xcw_121 rfl, List.forall_mem_cons.mpr ⟨xw_in xcw_122 rfl, List.forall_mem_cons.mpr ⟨xw_in xcw_123 rfl, List.forall_mem_cons.mpr ⟨xw_in xcw_124 rfl, List.forall_mem_cons.mpr ⟨xw_in xcw_125 rfl, List.forall_mem_cons.mpr ⟨xw_in xcw_126 rfl, List.forall_mem_cons.mpr ⟨xw_in xcw_127 rfl, List.forall_mem_cons.mpr ⟨xw_in xcw_128 rfl, List.forall_mem_cons.mpr ⟨xw_in xcw_129 rfl, List.forall_mem_cons.mpr ⟨xw_in xcw_130 rfl, List.forall_mem_cons.mpr ⟨xw_in xcw_131 rfl, List.forall_mem_cons.mpr ⟨xw_in xcw_132 rfl, List.forall_mem_cons.mpr ⟨xw_in xcw_133 rfl, List.forall_mem_cons.mpr ⟨xw_in xcw_134 rfl, List.forall_mem_cons.mpr ⟨xw_in xcw_135 rfl, List.forall_mem_cons.mpr ⟨xw_in xcw_136 rfl, fun _ h => absurd h List.not_mem_nil⟩⟩⟩⟩⟩⟩⟩⟩⟩⟩⟩⟩⟩⟩⟩⟩⟩
theorem xcv_200 : ∀ x ∈ [200, 201, 202, 203, 204, 205, 206, 207, 208, 209, 210, 211, 212, 213, 214, 215, 216, 217, 218, 219, 220, 221, 222, 223, 224, 225, 226, 227, 228, 229, 230, 231, 232, 233, 234, 235, 236, 237, 238, 239], Cond.code (xmY x) (xmB x) (xmL x) (xmR x) ∈ xw := List.forall_mem_cons.mpr ⟨xw_in xcw_200 rfl, List.forall_mem_cons.mpr ⟨xw_in xcw_201 rfl, List.forall_mem_cons.mpr ⟨xw_in xcw_202 rfl, List.forall_mem_cons.mpr ⟨xw_in xcw_203 rfl, List.forall_mem_cons.mpr ⟨xw_in xcw_204 rfl, List.forall_mem_cons.mpr ⟨xw_in xcw_205 rfl, List.forall_mem_cons.mpr ⟨xw_in xcw_206 rfl, List.forall_mem_cons.mpr ⟨xw_in xcw_207 rfl, List.forall_mem_cons.mpr ⟨xw_in xcw_208 rfl, List.forall_mem_cons.mpr ⟨xw_in xcw_209 rfl, List.forall_mem_cons.mpr ⟨xw_in xcw_210 rfl, List.forall_mem_cons.mpr ⟨xw_in xcw_211 rfl, List.forall_mem_cons.mpr ⟨xw_in xcw_212 rfl, List.forall_mem_cons.mpr ⟨xw_in xcw_213 rfl, List.forall_mem_cons.mpr ⟨xw_in xcw_214 rfl, List.forall_mem_cons.mpr ⟨xw_in xcw_215 rfl, List.forall_mem_cons.mpr ⟨xw_in xcw_216 rfl, List.forall_mem_cons.mpr ⟨xw_in xcw_217 rfl, List.forall_mem_cons.mpr ⟨xw_in xcw_218 rfl, List.forall_mem_cons.mpr ⟨xw_in xcw_219 rfl, List.forall_mem_cons.mpr ⟨xw_in xcw_220 rfl, List.forall_mem_cons.mpr ⟨xw_in xcw_221 rfl, List.forall_mem_cons.mpr ⟨xw_in xcw_222 rfl, List.forall_mem_cons.mpr ⟨xw_in xcw_223 rfl, List.forall_mem_cons.mpr ⟨xw_in xcw_224 rfl, List.forall_mem_cons.mpr ⟨xw_in xcw_225 rfl, List.forall_mem_cons.mpr ⟨xw_in xcw_226 rfl, List.forall_mem_cons.mpr ⟨xw_in xcw_227 rfl, List.forall_mem_cons.mpr ⟨xw_in xcw_228 rfl, List.forall_mem_cons.mpr ⟨xw_in xcw_229 rfl, List.forall_mem_cons.mpr ⟨xw_in xcw_230 rfl, List.forall_mem_cons.mpr ⟨xw_in xcw_231 rfl, List.forall_mem_cons.mpr ⟨xw_in xcw_232 rfl, List.forall_mem_cons.mpr ⟨xw_in xcw_233 rfl, List.forall_mem_cons.mpr ⟨xw_in xcw_234 rfl, List.forall_mem_cons.mpr ⟨xw_in xcw_235 rfl, List.forall_mem_cons.mpr ⟨xw_in xcw_236 rfl, List.forall_mem_cons.mpr ⟨xw_in xcw_237 rfl, List.forall_mem_cons.mpr ⟨xw_in xcw_238 rfl, List.forall_mem_cons.mpr ⟨xw_in xcw_239 rfl, fun _ h => absurd h List.not_mem_nil⟩⟩⟩⟩⟩⟩⟩⟩⟩⟩⟩⟩⟩⟩⟩⟩⟩⟩⟩⟩⟩⟩⟩⟩⟩⟩⟩⟩⟩⟩⟩⟩⟩⟩⟩⟩⟩⟩⟩⟩
theorem xcv_240 : ∀ x ∈ [240, 241, 242, 243, 244, 245, 246, 247, 248, 249, 250, 251, 252, 253, 254, 255, 256, 257, 258, 259, 260, 261, 262, 263, 264, 265, 266, 267, 268, 269, 270, 271], Cond.code (xmY x) (xmB x) (xmL x) (xmR x) ∈ xw := List.forall_mem_cons.mpr ⟨xw_in xcw_240 rfl, List.forall_mem_cons.mpr ⟨xw_in xcw_241 rfl, List.forall_mem_cons.mpr ⟨xw_in xcw_242 rfl, List.forall_mem_cons.mpr ⟨xw_in xcw_243 rfl, List.forall_mem_cons.mpr ⟨xw_in xcw_244 rfl, List.forall_mem_cons.mpr ⟨xw_in xcw_245 rfl, List.forall_mem_cons.mpr ⟨xw_in xcw_246 rfl, List.forall_mem_cons.mpr ⟨xw_in xcw_247 rfl, List.forall_mem_cons.mpr ⟨xw_in xcw_248 rfl, List.forall_mem_cons.mpr ⟨xw_in xcw_249 rfl, List.forall_mem_cons.mpr ⟨xw_in xcw_250 rfl, List.forall_mem_cons.mpr ⟨xw_in xcw_251 rfl, List.forall_mem_cons.mpr ⟨xw_in xcw_252 rfl, List.forall_mem_cons.mpr ⟨xw_in xcw_253 rfl, List.forall_mem_cons.mpr ⟨xw_in xcw_254 rfl, List.forall_mem_cons.mpr ⟨xw_in xcw_255 rfl, List.forall_mem_cons.mpr ⟨xw_in xcw_256 rfl, List.forall_mem_cons.mpr ⟨xw_in xcw_257 rfl, List.forall_mem_cons.mpr ⟨xw_in xcw_258 rfl, List.forall_mem_cons.mpr ⟨xw_in xcw_259 rfl, List.forall_mem_cons.mpr ⟨xw_in xcw_260 rfl, List.forall_mem_cons.mpr ⟨xw_in xcw_261 rfl, List.forall_mem_cons.mpr ⟨xw_in xcw_262 rfl, List.forall_mem_cons.mpr ⟨xw_in xcw_263 rfl, List.forall_mem_cons.mpr ⟨xw_in xcw_264 rfl, List.forall_mem_cons.mpr ⟨xw_in xcw_265 rfl, List.forall_mem_cons.mpr ⟨xw_in xcw_266 rfl, List.forall_mem_cons.mpr ⟨xw_in xcw_267 rfl, List.forall_mem_cons.mpr ⟨xw_in xcw_268 rfl, List.forall_mem_cons.mpr ⟨xw_in xcw_269 rfl, List.forall_mem_cons.mpr ⟨xw_in xcw_270 rfl, List.forall_mem_cons.mpr ⟨xw_in xcw_271 rfl, fun _ h => absurd h List.not_mem_nil⟩⟩⟩⟩⟩⟩⟩⟩⟩⟩⟩⟩⟩⟩⟩⟩⟩⟩⟩⟩⟩⟩⟩⟩⟩⟩⟩⟩⟩⟩⟩⟩
theorem xcv_all {x : Nat} (h : x < 137 ∨ (200 ≤ x ∧ x < 272)) : Cond.code (xmY x) (xmB x) (xmL x) (xmR x) ∈ xw := by
  by_cases h1 : x < 40
  · exact xcv_0 x ((by decide +kernel : ∀ j, j < 40 → j ∈ [0, 1, 2, 3, 4, 5, 6, 7, 8, 9, 10, 11, 12, 13, 14, 15, 16, 17, 18, 19, 20, 21, 22, 23, 24, 25, 26, 27, 28, 29, 30, 31, 32, 33, 34, 35, 36, 37, 38, 39]) x h1)
  by_cases h2 : x < 80
  · have := (by decide +kernel : ∀ j, j < 40 → 40 + j ∈ [40, 41, 42, 43, 44, 45, 46, 47, 48, 49, 50, 51, 52, 53, 54, 55, 56, 57, 58, 59, 60, 61, 62, 63, 64, 65, 66, 67, 68, 69, 70, 71, 72, 73, 74, 75, 76, 77, 78, 79]) (x - 40) (by omega)
    rw [show 40 + (x - 40) = x by omega] at this
    exact xcv_40 x this
  by_cases h3 : x < 120
  · have := (by decide +kernel : ∀ j, j < 40 → 80 + j ∈ [80, 81, 82, 83, 84, 85, 86, 87, 88, 89, 90, 91, 92, 93, 94, 95, 96, 97, 98, 99, 100, 101, 102, 103, 104, 105, 106, 107, 108, 109, 110, 111, 112, 113, 114, 115, 116, 117, 118, 119]) (x - 80) (by omega)
    rw [show 80 + (x - 80) = x by omega] at this
    exact xcv_80 x this
  by_cases h4 : x < 137
  · have := (by decide +kernel : ∀ j, j < 17 → 120 + j ∈ [120, 121, 122, 123, 124, 125, 126, 127, 128, 129, 130, 131, 132, 133, 134, 135, 136]) (x - 120) (by omega)
    rw [show 120 + (x - 120) = x by omega] at this
    exact xcv_120 x this
  by_cases h5 : x < 240
  · have := (by decide +kernel : ∀ j, j < 40 → 200 + j ∈ [200, 201, 202, 203, 204, 205, 206, 207, 208, 209, 210, 211, 212, 213, 214, 215, 216, 217, 218, 219, 220, 221, 222, 223, 224, 225, 226, 227, 228, 229, 230, 231, 232, 233, 234, 235, 236, 237, 238, 239]) (x - 200) (by omega)
    rw [show 200 + (x - 200) = x by omega] at this
    exact xcv_200 x this
  · have := (by decide +kernel : ∀ j, j < 32 → 240 + j ∈ [240, 241, 242, 243, 244, 245, 246, 247, 248, 249, 250, 251, 252, 253, 254, 255, 256, 257, 258, 259, 260, 261, 262, 263, 264, 265, 266, 267, 268, 269, 270, 271]) (x - 240) (by omega)
    rw [show 240 + (x - 240) = x by omega] at this
    exact xcv_240 x this
def xisref : Option FieldType → Bool
  | some (.object _) => true
  | some (.array _) => true
  | _ => false
noncomputable def xck3 (k : Nat) (q : Nat × xa_I) : Bool := match q.2.1 with
  | .invokevirtual _ => Nat.ble 5000 q.2.2.2.1 || (Nat.beq (xmS q.2.2.2.1) 2 && (Nat.blt q.2.2.2.1 137 || (Nat.ble 200 q.2.2.2.1 && Nat.blt q.2.2.2.1 272)))
  | .invokestatic _ => Nat.ble 5000 q.2.2.2.1 || Nat.beq (xmS q.2.2.2.1) 1 && (Nat.blt q.2.2.2.1 137 || (Nat.ble 200 q.2.2.2.1 && Nat.blt q.2.2.2.1 272))
  | .ireturn => decide ((xmZ k = 1 ∧ xmR k = some .boolean) ∨ (xmZ k = 0 ∧ xmR k = some .int))
  | .lreturn => decide (xmR k = some .long)
  | .areturn => xisref (xmR k)
  | .return_ => decide (xmR k = none)
  | _ => true
set_option maxRecDepth 100000 in
theorem xck3_a : ∀ j, j < 137 → (xcode j).all (xck3 j) = true := by decide +kernel
set_option maxRecDepth 100000 in
theorem xck3_b : ∀ j, j < 72 → (xcode (200 + j)).all (xck3 (200 + j)) = true := by decide +kernel
theorem xdec3 {k pc : Nat} {e : xa_I} (h : xcd k pc = some e) : xck3 k (pc, e) = true := by
  have hm := xlk_mem h
  have h1 : (xcode k).all (xck3 k) = true := by
    by_cases hout : (137 ≤ k ∧ k < 200) ∨ 272 ≤ k
    · rw [xcode_out hout]; rfl
    · by_cases h1 : k < 137
      · exact xck3_a k h1
      · have := xck3_b (k - 200) (by omega); rwa [show 200 + (k - 200) = k by omega] at this
  exact List.all_eq_true.mp h1 _ hm
theorem xce_of {x : Nat} (h : x < 137 ∨ (200 ≤ x ∧ x < 272)) : xce x = true := by
  rcases h with h | h
  · exact xce_a x h
  · have := xce_b (x - 200) (by omega); rwa [show 200 + (x - 200) = x by omega] at this
end
section
/-! the machine follows the abstract machine: any instruction that is no call and no return -/
section XSIM5
variable {p : Program} {l : Launch} {e : Env} {R : Room} {s : State} {m : MethodId} {args : Array Value} {below : List Frame} {meth : Method} {c : Code} {H : Heap} {locs : List Loc} {ls : Array Slot} {Q : State → Prop}
variable {D : va_G} {cA : Nat → ClassId} {tyl : List Nat} {ids : List (Nat × Nat)} {ad : Nat × Nat → Nat} {A : Nat → Prop} {k pc nL : Nat} {L L' : xa_L} {S S' : List xa_V} {σ σ' : xa_H} {q : xa_C}
theorem xcv_c1 {ad : Nat × Nat → Nat} {v : xa_V} (h : xlong v = false) : (xcv ad v).category = 1 := by
  rcases v with a | a | _ | q
  · rfl
  · cases h
  · rfl
  · rfl
theorem xsg_pop (C : xcx D cA tyl ids ad A p R s m args meth c k) (hdg : decode (xmB k) pc = .ok (.pop, 1))
    (Y : xdy D cA ids ad A s H locs ls nL L S σ) (hst : xstp k (.pop, 1, 0, 0, 0) pc L S σ = some q)
    (kk : ∀ H' locs' ls', xdy D cA ids ad A s H' locs' ls' nL q.2.1 q.2.2.1 q.2.2.2 → W p l e R s m args below meth c H' locs' 0 0 Q (F0 m q.1 ls' (q.2.2.1.map (xcv ad)))) : W p l e R s m args below meth c H locs 0 0 Q (F0 m pc ls (S.map (xcv ad))) := by
  obtain ⟨⟨hx, hb, -⟩, -⟩ := C
  match S, Y, hst with
  | [], _, hst => exact xno hst
  | a :: S', Y, hst =>
    have hst : cond (xlong a) none (some (pc + 1, L, S', σ)) = some q := hst
    cases ha : xlong a with
    | true => rw [ha] at hst; exact xno hst
    | false =>
      rw [ha] at hst
      cases hst
      exact lv_pop hx hb hdg (xcv_c1 ha) (kk H locs ls (xdy_pop Y (fun w hw => by simp [hw])))
theorem xsg_dup (C : xcx D cA tyl ids ad A p R s m args meth c k) (hdg : decode (xmB k) pc = .ok (.dup, 1))
    (Y : xdy D cA ids ad A s H locs ls nL L S σ) (hst : xstp k (.dup, 1, 0, 0, 0) pc L S σ = some q)
    (kk : ∀ H' locs' ls', xdy D cA ids ad A s H' locs' ls' nL q.2.1 q.2.2.1 q.2.2.2 → W p l e R s m args below meth c H' locs' 0 0 Q (F0 m q.1 ls' (q.2.2.1.map (xcv ad)))) : W p l e R s m args below meth c H locs 0 0 Q (F0 m pc ls (S.map (xcv ad))) := by
  obtain ⟨⟨hx, hb, -⟩, -⟩ := C
  match S, Y, hst with
  | [], _, hst => exact xno hst
  | a :: S', Y, hst =>
    have hst : cond (xlong a) none (some (pc + 1, L, a :: a :: S', σ)) = some q := hst
    cases ha : xlong a with
    | true => rw [ha] at hst; exact xno hst
    | false =>
      rw [ha] at hst
      cases hst
      refine lv_dup hx hb hdg (xcv_c1 ha) (kk H locs ls (xdy_st Y (fun w hw => Y.2.2.2.1 w ?_)))
      rcases List.mem_cons.mp hw with h | h
      · rw [h]; exact List.mem_cons_self
      · exact h
theorem xsg_dup2 (C : xcx D cA tyl ids ad A p R s m args meth c k) (hdg : decode (xmB k) pc = .ok (.dup2, 1))
    (Y : xdy D cA ids ad A s H locs ls nL L S σ) (hst : xstp k (.dup2, 1, 0, 0, 0) pc L S σ = some q)
    (kk : ∀ H' locs' ls', xdy D cA ids ad A s H' locs' ls' nL q.2.1 q.2.2.1 q.2.2.2 → W p l e R s m args below meth c H' locs' 0 0 Q (F0 m q.1 ls' (q.2.2.1.map (xcv ad)))) : W p l e R s m args below meth c H locs 0 0 Q (F0 m pc ls (S.map (xcv ad))) := by
  obtain ⟨⟨hx, hb, -⟩, -⟩ := C
  match S, Y, hst with
  | [], _, hst => exact xno hst
  | [_], _, hst => exact xno hst
  | a :: b :: S', Y, hst =>
    have hst : cond (xlong a || xlong b) none (some (pc + 1, L, a :: b :: a :: b :: S', σ)) = some q := hst
    cases hab : xlong a || xlong b with
    | true => rw [hab] at hst; exact xno hst
    | false =>
      rw [hab] at hst
      cases hst
      rw [Bool.or_eq_false_iff] at hab
      refine lv_dup2_11 hx hb hdg (xcv_c1 hab.1) (xcv_c1 hab.2) (kk H locs ls (xdy_st Y (fun w hw => Y.2.2.2.1 w ?_)))
      simp only [List.mem_cons] at hw ⊢
      rcases hw with h | h | h | h | h
      · exact Or.inl h
      · exact Or.inr (Or.inl h)
      · exact Or.inl h
      · exact Or.inr (Or.inl h)
      · exact Or.inr (Or.inr h)
theorem xsg_null (b : Bool) {off : Int} (C : xcx D cA tyl ids ad A p R s m args meth c k) (ht : 0 ≤ (pc : Int) + off) {ins : Instr} (hi : ins = cond b (.ifnull off) (.ifnonnull off)) (hdg : decode (xmB k) pc = .ok (ins, 3))
    (Y : xdy D cA ids ad A s H locs ls nL L S σ) (hst : xstp k (ins, 3, 0, 0, 0) pc L S σ = some q)
    (kk : ∀ H' locs' ls', xdy D cA ids ad A s H' locs' ls' nL q.2.1 q.2.2.1 q.2.2.2 → W p l e R s m args below meth c H' locs' 0 0 Q (F0 m q.1 ls' (q.2.2.1.map (xcv ad)))) : W p l e R s m args below meth c H locs 0 0 Q (F0 m pc ls (S.map (xcv ad))) := by
  obtain ⟨⟨hx, hb, -⟩, -⟩ := C
  have htg : (pc : Int) + off = (xtgt pc off : Int) := by unfold xtgt; omega
  subst hi
  match S, Y, hst with
  | [], _, hst => cases b <;> exact xno hst
  | .inl _ :: _, _, hst => cases b <;> exact xno hst
  | .inr (.inl _) :: _, _, hst => cases b <;> exact xno hst
  | .inr (.inr r) :: S', Y, hst =>
    cases b with
    | true =>
      have hst : some (cond r.isNone (xtgt pc off) (pc + 3), L, S', σ) = some q := hst
      cases hst
      rcases r with _ | r
      · exact lv_ifnullN hx hb hdg htg (kk H locs ls (xdy_pop Y (fun w hw => by simp [hw])))
      · exact lv_ifnull hx hb hdg (kk H locs ls (xdy_pop Y (fun w hw => by simp [hw])))
    | false =>
      have hst : some (cond r.isSome (xtgt pc off) (pc + 3), L, S', σ) = some q := hst
      cases hst
      rcases r with _ | r
      · exact lv_ifnonnullN hx hb hdg (kk H locs ls (xdy_pop Y (fun w hw => by simp [hw])))
      · exact lv_ifnonnull hx hb hdg htg (kk H locs ls (xdy_pop Y (fun w hw => by simp [hw])))
theorem xid_inj (hD : va_D A (xwl cA ids ad σ)) {a b : Nat × Nat} (ha : a ∈ ids) (hb : b ∈ ids) (h : ad a = ad b) : a = b := by
  obtain ⟨n, hn, he⟩ := xwl_get (cA := cA) (ad := ad) (σ := σ) ha
  obtain ⟨n2, hn2, he2⟩ := xwl_get (cA := cA) (ad := ad) (σ := σ) hb
  have := hD.1 n n2 _ _ he he2 h
  subst this
  exact Option.some.inj (hn.symm.trans hn2)
theorem xsg_acmp {off : Int} (C : xcx D cA tyl ids ad A p R s m args meth c k) (ht : 0 ≤ (pc : Int) + off) (hdg : decode (xmB k) pc = .ok (.if_acmp .ne off, 3))
    (Y : xdy D cA ids ad A s H locs ls nL L S σ) (hst : xstp k (.if_acmp .ne off, 3, 0, 0, 0) pc L S σ = some q)
    (kk : ∀ H' locs' ls', xdy D cA ids ad A s H' locs' ls' nL q.2.1 q.2.2.1 q.2.2.2 → W p l e R s m args below meth c H' locs' 0 0 Q (F0 m q.1 ls' (q.2.2.1.map (xcv ad)))) : W p l e R s m args below meth c H locs 0 0 Q (F0 m pc ls (S.map (xcv ad))) := by
  obtain ⟨⟨hx, hb, -⟩, -⟩ := C
  have htg : (pc : Int) + off = (xtgt pc off : Int) := by unfold xtgt; omega
  match S, Y, hst with
  | [], _, hst => exact xno hst
  | [.inl _], _, hst => exact xno hst
  | [.inr (.inl _)], _, hst => exact xno hst
  | [.inr (.inr _)], _, hst => exact xno hst
  | .inl _ :: _ :: _, _, hst => exact xno hst
  | .inr (.inl _) :: _ :: _, _, hst => exact xno hst
  | .inr (.inr _) :: .inl _ :: _, _, hst => exact xno hst
  | .inr (.inr _) :: .inr (.inl _) :: _, _, hst => exact xno hst
  | .inr (.inr r2) :: .inr (.inr r1) :: S', Y, hst =>
    have hst : cond (xnst r1 && xnst r2) (some (cond (decide (r1 = r2)) (pc + 3) (xtgt pc off), L, S', σ)) none = some q := hst
    cases hn : xnst r1 && xnst r2 with
    | false => rw [hn] at hst; exact xno hst
    | true =>
      rw [hn] at hst
      cases hst
      rw [Bool.and_eq_true] at hn
      have key : ∀ r : Option (Nat × Nat), xok ids (.inr (.inr r)) → xnst r = true → ∀ q, r = some q → q ∈ ids := by
        intro r h1 h2 q hq
        subst hq
        rcases h1 with h | h
        · exact h
        · exfalso
          have h3 : (!Nat.beq q.1 99) = true := h2
          rw [h] at h3
          cases h3
      have k1 := key r1 (Y.2.2.2.1 (.inr (.inr r1)) (by simp)) hn.1
      have k2 := key r2 (Y.2.2.2.1 (.inr (.inr r2)) (by simp)) hn.2
      have e0 : ∀ r : Option (Nat × Nat), xcv ad (.inr (.inr r)) = va_rf (r.map ad) := by
        intro r
        rcases r with _ | r <;> rfl
      have hkk := kk H locs ls (xdy_pop (S' := S') Y (fun w hw => by simp [hw]))
      rw [List.map_cons, List.map_cons, e0, e0]
      have inj : r1.map ad = r2.map ad → r1 = r2 := by
        intro h
        rcases r1 with _ | q1
        · rcases r2 with _ | q2
          · rfl
          · cases h
        · rcases r2 with _ | q2
          · cases h
          · rw [xid_inj Y.1.2.1 (k1 q1 rfl) (k2 q2 rfl) (Option.some.inj h)]
      refine lv_acmp_ne hx hb hdg htg (fun h => ?_) (fun h => ?_)
      · have hne : ¬ r1 = r2 := fun e => h (by rw [e])
        simp only [decide_eq_false hne, cond_false] at hkk
        exact hkk
      · simp only [decide_eq_true (inj h), cond_true] at hkk
        exact hkk
theorem xsg_goto {off : Int} (C : xcx D cA tyl ids ad A p R s m args meth c k) (ht : 0 ≤ (pc : Int) + off) (hdg : decode (xmB k) pc = .ok (.goto off, 3))
    (Y : xdy D cA ids ad A s H locs ls nL L S σ) (hst : some (xtgt pc off, L, S, σ) = some q)
    (kk : ∀ H' locs' ls', xdy D cA ids ad A s H' locs' ls' nL q.2.1 q.2.2.1 q.2.2.2 → W p l e R s m args below meth c H' locs' 0 0 Q (F0 m q.1 ls' (q.2.2.1.map (xcv ad)))) : W p l e R s m args below meth c H locs 0 0 Q (F0 m pc ls (S.map (xcv ad))) := by
  obtain ⟨⟨hx, hb, -⟩, -⟩ := C
  cases hst
  exact lv_goto hx hb hdg (by unfold xtgt; omega) (kk H locs ls Y)
theorem xsg_tab {d lo hi : Int} {offs : Array Int} {n : Nat} (C : xcx D cA tyl ids ad A p R s m args meth c k) (ht : xck_t pc d = true ∧ offs.toList.all (xck_t pc) = true) (hdg : decode (xmB k) pc = .ok (.tableswitch d lo hi offs, n))
    (Y : xdy D cA ids ad A s H locs ls nL L S σ) (hst : xstp k (.tableswitch d lo hi offs, n, 0, 0, 0) pc L S σ = some q)
    (kk : ∀ H' locs' ls', xdy D cA ids ad A s H' locs' ls' nL q.2.1 q.2.2.1 q.2.2.2 → W p l e R s m args below meth c H' locs' 0 0 Q (F0 m q.1 ls' (q.2.2.1.map (xcv ad)))) : W p l e R s m args below meth c H locs 0 0 Q (F0 m pc ls (S.map (xcv ad))) := by
  obtain ⟨⟨hx, hb, -⟩, -⟩ := C
  have tg : ∀ off : Int, xck_t pc off = true → (pc : Int) + off = (xtgt pc off : Int) := by
    intro off h
    have h := of_decide_eq_true h
    unfold xtgt
    omega
  match S, Y, hst with
  | [], _, hst => exact xno hst
  | .inr _ :: _, _, hst => exact xno hst
  | .inl v :: S', Y, hst =>
    have hst : (if v < lo ∨ hi < v then some (xtgt pc d, L, S', σ) else match offs[(v - lo).toNat]? with
      | some off => some (xtgt pc off, L, S', σ)
      | none => none) = some q := hst
    have hv : xr32 v := Y.2.2.2.1 (.inl v) (by simp)
    have hv2 := xo32 hv
    by_cases hc : v < lo ∨ hi < v
    · rw [if_pos hc] at hst
      cases hst
      exact lv_tableOut hx hb hdg (by rw [hv2]; exact hc) (tg _ ht.1) (kk H locs ls (xdy_pop Y (fun w hw => by simp [hw])))
    · rw [if_neg hc] at hst
      cases ho : offs[(v - lo).toNat]? with
      | none => rw [ho] at hst; exact xno hst
      | some off =>
        rw [ho] at hst
        cases hst
        have hmem : off ∈ offs.toList := by
          have := Array.mem_of_getElem? ho
          exact Array.mem_toList_iff.mpr this
        have h2 := List.all_eq_true.mp ht.2 off hmem
        exact lv_tableIn hx hb hdg (by rw [hv2]; omega) (by rw [hv2]; omega) (by rw [hv2]; exact ho) (tg _ h2) (kk H locs ls (xdy_pop Y (fun w hw => by simp [hw])))
theorem xsg_iinc {i : Nat} {n : Int} (C : xcx D cA tyl ids ad A p R s m args meth c k) (hdg : decode (xmB k) pc = .ok (.iinc i n, 3))
    (Y : xdy D cA ids ad A s H locs ls (xmL k) L S σ) (hst : xstp k (.iinc i n, 3, 0, 0, 0) pc L S σ = some q)
    (kk : ∀ H' locs' ls', xdy D cA ids ad A s H' locs' ls' (xmL k) q.2.1 q.2.2.1 q.2.2.2 → W p l e R s m args below meth c H' locs' 0 0 Q (F0 m q.1 ls' (q.2.2.1.map (xcv ad)))) : W p l e R s m args below meth c H locs 0 0 Q (F0 m pc ls (S.map (xcv ad))) := by
  obtain ⟨⟨hx, hb, -⟩, -⟩ := C
  have hst : (match xget L i with
    | some (.inl v) => cond (Nat.blt i (xmL k)) (some (pc + 3, xset L i (.inl (w32 (v + n))), S, σ)) none
    | _ => none) = some q := hst
  cases hg : xget L i with
  | none => rw [hg] at hst; exact xno hst
  | some v =>
    rw [hg] at hst
    rcases v with a | a
    · have hst : cond (Nat.blt i (xmL k)) (some (pc + 3, xset L i (.inl (w32 (a + n))), S, σ)) none = some q := hst
      cases hb2 : Nat.blt i (xmL k) with
      | false => rw [hb2] at hst; exact xno hst
      | true =>
        rw [hb2] at hst
        cases hst
        have hm : (i, xcv ad (.inl a)) ∈ L.map (fun q => (q.1, xcv ad q.2)) := List.mem_map.mpr ⟨(i, .inl a), xget_mem hg, rfl⟩
        obtain ⟨j, hj⟩ := List.getElem?_of_mem hm
        refine lv_iinc (x := Int32.ofInt a) (v := Int32.ofInt (w32 (a + n))) hx hb hdg Y.2.2.2.2 hj (xadd a n).symm (Nat.blt_eq.mp hb2) rfl (fun ls' hl => kk H locs ls' (xdy_set Y (w32_r _) (fun w hw => hw) hl))
    · exact xno hst
def xspc : Instr → Bool
  | .new _ => true
  | .newarray _ => true
  | .anewarray _ => true
  | .invokespecial _ => true
  | _ => false
theorem xlen_of {pc len x y z n : Nat} {ins : Instr} (h : xck2 (pc, (ins, len, x, y, z)) = true) (h1 : xln ins = n) (h0 : Nat.beq n 0 = false) (h2 : xspc ins = false) : len = n := by
  have h : (Nat.beq (xln ins) 0 || Nat.beq len (xln ins) || xspc ins) = true := h
  rw [h1, h0, h2, Bool.or_false, Bool.false_or] at h
  exact Nat.eq_of_beq_eq_true h
theorem xsim_step {en : xa_I} (C : xcx D cA tyl ids ad A p R s m args meth c k) (he : xcd k pc = some en)
    (Y : xdy D cA ids ad A s H locs ls (xmL k) L S σ) (hst : xstp k en pc L S σ = some q)
    (kk : ∀ H' locs' ls', xdy D cA ids ad A s H' locs' ls' (xmL k) q.2.1 q.2.2.1 q.2.2.2 → W p l e R s m args below meth c H' locs' 0 0 Q (F0 m q.1 ls' (q.2.2.1.map (xcv ad)))) : W p l e R s m args below meth c H locs 0 0 Q (F0 m pc ls (S.map (xcv ad))) := by
  obtain ⟨hdg, hck, hck2⟩ := xdec he
  have C' := C
  obtain ⟨⟨hx, hb, hml, hown⟩, hts, ⟨hK, hN, hZ⟩, hI, -, -, -⟩ := C'
  obtain ⟨ins, len, x, y, z⟩ := en
  cases ins with
  | iadd =>
    have hl := xlen_of (n := 1) hck2 rfl rfl rfl
    subst hl
    exact xsg_b (g := fun x y => x + y) (fun a b _ _ => ⟨xadd a b, w32_r _⟩) (fun a b rest h => lv_iadd hx hb hdg h) Y hst kk
  | isub =>
    have hl := xlen_of (n := 1) hck2 rfl rfl rfl
    subst hl
    exact xsg_b (g := fun x y => x - y) (fun a b _ _ => ⟨xsub a b, w32_r _⟩) (fun a b rest h => lv_isub hx hb hdg h) Y hst kk
  | imul =>
    have hl := xlen_of (n := 1) hck2 rfl rfl rfl
    subst hl
    exact xsg_b (g := fun x y => x * y) (fun a b _ _ => ⟨xmul a b, w32_r _⟩) (fun a b rest h => lv_imul hx hb hdg h) Y hst kk
  | iand =>
    have hl := xlen_of (n := 1) hck2 rfl rfl rfl
    subst hl
    exact xsg_b (g := fun x y => x &&& y) (fun a b _ _ => ⟨xti _, xt32 _⟩) (fun a b rest h => lv_iand hx hb hdg h) Y hst kk
  | ior =>
    have hl := xlen_of (n := 1) hck2 rfl rfl rfl
    subst hl
    exact xsg_b (g := fun x y => x ||| y) (fun a b _ _ => ⟨xti _, xt32 _⟩) (fun a b rest h => lv_ior hx hb hdg h) Y hst kk
  | ixor =>
    have hl := xlen_of (n := 1) hck2 rfl rfl rfl
    subst hl
    exact xsg_b (g := fun x y => x ^^^ y) (fun a b _ _ => ⟨xti _, xt32 _⟩) (fun a b rest h => lv_ixor hx hb hdg h) Y hst kk
  | ishl =>
    have hl := xlen_of (n := 1) hck2 rfl rfl rfl
    subst hl
    exact xsg_b (g := fun x y => x <<< (y &&& 31)) (fun a b _ _ => ⟨xti _, xt32 _⟩) (fun a b rest h => lv_ishl hx hb hdg h) Y hst kk
  | ishr =>
    have hl := xlen_of (n := 1) hck2 rfl rfl rfl
    subst hl
    exact xsg_b (g := fun x y => x >>> (y &&& 31)) (fun a b _ _ => ⟨xti _, xt32 _⟩) (fun a b rest h => lv_ishr hx hb hdg h) Y hst kk
  | idiv =>
    have hl := xlen_of (n := 1) hck2 rfl rfl rfl
    subst hl
    exact xsg_d (g := fun x y => x / y) (fun a b ha hb0 hp => ⟨xdiv_o ha hb0 hp, xdiv_r ha hp⟩) (fun a b rest hne h => lv_idiv hx hb hdg hne h) Y hst kk
  | irem =>
    have hl := xlen_of (n := 1) hck2 rfl rfl rfl
    subst hl
    exact xsg_d (g := fun x y => x - x / y * y) (fun a b ha hb0 hp => ⟨xrem_o ha hb0 hp, xrem_r ha hp⟩) (fun a b rest hne h => lv_irem hx hb hdg hne h) Y hst kk
  | ladd =>
    have hl := xlen_of (n := 1) hck2 rfl rfl rfl
    subst hl
    exact xsg_bl (g := fun x y => x + y) (fun a b _ _ => ⟨xladd a b, w64_r _⟩) (fun a b rest h => lv_ladd hx hb hdg h) Y hst kk
  | lmul =>
    have hl := xlen_of (n := 1) hck2 rfl rfl rfl
    subst hl
    exact xsg_bl (g := fun x y => x * y) (fun a b _ _ => ⟨xlmul a b, w64_r _⟩) (fun a b rest h => lv_lmul hx hb hdg h) Y hst kk
  | ldiv =>
    have hl := xlen_of (n := 1) hck2 rfl rfl rfl
    subst hl
    match S, Y, hst with
    | [], _, hst => exact xno hst
    | [.inl _], _, hst => exact xno hst
    | [.inr (.inl _)], _, hst => exact xno hst
    | [.inr (.inr _)], _, hst => exact xno hst
    | .inl _ :: _ :: _, _, hst => exact xno hst
    | .inr (.inr _) :: _ :: _, _, hst => exact xno hst
    | .inr (.inl _) :: .inl _ :: _, _, hst => exact xno hst
    | .inr (.inl _) :: .inr (.inr _) :: _, _, hst => exact xno hst
    | .inr (.inl b) :: .inr (.inl a) :: S', Y, hst =>
      have hst : (if 0 < b then some (pc + 1, L, (.inr (.inl (xdiv a b)) : xa_V) :: S', σ) else none) = some q := hst
      split at hst
      · rename_i hp
        cases hst
        have ha : xr64 a := Y.2.2.2.1 (.inr (.inl a)) (by simp)
        have hb0 : xr64 b := Y.2.2.2.1 (.inr (.inl b)) (by simp)
        refine lv_ldiv hx hb hdg (xne064 hb0 hp) ?_
        rw [← xdiv_o64 ha hb0 hp]
        exact kk H locs ls (xdy_push (v := .inr (.inl (xdiv a b))) Y (fun w hw => by simp [hw]) (xdiv_r64 ha hp))
      · exact xno hst
  | lcmp =>
    have hl := xlen_of (n := 1) hck2 rfl rfl rfl
    subst hl
    match S, Y, hst with
    | [], _, hst => exact xno hst
    | [.inl _], _, hst => exact xno hst
    | [.inr (.inl _)], _, hst => exact xno hst
    | [.inr (.inr _)], _, hst => exact xno hst
    | .inl _ :: _ :: _, _, hst => exact xno hst
    | .inr (.inr _) :: _ :: _, _, hst => exact xno hst
    | .inr (.inl _) :: .inl _ :: _, _, hst => exact xno hst
    | .inr (.inl _) :: .inr (.inr _) :: _, _, hst => exact xno hst
    | .inr (.inl b) :: .inr (.inl a) :: S', Y, hst =>
      have hst : some (pc + 1, L, (.inl (xcmp a b) : xa_V) :: S', σ) = some q := hst
      cases hst
      have ha : xr64 a := Y.2.2.2.1 (.inr (.inl a)) (by simp)
      have hb0 : xr64 b := Y.2.2.2.1 (.inr (.inl b)) (by simp)
      refine W.lcmp hx hb hdg ?_
      rw [← xcmp_o ha hb0]
      exact kk H locs ls (xdy_push (v := .inl (xcmp a b)) Y (fun w hw => by simp [hw]) (xcmp_r a b))
  | ineg =>
    have hl := xlen_of (n := 1) hck2 rfl rfl rfl
    subst hl
    match S, Y, hst with
    | [], _, hst => exact xno hst
    | .inr _ :: _, _, hst => exact xno hst
    | .inl a :: S', Y, hst =>
      have hst : some (pc + 1, L, (.inl (w32 (-a)) : xa_V) :: S', σ) = some q := hst
      cases hst
      have ha : xok ids (.inl a) := Y.2.2.2.1 (.inl a) (by simp)
      refine lv_ineg hx hb hdg ?_
      rw [← xneg]
      exact kk H locs ls (xdy_push (v := .inl (w32 (-a))) Y (fun w hw => by simp [hw]) (w32_r _))
  | i2l =>
    have hl := xlen_of (n := 1) hck2 rfl rfl rfl
    subst hl
    match S, Y, hst with
    | [], _, hst => exact xno hst
    | .inr _ :: _, _, hst => exact xno hst
    | .inl a :: S', Y, hst =>
      have hst : some (pc + 1, L, (.inr (.inl a) : xa_V) :: S', σ) = some q := hst
      cases hst
      have ha : xok ids (.inl a) := Y.2.2.2.1 (.inl a) (by simp)
      refine lv_i2l (v := Int64.ofInt a) hx hb hdg (xi2l ha) ?_
      exact kk H locs ls (xdy_push (v := .inr (.inl a)) Y (fun w hw => by simp [hw]) (by have h1 : xr32 a := ha; exact ⟨by have := h1.1; omega, by have := h1.2; omega⟩))
  | l2i =>
    have hl := xlen_of (n := 1) hck2 rfl rfl rfl
    subst hl
    match S, Y, hst with
    | [], _, hst => exact xno hst
    | .inl _ :: _, _, hst => exact xno hst
    | .inr (.inr _) :: _, _, hst => exact xno hst
    | .inr (.inl a) :: S', Y, hst =>
      have hst : some (pc + 1, L, (.inl (w32 a) : xa_V) :: S', σ) = some q := hst
      cases hst
      have ha : xok ids (.inr (.inl a)) := Y.2.2.2.1 (.inr (.inl a)) (by simp)
      refine lv_l2i (v := Int32.ofInt (w32 a)) hx hb hdg (xl2i a) ?_
      exact kk H locs ls (xdy_push (v := .inl (w32 a)) Y (fun w hw => by simp [hw]) (w32_r _))
  | i2c =>
    have hl := xlen_of (n := 1) hck2 rfl rfl rfl
    subst hl
    match S, Y, hst with
    | [], _, hst => exact xno hst
    | .inr _ :: _, _, hst => exact xno hst
    | .inl a :: S', Y, hst =>
      have hst : some (pc + 1, L, (.inl (a % 65536) : xa_V) :: S', σ) = some q := hst
      cases hst
      have ha : xok ids (.inl a) := Y.2.2.2.1 (.inl a) (by simp)
      refine lv_i2c (v := Int32.ofInt (a % 65536)) hx hb hdg (xi2c ha) ?_
      exact kk H locs ls (xdy_push (v := .inl (a % 65536)) Y (fun w hw => by simp [hw]) ⟨by omega, by omega⟩)
  | iconst v =>
    have hl := xlen_of (n := 1) hck2 rfl rfl rfl
    subst hl
    have hv := of_decide_eq_true hck
    exact xsg_c (v := .inl v) (n := 1) ⟨by omega, by omega⟩ (fun h => lv_iconst hx hb hdg rfl h) Y hst kk
  | bipush v =>
    have hl := xlen_of (n := 2) hck2 rfl rfl rfl
    subst hl
    have hck := Bool.and_eq_true _ _ ▸ hck
    have hv := of_decide_eq_true hck.1
    exact xsg_c (v := .inl v) (n := 2) ⟨by omega, by omega⟩ (fun h => lv_bipush hx hb hdg (of_decide_eq_true hck.2) h) Y hst kk
  | sipush v =>
    have hl := xlen_of (n := 3) hck2 rfl rfl rfl
    subst hl
    have hck := Bool.and_eq_true _ _ ▸ hck
    have hv := of_decide_eq_true hck.1
    exact xsg_c (v := .inl v) (n := 3) ⟨by omega, by omega⟩ (fun h => lv_sipush hx hb hdg (of_decide_eq_true hck.2) h) Y hst kk
  | lconst v =>
    have hl := xlen_of (n := 1) hck2 rfl rfl rfl
    subst hl
    exact xsg_c (v := .inr (.inl ((v : Nat) : Int))) (n := 1) ⟨by omega, by omega⟩ (fun h => lv_lconst (v := Int64.ofInt ((v : Nat) : Int)) hx hb hdg Int64.ofInt_eq_ofNat.symm h) Y hst kk
  | aconst_null =>
    have hl := xlen_of (n := 1) hck2 rfl rfl rfl
    subst hl
    exact xsg_c (v := .inr (.inr none)) (n := 1) trivial (fun h => lv_null hx hb hdg h) Y hst kk
  | ldc ix =>
    have hl := xlen_of (n := 2) hck2 rfl rfl rfl
    subst hl
    cases hy : Nat.beq y 0 with
    | true =>
      have hck : cond (Nat.beq y 0) (decide (lw_tbl[z]? = some (Cond.constant (xmO k) ix (Int32.ofInt (x : Int)))) && Nat.blt x 2147483648) _ = true := hck
      rw [hy, cond_true, Bool.and_eq_true] at hck
      have hx2 := Nat.blt_eq.mp hck.2
      have hst : some (pc + 2, L, cond (Nat.beq y 0) (.inl (x : Int)) (.inr (.inr (some (99, x)))) :: S, σ) = some q := hst
      rw [hy] at hst
      exact xsg_c (v := .inl (x : Int)) (n := 2) ⟨by omega, by omega⟩ (fun h => lv_ldc hx hb hown (hts _ (xw_in (of_decide_eq_true hck.1) rfl)) hdg h) Y hst kk
    | false =>
      have hck : cond (Nat.beq y 0) _ (decide (xmO k = cond (Nat.beq x 0) "SofaStair$Pad" "SofaStair$Search") && decide (ix = cond (Nat.beq x 0) 27 142) && Nat.blt x 2) = true := hck
      rw [hy, cond_false, Bool.and_eq_true, Bool.and_eq_true] at hck
      have hx2 := Nat.blt_eq.mp hck.2
      have hst : some (pc + 2, L, cond (Nat.beq y 0) (.inl (x : Int)) (.inr (.inr (some (99, x)))) :: S, σ) = some q := hst
      rw [hy] at hst
      have h1 := of_decide_eq_true hck.1.1
      have h2 := of_decide_eq_true hck.1.2
      refine xsg_c (v := .inr (.inr (some (99, x)))) (n := 2) (Or.inr rfl) (fun h => ?_) Y hst kk
      rcases (show x = 0 ∨ x = 1 by omega) with rfl | rfl
      · rw [h1] at hown
        have h2 : ix = 27 := h2
        subst h2
        exact va_ldcS hx hb hown hZ.1 hdg h
      · rw [h1] at hown
        have h2 : ix = 142 := h2
        subst h2
        exact va_ldcS hx hb hown hZ.2.1 hdg h
  | ldc2_w ix =>
    have hl := xlen_of (n := 3) hck2 rfl rfl rfl
    subst hl
    have hck := Bool.and_eq_true _ _ ▸ hck
    have hx2 : x < 1000000000000000000 := Nat.blt_eq.mp hck.2
    refine xsg_c (v := .inr (.inl (cond (Nat.beq y 0) (x : Int) (-(x : Int))))) (n := 3) ?_ (fun h => lv_ldc2 hx hb hown (hts _ (xw_in (of_decide_eq_true hck.1) rfl)) hdg h) Y hst kk
    show xr64 _
    cases Nat.beq y 0
    · exact ⟨by show _ ≤ -(x : Int); omega, by show -(x : Int) < _; omega⟩
    · exact ⟨by show _ ≤ (x : Int); omega, by show (x : Int) < _; omega⟩
  | iload i =>
    have hl := xlen_of (n := 2) hck2 rfl rfl rfl
    subst hl
    exact xsg_ldi (n := 2) (fun x rest h1 h => lv_iload hx hb hdg h1 h) Y hst kk
  | iload_n i =>
    have hl := xlen_of (n := 1) hck2 rfl rfl rfl
    subst hl
    exact xsg_ldi (i := (i : Nat)) (n := 1) (fun x rest h1 h => lv_iload_n hx hb hdg rfl h1 h) Y hst kk
  | lload i =>
    have hl := xlen_of (n := 2) hck2 rfl rfl rfl
    subst hl
    exact xsg_ldl (n := 2) (fun x rest h1 h => lv_lload hx hb hdg h1 h) Y hst kk
  | lload_n i =>
    have hl := xlen_of (n := 1) hck2 rfl rfl rfl
    subst hl
    exact xsg_ldl (i := (i : Nat)) (n := 1) (fun x rest h1 h => lv_lload_n hx hb hdg rfl h1 h) Y hst kk
  | aload i =>
    have hl := xlen_of (n := 2) hck2 rfl rfl rfl
    subst hl
    exact xsg_lda (n := 2) (fun x rest h1 h => lv_aload hx hb hdg h1 h) (fun rest h1 h => lv_aloadN hx hb hdg h1 h) Y hst kk
  | aload_n i =>
    have hl := xlen_of (n := 1) hck2 rfl rfl rfl
    subst hl
    exact xsg_lda (i := (i : Nat)) (n := 1) (fun x rest h1 h => lv_aload_n hx hb hdg rfl h1 h) (fun rest h1 h => lv_aload_nN hx hb hdg rfl h1 h) Y hst kk
  | istore i =>
    have hl := xlen_of (n := 2) hck2 rfl rfl rfl
    subst hl
    exact xsg_sti (n := 2) (fun x rest lv h hn h2 => lv_istore hx hb hdg h hn rfl h2) Y hst kk
  | istore_n i =>
    have hl := xlen_of (n := 1) hck2 rfl rfl rfl
    subst hl
    exact xsg_sti (i := (i : Nat)) (n := 1) (fun x rest lv h hn h2 => lv_istore_n hx hb hdg rfl h hn rfl h2) Y hst kk
  | lstore i =>
    have hl := xlen_of (n := 2) hck2 rfl rfl rfl
    subst hl
    exact xsg_stl (n := 2) (fun x rest lv h hn h2 => lv_lstore hx hb hdg h hn rfl h2) Y hst kk
  | lstore_n i =>
    have hl := xlen_of (n := 1) hck2 rfl rfl rfl
    subst hl
    exact xsg_stl (i := (i : Nat)) (n := 1) (fun x rest lv h hn h2 => lv_lstore_n hx hb hdg rfl h hn rfl h2) Y hst kk
  | astore i =>
    have hl := xlen_of (n := 2) hck2 rfl rfl rfl
    subst hl
    exact xsg_sta (n := 2) (fun x rest lv h hn h2 => lv_astore hx hb hdg h hn rfl h2) (fun rest lv h hn h2 => lv_astoreN hx hb hdg h hn rfl h2) Y hst kk
  | astore_n i =>
    have hl := xlen_of (n := 1) hck2 rfl rfl rfl
    subst hl
    exact xsg_sta (i := (i : Nat)) (n := 1) (fun x rest lv h hn h2 => lv_astore_n hx hb hdg rfl h hn rfl h2) (fun rest lv h hn h2 => lv_astore_nN hx hb hdg rfl h hn rfl h2) Y hst kk
  | iinc i n =>
    have hl := xlen_of (n := 3) hck2 rfl rfl rfl
    subst hl
    exact xsg_iinc C hdg Y hst kk
  | ifCond cnd off =>
    have hl := xlen_of (n := 3) hck2 rfl rfl rfl
    subst hl
    have ht := of_decide_eq_true hck
    cases cnd with
    | eq => exact xsg_if (k := k) (cnd := .eq) ht (fun x rest tgt htg h => lv_if_eq hx hb hdg htg (fun hc => h true (fun a ha e => decide_eq_true ((xeq0 ha).mp (e ▸ hc)))) (fun hc => h false (fun a ha e => decide_eq_false (fun hh => hc (e ▸ (xeq0 ha).mpr hh))))) Y hst kk
    | ne => exact xsg_if (k := k) (cnd := .ne) ht (fun x rest tgt htg h => lv_if_ne hx hb hdg htg (fun hc => h true (fun a ha e => decide_eq_true ((not_congr (xeq0 ha)).mp (e ▸ hc)))) (fun hc => h false (fun a ha e => decide_eq_false (fun hh => hh ((xeq0 ha).mp (e ▸ hc)))))) Y hst kk
    | lt => exact xsg_if (k := k) (cnd := .lt) ht (fun x rest tgt htg h => lv_if_lt hx hb hdg htg (fun hc => h true (fun a ha e => decide_eq_true ((xlt0 ha).mp (e ▸ hc)))) (fun hc => h false (fun a ha e => decide_eq_false (fun hh => hc (e ▸ (xlt0 ha).mpr hh))))) Y hst kk
    | ge => exact xsg_if (k := k) (cnd := .ge) ht (fun x rest tgt htg h => lv_if_ge hx hb hdg htg (fun hc => h true (fun a ha e => decide_eq_true ((xle0 ha).mp (e ▸ hc)))) (fun hc => h false (fun a ha e => decide_eq_false (fun hh => hc (e ▸ (xle0 ha).mpr hh))))) Y hst kk
    | gt => exact xsg_if (k := k) (cnd := .gt) ht (fun x rest tgt htg h => lv_if_gt hx hb hdg htg (fun hc => h true (fun a ha e => decide_eq_true (((show (0 : Int32) < Int32.ofInt a ↔ 0 < a by rw [← xz32]; exact xlt32 ⟨by decide, by decide⟩ ha)).mp (e ▸ hc)))) (fun hc => h false (fun a ha e => decide_eq_false (fun hh => hc (e ▸ ((show (0 : Int32) < Int32.ofInt a ↔ 0 < a by rw [← xz32]; exact xlt32 ⟨by decide, by decide⟩ ha)).mpr hh))))) Y hst kk
    | le => exact xsg_if (k := k) (cnd := .le) ht (fun x rest tgt htg h => lv_if_le hx hb hdg htg (fun hc => h true (fun a ha e => decide_eq_true (((show Int32.ofInt a ≤ 0 ↔ a ≤ 0 by rw [← xz32]; exact xle32 ha ⟨by decide, by decide⟩)).mp (e ▸ hc)))) (fun hc => h false (fun a ha e => decide_eq_false (fun hh => hc (e ▸ ((show Int32.ofInt a ≤ 0 ↔ a ≤ 0 by rw [← xz32]; exact xle32 ha ⟨by decide, by decide⟩)).mpr hh))))) Y hst kk
  | if_icmp cnd off =>
    have hl := xlen_of (n := 3) hck2 rfl rfl rfl
    subst hl
    have ht := of_decide_eq_true hck
    cases cnd with
    | eq => exact xsg_icmp (k := k) (cnd := .eq) ht (fun x y rest tgt htg h => lv_icmp_eq hx hb hdg htg (fun hc => h true (fun a a2 ha ha2 e e2 => decide_eq_true ((xeq32 ha ha2).mp (by rw [← e, ← e2]; exact hc)))) (fun hc => h false (fun a a2 ha ha2 e e2 => decide_eq_false (fun hh => hc (by rw [e, e2]; exact (xeq32 ha ha2).mpr hh))))) Y hst kk
    | ne => exact xsg_icmp (k := k) (cnd := .ne) ht (fun x y rest tgt htg h => lv_icmp_ne hx hb hdg htg (fun hc => h true (fun a a2 ha ha2 e e2 => decide_eq_true (fun hh => hc (by rw [e, e2, hh])))) (fun hc => h false (fun a a2 ha ha2 e e2 => decide_eq_false (fun hh => hh ((xeq32 ha ha2).mp (by rw [← e, ← e2]; exact hc)))))) Y hst kk
    | lt => exact xsg_icmp (k := k) (cnd := .lt) ht (fun x y rest tgt htg h => lv_icmp_lt hx hb hdg htg (fun hc => h true (fun a a2 ha ha2 e e2 => decide_eq_true ((xlt32 ha ha2).mp (by rw [← e, ← e2]; exact hc)))) (fun hc => h false (fun a a2 ha ha2 e e2 => decide_eq_false (fun hh => hc (by rw [e, e2]; exact (xlt32 ha ha2).mpr hh))))) Y hst kk
    | ge => exact xsg_icmp (k := k) (cnd := .ge) ht (fun x y rest tgt htg h => lv_icmp_ge hx hb hdg htg (fun hc => h true (fun a a2 ha ha2 e e2 => decide_eq_true ((xle32 ha2 ha).mp (by rw [← e, ← e2]; exact hc)))) (fun hc => h false (fun a a2 ha ha2 e e2 => decide_eq_false (fun hh => hc (by rw [e, e2]; exact (xle32 ha2 ha).mpr hh))))) Y hst kk
    | gt => exact xsg_icmp (k := k) (cnd := .gt) ht (fun x y rest tgt htg h => lv_icmp_gt hx hb hdg htg (fun hc => h true (fun a a2 ha ha2 e e2 => decide_eq_true ((xlt32 ha2 ha).mp (by rw [← e, ← e2]; exact hc)))) (fun hc => h false (fun a a2 ha ha2 e e2 => decide_eq_false (fun hh => hc (by rw [e, e2]; exact (xlt32 ha2 ha).mpr hh))))) Y hst kk
    | le => exact xsg_icmp (k := k) (cnd := .le) ht (fun x y rest tgt htg h => lv_icmp_le hx hb hdg htg (fun hc => h true (fun a a2 ha ha2 e e2 => decide_eq_true ((xle32 ha ha2).mp (by rw [← e, ← e2]; exact hc)))) (fun hc => h false (fun a a2 ha ha2 e e2 => decide_eq_false (fun hh => hc (by rw [e, e2]; exact (xle32 ha ha2).mpr hh))))) Y hst kk
  | ifnull off =>
    have hl := xlen_of (n := 3) hck2 rfl rfl rfl
    subst hl
    exact xsg_null true C (of_decide_eq_true hck) rfl hdg Y hst kk
  | ifnonnull off =>
    have hl := xlen_of (n := 3) hck2 rfl rfl rfl
    subst hl
    exact xsg_null false C (of_decide_eq_true hck) rfl hdg Y hst kk
  | if_acmp cnd off =>
    have hl := xlen_of (n := 3) hck2 rfl rfl rfl
    subst hl
    cases cnd with
    | eq => rcases S with _ | ⟨a, _ | ⟨b, S⟩⟩ <;> exact xno hst
    | ne => exact xsg_acmp C (of_decide_eq_true hck) hdg Y hst kk
  | goto off =>
    have hl := xlen_of (n := 3) hck2 rfl rfl rfl
    subst hl
    exact xsg_goto C (of_decide_eq_true hck) hdg Y hst kk
  | tableswitch d lo hi offs => exact xsg_tab C (by have hck := Bool.and_eq_true _ _ ▸ hck; exact hck) hdg Y hst kk
  | dup =>
    have hl := xlen_of (n := 1) hck2 rfl rfl rfl
    subst hl
    exact xsg_dup C hdg Y hst kk
  | dup2 =>
    have hl := xlen_of (n := 1) hck2 rfl rfl rfl
    subst hl
    exact xsg_dup2 C hdg Y hst kk
  | pop =>
    have hl := xlen_of (n := 1) hck2 rfl rfl rfl
    subst hl
    exact xsg_pop C hdg Y hst kk
  | arraylength =>
    have hl := xlen_of (n := 1) hck2 rfl rfl rfl
    subst hl
    exact xsg_alen C hdg Y hst kk
  | iaload =>
    have hl := xlen_of (n := 1) hck2 rfl rfl rfl
    subst hl
    exact xsg_ald0 C hdg Y hst kk
  | baload =>
    have hl := xlen_of (n := 1) hck2 rfl rfl rfl
    subst hl
    exact xsg_ald1 C hdg Y hst kk
  | laload =>
    have hl := xlen_of (n := 1) hck2 rfl rfl rfl
    subst hl
    exact xsg_ald2 C hdg Y hst kk
  | aaload =>
    have hl := xlen_of (n := 1) hck2 rfl rfl rfl
    subst hl
    exact xsg_aald C hdg Y hst kk
  | iastore =>
    have hl := xlen_of (n := 1) hck2 rfl rfl rfl
    subst hl
    exact xsg_ast0 C hdg Y hst kk
  | bastore =>
    have hl := xlen_of (n := 1) hck2 rfl rfl rfl
    subst hl
    exact xsg_ast1 C hdg Y hst kk
  | lastore =>
    have hl := xlen_of (n := 1) hck2 rfl rfl rfl
    subst hl
    exact xsg_ast2 C hdg Y hst kk
  | getfield ix =>
    have hl := xlen_of (n := 3) hck2 rfl rfl rfl
    subst hl
    exact xsg_get C hck hdg Y hst kk
  | putfield ix =>
    have hl := xlen_of (n := 3) hck2 rfl rfl rfl
    subst hl
    have hck : (Nat.beq (xfty x y) 3 || (xck_f k ix x y z && !((xcl x).2.1 y).2.2.2)) = true := hck
    rcases (Bool.or_eq_true _ _ ▸ hck : Nat.beq (xfty x y) 3 = true ∨ (xck_f k ix x y z && !((xcl x).2.1 y).2.2.2) = true) with h | h
    · have h3 : xfty x y = 3 := Nat.eq_of_beq_eq_true h
      exfalso
      have hst : xs_putf k x y pc L S σ = some q := hst
      unfold xs_putf at hst
      split at hst
      · rename_i v K i S' hh0
        cases hKx : Nat.beq K x && Nat.beq (xkg K) (xmg k) with
        | false => rw [hKx] at hst; exact xno hst
        | true =>
          have hKe : K = x := Nat.eq_of_beq_eq_true (Bool.and_eq_true _ _ ▸ hKx).1
          subst hKe
          rw [hKx, cond_true] at hst
          split at hst
          · omega
          · omega
          · omega
          · omega
          · exact xno hst
      · exact xno hst
    · rw [Bool.and_eq_true] at h
      exact xsg_put C h.1 (by have := h.2; rwa [Bool.not_eq_true'] at this) hdg Y hst kk
  | _ => exact xno hst
end XSIM5
end
section
/-! the machine follows the abstract machine: calls, returns, runs -/
section XRUN
variable {p : Program} {l : Launch} {e : Env} {R : Room} {s : State} {m : MethodId} {args : Array Value} {below : List Frame} {meth : Method} {c : Code} {H : Heap} {locs : List Loc} {ls : Array Slot} {Q : State → Prop}
variable {D : va_G} {cA : Nat → ClassId} {tyl : List Nat} {ids : List (Nat × Nat)} {ad : Nat × Nat → Nat} {A : Nat → Prop} {k pc nL : Nat} {L L' : xa_L} {S S' : List xa_V} {σ σ' : xa_H} {q : xa_C}
def xen (D : va_G) (cA : Nat → ClassId) (tyl : List Nat) (ad : Nat × Nat → Nat) (A : Nat → Prop) (U : State) : Prop := va_K D vwCl (xtys cA tyl) U ∧ (∀ w ∈ xnw, va_Nw w U) ∧ xstr ad A U U.heap
def xPc (D : va_G) (cA : Nat → ClassId) (tyl : List Nat) (ids : List (Nat × Nat)) (ad : Nat × Nat → Nat) (A : Nat → Prop) (as : List xa_V) (σ : xa_H) : Array Value → State → Prop :=
  va_Pc (as.map (xcv ad)) (fun U => xen D cA tyl ad A U ∧ va_P D vwCl (xwl cA ids ad σ) U.heap ∧ va_D A (xwl cA ids ad σ))
def xQc (D : va_G) (cA : Nat → ClassId) (ids : List (Nat × Nat)) (ad : Nat × Nat → Nat) (A : Nat → Prop) (r : Option xa_V) (σ' : xa_H) : Array Value → State → Outcome → State → Prop := fun _ st o t =>
  o = .returned (r.map (xcv ad)) ∧ va_P D vwCl (xwl cA ids ad σ') t.heap ∧ va_F A st t ∧ xhok ids σ' ∧ ∀ v, r = some v → xok ids v
theorem xstr_move {U u : State} {H H1 : Heap} (hv : u.vm.Alike U.vm) (hR : ∀ own k tx a, vk_R own k tx a u → vk_R own k tx a U) (hq : ∀ a : Nat, a < H.size → ¬ A a → H1[a]? = H[a]?) (h : xstr ad A u H) : xstr ad A U H1 := by
  obtain ⟨h1, h2, ⟨adV, h3⟩, h4, h5, h6⟩ := h
  refine ⟨hR _ _ _ _ h1, hR _ _ _ _ h2, ⟨adV, (h3.moved hv).kept hq⟩, h4, (h5.moved hv).kept hq, ?_⟩
  rcases h6 with h6 | ⟨t, h6⟩
  · exact Or.inl ((h6.moved hv).kept hq)
  · exact Or.inr ⟨t, (h6.moved hv).kept hq⟩
theorem xnw_warm {U : State} (hW : s.WarmedH U.vm) (h : ∀ w ∈ xnw, va_Nw w s) : ∀ w ∈ xnw, va_Nw w U := by
  intro w hw
  have h1 := h w hw
  have h2 := (List.mem_filter.mp hw).2
  cases w <;> first | exact va_Nw.warmF hW h1 | exact va_Nw.warmM hW h1 | (exact absurd h2 (by simp [xisN]))
theorem xnw_tab : ∀ w ∈ xnw, w.onTables = true := by
  intro w hw
  have h2 := (List.mem_filter.mp hw).2
  cases w <;> first | rfl | (exact absurd h2 (by simp [xisN]))
theorem xen_warm {U : State} (hW : s.WarmedH U.vm) (hU : U.heap = H) (hS : va_S A s.heap H locs) (h : va_K D vwCl (xtys cA tyl) s ∧ (∀ w ∈ xnw, va_Nw w s) ∧ xstr ad A s s.heap) : xen D cA tyl ad A U :=
  ⟨va_K.moved hW.alike h.1, xnw_warm hW h.2.1, xstr_move hW.alike (fun _ _ _ _ h => h.warm hW) (by rw [hU]; exact hS.2.1) h.2.2⟩
theorem xen_same {u U : State} (hv : U.vm = u.vm) (hh : U.heap = u.heap) (h : xen D cA tyl ad A u) : xen D cA tyl ad A U :=
  ⟨va_K.moved (by rw [hv]; exact Vm.Alike.refl u.vm) h.1, fun w hw => va_Nw.same (xnw_tab w hw) hv.symm (h.2.1 w hw), xstr_move (by rw [hv]; exact Vm.Alike.refl u.vm) (fun _ _ _ _ h => vk_R.same hv h) (by rw [hh]; exact fun _ _ _ => rfl) h.2.2⟩
theorem xD_of (h : va_D A (xwl cA ids ad σ)) : va_D A (xwl cA ids ad σ') := by
  have key : ∀ (k : Nat) (q : Nat × va_E), (xwl cA ids ad σ')[k]? = some q → ∃ q0, (xwl cA ids ad σ)[k]? = some q0 ∧ q0.1 = q.1 := by
    intro k q hq
    unfold xwl at hq ⊢
    rw [List.getElem?_map] at hq ⊢
    cases hi : ids[k]? with
    | none => rw [hi] at hq; cases hq
    | some x =>
      rw [hi] at hq
      cases hq
      exact ⟨_, rfl, rfl⟩
  refine ⟨fun i j a b ha hb hab => ?_, fun k q hq => ?_⟩
  · obtain ⟨a0, h1, h2⟩ := key i a ha
    obtain ⟨b0, h3, h4⟩ := key j b hb
    exact h.1 i j a0 b0 h1 h3 (by rw [h2, h4]; exact hab)
  · obtain ⟨q0, h1, h2⟩ := key k q hq
    rw [← h2]
    exact h.2 k q0 h1
theorem xW_zret {cc : ByteArray} {Qc : Array Value → State → Outcome → State → Prop} {free : Addr → Prop} {v w : Int32} (hexec : p.tables.exec = Jvm.exec) (hb : c.code = cc) (hr : meth.sig.returnType = some .boolean) (hn : narrow .boolean (.int v) = .int w)
    (hq : ∀ t : State, t.heap = H → s.WarmedH t.vm → Qc args s (.returned (some (.int w))) t) (hf : ∀ q ∈ locs, free q.base)
    {pc : Nat} {ls : Array Slot} (hdg : decode cc pc = .ok (.ireturn, 1)) (hlocks : meth.locks = false) : W p l e R s m args below meth c H locs 0 0 (MQ below Qc args s 0 0 free) (F0 m pc ls [.int v]) := by
  intro T hT X
  obtain ⟨fs, hret, hrun, hended, hW, hframe⟩ := X.leave (v := some (.int w)) (fun h => by rw [hr] at h; cases h)
  have hmeth' : T.vm.method? m = some meth := X.method'
  refine ⟨T.setFrames fs, ?_, .returned (some (.int w)), hrun, hended, hq _ hT hW, locs, ⟨⟨_, rfl⟩, hW, hframe⟩, hf⟩
  jvm_step X.here [X.here.top, hexec, hb, hdg, hmeth', hr, hn]
  (try refine ⟨rfl, ?_⟩); (try refine ⟨rfl, ?_⟩)
  first | (intro acts; rw [hret _ acts rfl rfl rfl]) | rw [hret _ _ rfl rfl rfl]
  exact Steps.refl _
theorem xwt_cat (as : List xa_V) : (as.map (fun v => (xcv ad v).category)).sum = xwt as := by
  induction as with
  | nil => rfl
  | cons v r ih =>
    rw [List.map_cons, List.sum_cons, ih]
    show _ = cond (xlong v) 2 1 + xwt r
    rcases v with a | a | _ | q <;> rfl
theorem xargs_map (as : List xa_V) : ∀ i, (xargs i as).map (fun q => (q.1, xcv ad q.2)) = lv_args i (as.map (xcv ad)) := by
  induction as with
  | nil => intro i; rfl
  | cons v r ih =>
    intro i
    unfold xargs
    rw [List.map_cons, List.map_cons, ih]
    show _ = (i, xcv ad v) :: lv_args (if (xcv ad v).category = 2 then i + 2 else i + 1) (r.map (xcv ad))
    congr 2
    rcases v with a | a | _ | q <;> rfl
theorem xargs_ok (as : List xa_V) (h : ∀ v ∈ as, xok ids v) : ∀ i, ∀ q ∈ xargs i as, xok ids q.2 := by
  induction as with
  | nil => intro i q hq; cases hq
  | cons v r ih =>
    intro i q hq
    rcases List.mem_cons.mp hq with rfl | hq
    · exact h v List.mem_cons_self
    · exact ih (fun w hw => h w (List.mem_cons_of_mem _ hw)) _ q hq
theorem xsl_len (as : List xa_V) : (lg_sl (as.map (xcv ad))).length = xwt as := by
  induction as with
  | nil => rfl
  | cons v r ih =>
    unfold lg_sl at ih ⊢
    rw [List.map_cons, List.flatMap_cons, List.length_append, ih]
    show _ = cond (xlong v) 2 1 + xwt r
    rcases v with a | a | _ | q <;> rfl
/-- what is claimed of a run of n steps -/
def xSim (l : Launch) (D : va_G) (cA : Nat → ClassId) (tyl : List Nat) (ids : List (Nat × Nat)) (ad : Nat × Nat → Nat) (A : Nat → Prop) (n : Nat) : Prop :=
  ∀ (k pc : Nat) (L : xa_L) (S : List xa_V) (σ : xa_H) (r : Option xa_V) (σ' : xa_H), xrun n k pc L S σ = some (r, σ') →
    ∀ (p : Program) (e : Env) (R : Room) (s : State) (m : MethodId) (args : Array Value) (below : List Frame) (meth : Method) (c : Code) (H : Heap) (locs : List Loc) (ls : Array Slot),
      xcx D cA tyl ids ad A p R s m args meth c k → xdy D cA ids ad A s H locs ls (xmL k) L S σ →
      W p l e R s m args below meth c H locs 0 0 (MQ below (xQc D cA ids ad A r σ') args s 0 0 A) (F0 m pc ls (S.map (xcv ad)))
noncomputable def xrm (k : Nat) : Room := { frames := xmF k, cells := 0, slots := 0, locals := xmW k }
noncomputable def xws (k : Nat) : List Jvm.Cond := Cond.code (xmY k) (xmB k) (xmL k) (xmR k) :: xw
def xgo (x : Nat) : Prop := (x < 137 ∨ (200 ≤ x ∧ x < 272)) ∧ ¬ xmS x = 0
theorem xce_spec {x : Nat} (hg : xgo x) : plainName (xmY x).cls = true ∧ Cond.code (xmY x) (xmB x) (xmL x) (xmR x) ∈ xw ∧ Cond.initialized (xmY x).cls ∈ xw ∧ ((xmY x).cls ≠ "java/lang/invoke/MethodHandle" ∧ (xmY x).cls ≠ "java/lang/invoke/VarHandle") ∧ xmO x = (xmY x).cls ∧
    (xmS x = 1 → Cond.static (xmY x) ∈ xw) ∧ (xmS x = 2 → Cond.instanceMethod (xmY x) ∈ xw ∧ Cond.selects (xmY x).cls (xmY x) (xmY x) ∈ xw ∧ (xcl (xmK x)).1 = (xmY x).cls ∧ xmK x < 10) := by
  have h := xce_of hg.1
  unfold xce at h
  have h0 : Nat.beq (xmS x) 0 = false := by
    cases hb : Nat.beq (xmS x) 0 with
    | false => rfl
    | true => exact absurd (Nat.eq_of_beq_eq_true hb) hg.2
  rw [h0, Bool.false_or] at h
  simp only [Bool.and_eq_true, decide_eq_true_eq] at h
  obtain ⟨⟨⟨⟨h1, h3⟩, h4⟩, h5⟩, h6⟩ := h
  refine ⟨h1, xcv_all hg.1, xw_in h3 rfl, h4, h5, fun hS => ?_, fun hS => ?_⟩
  · rw [hS] at h6
    exact xw_in (of_decide_eq_true h6) rfl
  · rw [hS] at h6
    simp only [Bool.and_eq_true, decide_eq_true_eq] at h6
    exact ⟨xw_in h6.1.1.1 rfl, xw_in h6.1.1.2 rfl, h6.1.2, Nat.blt_eq.mp h6.2⟩
theorem xmet {n x : Nat} {as : List xa_V} {r : Option xa_V} (hsim : xSim l D cA tyl ids ad A n) (hx : xgo x) (hI : xids ids tyl) (hh : xhok ids σ) (ho : ∀ v ∈ as, xok ids v) (hw : xwt as ≤ xmL x)
    (hrun : xrun n x 0 (xargs 0 as) [] σ = some (r, σ')) : Met l (xmY x) (xws x) (xrm x) (xPc D cA tyl ids ad A as σ) (xQc D cA ids ad A r σ') 0 0 A := by
  obtain ⟨c1, c2, c3, c4, c5, -, -⟩ := xce_spec hx
  refine Met.ofW (cc := xmB x) (maxL := xmL x) (ret := xmR x) c1 rfl ?_
  intro p e s m args below meth c s₁ B hml hv
  obtain ⟨rfl, hen, hP, hD⟩ := hv
  have hts : ∀ w ∈ xw, w.before ((as.map (xcv ad)).toArray) s = true := fun w hw => atoms_spec (ws := xws x) B.pre w (List.mem_cons_of_mem _ hw)
  have hown : s.vm.findClass (xmO x) = some m.cls := by rw [c5]; exact findClass_of_methodNamed B.named
  rw [lg_entry_eq]
  have hl := lv_entry (as.map (xcv ad)) (n := xmL x) (by rw [xsl_len]; exact hw)
  exact hsim x 0 (xargs 0 as) [] σ r σ' hrun p e _ s m _ below meth c s.heap [] _
    ⟨⟨B.exec, B.bytes, hml, hown⟩, hts, hen, hI, ⟨B.returns, B.notSynchronized⟩, Nat.le_refl _, Nat.le_refl _⟩
    ⟨⟨hP, hD, va_S.rf⟩, hh, xargs_ok as ho 0, (fun v hv => by cases hv), (by rw [xargs_map]; exact hl)⟩
/-- behind a call -/
theorem xW_call {rest st0 : List Value} {a : Array Value} {r : Option xa_V} {σ1 : xa_H} (hr : va_Run p l e R s m args below meth c H locs 0 0 0 0 (F0 m pc ls st0) rest (xQc D cA ids ad A r σ1 a) A) (hS : va_S A s.heap H locs) (hD : va_D A (xwl cA ids ad σ))
    (kk : ∀ (H1 : Heap) (locs1 : List Loc), va_P D vwCl (xwl cA ids ad σ1) H1 → va_D A (xwl cA ids ad σ1) → va_S A s.heap H1 locs1 → xhok ids σ1 → (∀ v, r = some v → xok ids v) → W p l e R s m args below meth c H1 locs1 0 0 Q (F0 m (pc + 3) ls ((r.map (xcv ad)).toList ++ rest))) : W p l e R s m args below meth c H locs 0 0 Q (F0 m pc ls st0) := by
  intro T hT X
  obtain ⟨v, st₀, t, T', L, h0, X', hL, e1, e2, ⟨hv, hP, hF, hho, hxo⟩, st⟩ := hr T hT X
  cases hv
  have hz := hF.1
  have hk := hF.2
  rw [h0] at hz hk
  obtain ⟨t2, a1, b1⟩ := kk T'.heap (locs ++ L) (by rw [e1]; exact hP) (xD_of hD) ⟨Nat.le_trans hS.1 (by rw [e1]; exact hz), fun q h1 h2 => by rw [e1, hk q (Nat.lt_of_lt_of_le h1 hS.1) h2]; exact hS.2.1 q h1 h2, fun q hq => by
      rcases List.mem_append.mp hq with h | h
      · exact hS.2.2 q h
      · exact hL q h⟩ hho hxo T' rfl X'
  exact ⟨t2, st t2 a1, b1⟩
theorem xGood (x : Nat) (hx : xgo x) : GoodIn xw (xws x) := by
  obtain ⟨-, c2, -⟩ := xce_spec hx
  intro w hw
  rcases List.mem_cons.mp hw with rfl | hw
  · exact xw_good _ c2
  · exact xw_good _ hw
theorem xblind {as : List xa_V} : FrameBlind (xPc D cA tyl ids ad A as σ) := fun a U g mk h => ⟨h.1, xen_same (u := U) (U := U.calling g mk a) rfl rfl h.2.1, h.2.2⟩
theorem xck_r_of {x : Nat} (h : xck_r k x = true) : xmF x + 1 ≤ xmF k ∧ 8 + (xmL x + 11) + xmW x ≤ xmW k := by
  unfold xck_r at h
  rw [Bool.and_eq_true] at h
  exact ⟨Nat.ble_eq.mp h.1, Nat.ble_eq.mp h.2⟩
theorem xck_m_of {ix x z : Nat} (h : xck_m k ix x z = true) : lw_tbl[z]? = some (Cond.methodLink (xmO k) ix (xmY x)) ∨ lw_tbl[z]? = some (Cond.methodLinkNest (xmO k) ix (xmY x) "SofaStair") := by
  unfold xck_m at h
  rw [Bool.or_eq_true, decide_eq_true_eq, decide_eq_true_eq] at h
  exact h
theorem xrest {rest : List xa_V} (h : xwt rest ≤ 8) {m : MethodId} {st : List Value} : 2 * (F0 m pc ls st).monitorRoom + ((rest.map (xcv ad)).map fun v => v.category).sum ≤ 8 := by
  refine lv_room ?_
  rw [List.map_map]
  have := xwt_cat (ad := ad) rest
  show ((rest.map (fun v => (xcv ad v).category))).sum ≤ 8
  omega
theorem xrunV {x n ix z i : Nat} {as rest : List xa_V} {r : Option xa_V} {σ1 : xa_H} (hsim : xSim l D cA tyl ids ad A n) (C : xcx D cA tyl ids ad A p R s m args meth c k) (hx : xgo x) (hS2 : xmS x = 2) (hlk : xck_m k ix x z = true) (hrk : xck_r k x = true) (hnn : xck_n (xmY x) as.length = true)
    (hdg : decode (xmB k) pc = .ok (.invokevirtual ix, 3)) (Y : xdy D cA ids ad A s H locs ls (xmL k) L (as.reverse ++ xr (xmK x) i :: rest) σ) (hw1 : xwt rest ≤ 8) (hw2 : xwt (xr (xmK x) i :: as) ≤ xmL x)
    (hrun : xrun n x 0 (xargs 0 (xr (xmK x) i :: as)) [] σ = some (r, σ1))
    (kk : ∀ (H1 : Heap) (locs1 : List Loc), va_P D vwCl (xwl cA ids ad σ1) H1 → va_D A (xwl cA ids ad σ1) → va_S A s.heap H1 locs1 → xhok ids σ1 → (∀ v, r = some v → xok ids v) → W p l e R s m args below meth c H1 locs1 0 0 Q (F0 m (pc + 3) ls ((r.map (xcv ad)).toList ++ rest.map (xcv ad)))) :
    W p l e R s m args below meth c H locs 0 0 Q (F0 m pc ls ((as.reverse ++ xr (xmK x) i :: rest).map (xcv ad))) := by
  obtain ⟨⟨hxe, hb, hml, hown⟩, hts, hen, hI, -, hFr, hLr⟩ := C
  obtain ⟨c1, c2, c3, c4, c5, -, c7⟩ := xce_spec hx
  obtain ⟨c8, c9, c10, c11⟩ := c7 hS2
  have ho : ∀ v ∈ xr (xmK x) i :: as, xok ids v := by
    intro v hv
    refine Y.2.2.2.1 v ?_
    rcases List.mem_cons.mp hv with rfl | hv
    · simp
    · simp [hv]
  have hq : (xmK x, i) ∈ ids := xid_of (ho _ List.mem_cons_self) (by omega)
  have hM := xmet hsim hx hI Y.2.1 ho hw2 hrun
  obtain ⟨hr1, hr2⟩ := xck_r_of hrk
  obtain ⟨nn, hnn1, he⟩ := xwl_get (cA := cA) (ad := ad) (σ := σ) hq
  rw [xent_obj (q := (xmK x, i)) (xaty_obj _ c11)] at he
  have hrc := va_recv hen.1 Y.1.1 (xcl_at _ c11) he
  rw [c10] at hrc
  have hpre : PreV s H (xmY x).cls (ad (xmK x, i)) (xPc D cA tyl ids ad A (xr (xmK x) i :: as) σ) (as.map (xcv ad)) :=
    ⟨xblind, hrc, fun U hU hW => ⟨rfl, xen_warm hW hU Y.1.2.2 hen, by rw [hU]; exact Y.1.1, Y.1.2.1⟩⟩
  have hd : (parseMethodDescriptor (xmY x).desc).map (fun d => d.parameters.length) = some as.length := of_decide_eq_true hnn
  have hR : (xrm x).frames + 1 ≤ R.frames ∧ 8 + (xmL x + 11) + (xrm x).locals ≤ R.locals := ⟨Nat.le_trans hr1 hFr, Nat.le_trans hr2 hLr⟩
  have hst : (F0 m pc ls ((as.reverse ++ xr (xmK x) i :: rest).map (xcv ad))).stack = (as.map (xcv ad)).reverse ++ .ref (ad (xmK x, i)) :: rest.map (xcv ad) := by
    show (as.reverse ++ xr (xmK x) i :: rest).map (xcv ad) = _
    rw [List.map_append, List.map_cons, List.map_reverse]
    rfl
  have hsz : ls.size = xmL k := Y.2.2.2.2.1
  rcases xck_m_of hlk with hl | hl
  · refine xW_call (va_runV ⟨hxe, hb, hml, hown, hts⟩ hM (cwV (C := (xmY x).cls) as.length hts ?_ rfl rfl rfl ⟨rfl, c4.1, c4.2, hd⟩ hR) hpre rfl (by simp) hsz hst (xrest hw1) hdg ⟨Nat.zero_le _, Nat.zero_le _⟩) Y.1.2.2 Y.1.2.1 kk
    intro w hw
    unfold wsV at hw
    rcases List.mem_append.mp hw with hw | hw
    · simp only [List.mem_cons, List.not_mem_nil, or_false] at hw
      rcases hw with rfl | rfl | rfl | rfl
      · exact xw_good _ (xw_in hl rfl)
      · exact xw_good _ c8
      · exact xw_good _ c9
      · exact xw_good _ c3
    · exact xGood x hx w hw
  · exact xW_call (va_runVN (host := "SofaStair") ⟨hxe, hb, hml, hown, hts⟩ hM ⟨va_cnB as.length hts (xGood x hx) rfl rfl rfl (hen.2.1 _ (xw_nest hl rfl)) (hts _ c3) ⟨c4.1, c4.2, hd⟩ hR, hts _ c8, hts _ c9⟩ hpre rfl (by simp) hsz hst (xrest hw1) hdg ⟨Nat.zero_le _, Nat.zero_le _⟩) Y.1.2.2 Y.1.2.1 kk
theorem xrunS {x n ix z : Nat} {as rest : List xa_V} {r : Option xa_V} {σ1 : xa_H} (hsim : xSim l D cA tyl ids ad A n) (C : xcx D cA tyl ids ad A p R s m args meth c k) (hx : xgo x) (hS1 : xmS x = 1) (hlk : xck_m k ix x z = true) (hrk : xck_r k x = true) (hnn : xck_n (xmY x) as.length = true)
    (hdg : decode (xmB k) pc = .ok (.invokestatic ix, 3)) (Y : xdy D cA ids ad A s H locs ls (xmL k) L (as.reverse ++ rest) σ) (hw1 : xwt rest ≤ 8) (hw2 : xwt as ≤ xmL x)
    (hrun : xrun n x 0 (xargs 0 as) [] σ = some (r, σ1))
    (kk : ∀ (H1 : Heap) (locs1 : List Loc), va_P D vwCl (xwl cA ids ad σ1) H1 → va_D A (xwl cA ids ad σ1) → va_S A s.heap H1 locs1 → xhok ids σ1 → (∀ v, r = some v → xok ids v) → W p l e R s m args below meth c H1 locs1 0 0 Q (F0 m (pc + 3) ls ((r.map (xcv ad)).toList ++ rest.map (xcv ad)))) :
    W p l e R s m args below meth c H locs 0 0 Q (F0 m pc ls ((as.reverse ++ rest).map (xcv ad))) := by
  obtain ⟨⟨hxe, hb, hml, hown⟩, hts, hen, hI, -, hFr, hLr⟩ := C
  obtain ⟨c1, c2, c3, c4, c5, c6, -⟩ := xce_spec hx
  have c8 := c6 hS1
  have ho : ∀ v ∈ as, xok ids v := fun v hv => Y.2.2.2.1 v (by simp [hv])
  have hM := xmet hsim hx hI Y.2.1 ho hw2 hrun
  obtain ⟨hr1, hr2⟩ := xck_r_of hrk
  have hpre : PreS s H (xPc D cA tyl ids ad A as σ) (as.map (xcv ad)) :=
    ⟨xblind, fun U hU hW => ⟨rfl, xen_warm hW hU Y.1.2.2 hen, by rw [hU]; exact Y.1.1, Y.1.2.1⟩⟩
  have hd : (parseMethodDescriptor (xmY x).desc).map (fun d => d.parameters.length) = some as.length := of_decide_eq_true hnn
  have hR : (xrm x).frames + 1 ≤ R.frames ∧ 8 + (xmL x + 11) + (xrm x).locals ≤ R.locals := ⟨Nat.le_trans hr1 hFr, Nat.le_trans hr2 hLr⟩
  have hst : (F0 m pc ls ((as.reverse ++ rest).map (xcv ad))).stack = (as.map (xcv ad)).reverse ++ rest.map (xcv ad) := by
    show (as.reverse ++ rest).map (xcv ad) = _
    rw [List.map_append, List.map_reverse]
  have hsz : ls.size = xmL k := Y.2.2.2.2.1
  rcases xck_m_of hlk with hl | hl
  · refine xW_call (va_runS ⟨hxe, hb, hml, hown, hts⟩ hM ⟨callB_of as.length hts (xGood x hx) rfl rfl rfl (hts _ c3) (hts _ (xw_in hl rfl)) ⟨c4.1, c4.2, hd⟩ hR, hts _ c8⟩ hpre rfl (by simp) hsz hst (xrest hw1) hdg ⟨Nat.zero_le _, Nat.zero_le _⟩) Y.1.2.2 Y.1.2.1 kk
  · exact xW_call (va_runSN (host := "SofaStair") ⟨hxe, hb, hml, hown, hts⟩ hM ⟨va_cnB as.length hts (xGood x hx) rfl rfl rfl (hen.2.1 _ (xw_nest hl rfl)) (hts _ c3) ⟨c4.1, c4.2, hd⟩ hR, hts _ c8, trivial⟩ hpre rfl (by simp) hsz hst (xrest hw1) hdg ⟨Nat.zero_le _, Nat.zero_le _⟩) Y.1.2.2 Y.1.2.1 kk

theorem xM_init : Cond.initialized "java/lang/Math" ∈ xw := by decide +kernel
set_option maxRecDepth 100000 in
theorem xM_abs : Cond.static Lib.Math.abs.name ∈ xw ∧ Cond.code Lib.Math.abs.name Lib.Math.abs.code 1 (some .int) ∈ xw := by decide +kernel
set_option maxRecDepth 100000 in
theorem xM_max : Cond.static Lib.Math.max.name ∈ xw ∧ Cond.code Lib.Math.max.name Lib.Math.max.code 2 (some .int) ∈ xw := by decide +kernel
set_option maxRecDepth 100000 in
theorem xM_min : Cond.static Lib.Math.min.name ∈ xw ∧ Cond.code Lib.Math.min.name Lib.Math.min.code 2 (some .int) ∈ xw := by decide +kernel
theorem xprim_no {x K j : Nat} {r : List xa_V} {v : xa_V} (h : 5003 ≤ x) (hp : xprim x (.inr (.inr (some (K, j))) :: r) = some v) : False := by
  have e0 : Nat.beq x 5000 = false := by
    cases hb : Nat.beq x 5000 with
    | false => rfl
    | true => have := Nat.eq_of_beq_eq_true hb; omega
  have e1 : Nat.beq x 5001 = false := by
    cases hb : Nat.beq x 5001 with
    | false => rfl
    | true => have := Nat.eq_of_beq_eq_true hb; omega
  have e2 : Nat.beq x 5002 = false := by
    cases hb : Nat.beq x 5002 with
    | false => rfl
    | true => have := Nat.eq_of_beq_eq_true hb; omega
  match r, hp with
  | [], hp =>
    have hp : (if K = 99 then (cond (Nat.beq x 5002) (some (.inl 12)) none) else none) = some v := hp
    rw [e2] at hp
    split at hp <;> cases hp
  | [.inl c], hp =>
    have hp : (if K = 99 then (cond (Nat.beq x 5000) (if 0 ≤ c ∧ c < 65536 then some (.inl (xixo xmoves c 0)) else none) (cond (Nat.beq x 5001) (if 0 ≤ c ∧ c < 12 then some (.inl (xmoves.getD c.toNat 0)) else none) none)) else none) = some v := hp
    rw [e0, e1] at hp
    split at hp <;> cases hp
  | [.inr _], hp => cases hp
  | .inl _ :: _ :: _, hp => cases hp
  | .inr _ :: _ :: _, hp => cases hp
/-- Math.abs, max, min -/
theorem xprim_M {x y z ix : Nat} {v : xa_V} (C : xcx D cA tyl ids ad A p R s m args meth c k) (hS : S = (S.take y).reverse.reverse ++ S.drop y) (hp : xprim x (S.take y).reverse = some v)
    (hck : (decide (lw_tbl[z]? = some (Cond.methodLink (xmO k) ix (xck_p x))) && Nat.ble 2 (xmF k) && Nat.ble 34 (xmW k) && Nat.ble 5003 x && Nat.blt x 5006) = true) (hdg : decode (xmB k) pc = .ok (.invokestatic ix, 3))
    (Y : xdy D cA ids ad A s H locs ls (xmL k) L S σ) (hw8 : xwt (S.drop y) ≤ 8)
    (kk : xok ids v → W p l e R s m args below meth c H locs 0 0 Q (F0 m (pc + 3) ls ((v :: S.drop y).map (xcv ad)))) : W p l e R s m args below meth c H locs 0 0 Q (F0 m pc ls (S.map (xcv ad))) := by
  obtain ⟨⟨hx, hb, hml, hown⟩, hts, -, -, -, hFr, hLr⟩ := C
  simp only [Bool.and_eq_true, decide_eq_true_eq] at hck
  obtain ⟨⟨⟨⟨h1, h2⟩, h3⟩, h4⟩, h5⟩ := hck
  have h2 := Nat.ble_eq.mp h2
  have h3 := Nat.ble_eq.mp h3
  have h4 := Nat.ble_eq.mp h4
  have h5 := Nat.blt_eq.mp h5
  have hsz : c.maxLocals = ls.size := by rw [hml]; exact Y.2.2.2.2.1.symm
  have hro : ((S.drop y).map (xcv ad) |>.map fun v => v.category).sum + 13 ≤ R.locals := by
    rw [List.map_map]
    have := xwt_cat (ad := ad) (S.drop y)
    have e : ((S.drop y).map (fun v => (xcv ad v).category)).sum + 13 ≤ R.locals := by omega
    exact e
  have hfr : 1 ≤ R.frames := by omega
  have hargs : ∀ w ∈ (S.take y).reverse, xok ids w := fun w hw => Y.2.2.2.1 w (List.mem_of_mem_take (List.mem_reverse.mp hw))
  have link := hts _ (xw_in h1 rfl)
  have wini : Cond.initialized "java/lang/Math" ∈ xw := xM_init
  rw [hS]
  generalize (S.take y).reverse = as at hp hargs
  generalize S.drop y = rest at kk hro
  match as, hp, hargs with
  | [], hp, _ => exact xno hp
  | [.inl a], hp, hargs =>
    cases hb3 : Nat.beq x 5003 with
    | false =>
      have hp : cond (Nat.beq x 5003) (some (.inl (if 0 ≤ a then a else w32 (0 - a)))) none = some v := hp
      rw [hb3] at hp; exact xno hp
    | true =>
      have hp : cond (Nat.beq x 5003) (some (.inl (if 0 ≤ a then a else w32 (0 - a)) : xa_V)) none = some v := hp
      rw [hb3] at hp
      have hx3 := Nat.eq_of_beq_eq_true hb3
      subst hx3
      cases hp
      have ha : xr32 a := hargs (.inl a) (by simp)
      refine va_mabs (x := Int32.ofInt a) hx hb hsz hown link (hts _ xM_abs.1) (hts _ wini) (hts _ xM_abs.2) hfr hro (Nat.zero_le _) (Nat.zero_le _) hdg ?_
      have e : (if 0 ≤ Int32.ofInt a then Int32.ofInt a else 0 - Int32.ofInt a) = Int32.ofInt (if 0 ≤ a then a else w32 (0 - a)) := by
        by_cases h : 0 ≤ a
        · rw [if_pos h, if_pos ((xle0 ha).mpr h)]
        · rw [if_neg h, if_neg (fun q => h ((xle0 ha).mp q)), xsub]; rfl
      rw [e]
      refine kk ?_
      show xr32 _
      split
      · exact ha
      · exact w32_r _
  | [.inl a, .inl b], hp, hargs =>
    have ha : xr32 a := hargs (.inl a) (by simp)
    have hb0 : xr32 b := hargs (.inl b) (by simp)
    have hp : cond (Nat.beq x 5004) (some (.inl (if a < b then b else a) : xa_V)) (cond (Nat.beq x 5005) (some (.inl (if b < a then b else a))) none) = some v := hp
    cases hb4 : Nat.beq x 5004 with
    | true =>
      rw [hb4] at hp
      have hx3 := Nat.eq_of_beq_eq_true hb4
      subst hx3
      cases hp
      refine va_mmax (x := Int32.ofInt a) (y := Int32.ofInt b) hx hb hsz hown link (hts _ xM_max.1) (hts _ wini) (hts _ xM_max.2) hfr hro (Nat.zero_le _) (Nat.zero_le _) hdg ?_
      have e : (if Int32.ofInt a < Int32.ofInt b then Int32.ofInt b else Int32.ofInt a) = Int32.ofInt (if a < b then b else a) := by
        by_cases h : a < b
        · rw [if_pos h, if_pos ((xlt32 ha hb0).mpr h)]
        · rw [if_neg h, if_neg (fun q => h ((xlt32 ha hb0).mp q))]
      rw [e]
      refine kk ?_
      show xr32 _
      split
      · exact hb0
      · exact ha
    | false =>
      rw [hb4] at hp
      cases hb5 : Nat.beq x 5005 with
      | false => rw [hb5] at hp; exact xno hp
      | true =>
        rw [hb5] at hp
        have hx3 := Nat.eq_of_beq_eq_true hb5
        subst hx3
        cases hp
        refine va_mmin (x := Int32.ofInt a) (y := Int32.ofInt b) hx hb hsz hown link (hts _ xM_min.1) (hts _ wini) (hts _ xM_min.2) hfr hro (Nat.zero_le _) (Nat.zero_le _) hdg ?_
        have e : (if Int32.ofInt b < Int32.ofInt a then Int32.ofInt b else Int32.ofInt a) = Int32.ofInt (if b < a then b else a) := by
          by_cases h : b < a
          · rw [if_pos h, if_pos ((xlt32 hb0 ha).mpr h)]
          · rw [if_neg h, if_neg (fun q => h ((xlt32 hb0 ha).mp q))]
        rw [e]
        refine kk ?_
        show xr32 _
        split
        · exact hb0
        · exact ha
  | .inr (.inr (some (K, j))) :: r, hp, _ => exact absurd (xprim_no h4 hp) (by simp)
  | .inr (.inr none) :: r, hp, _ => exact xno hp
  | .inr (.inl _) :: r, hp, _ => exact xno hp
  | [.inl _, .inr _], hp, _ => exact xno hp
  | .inl _ :: .inl _ :: _ :: _, hp, _ => exact xno hp
  | .inl _ :: .inr _ :: _ :: _, hp, _ => exact xno hp
end XRUN
end
section
/-! the machine follows the abstract machine: whole runs -/
section XMAIN
variable {p : Program} {l : Launch} {e : Env} {R : Room} {s : State} {m : MethodId} {args : Array Value} {below : List Frame} {meth : Method} {c : Code} {H : Heap} {locs : List Loc} {ls : Array Slot} {Q : State → Prop}
variable {D : va_G} {cA : Nat → ClassId} {tyl : List Nat} {ids : List (Nat × Nat)} {ad : Nat × Nat → Nat} {A : Nat → Prop} {k pc nL : Nat} {L L' : xa_L} {S S' : List xa_V} {σ σ' : xa_H} {q : xa_C}
/-- String.indexOf, charAt, length on the text of the moves -/
theorem xprim_S {x y z ix : Nat} {v : xa_V} (C : xcx D cA tyl ids ad A p R s m args meth c k) (hS : S = (S.take y).reverse.reverse ++ S.drop y) (hp : xprim x (S.take y).reverse = some v)
    (hck : (decide (lw_tbl[z]? = some (Cond.methodLink (xmO k) ix (xck_p x))) && Nat.ble 5 (xmF k) && Nat.ble 141 (xmW k) && Nat.blt x 5003) = true) (h5 : 5000 ≤ x) (hdg : decode (xmB k) pc = .ok (.invokevirtual ix, 3))
    (Y : xdy D cA ids ad A s H locs ls (xmL k) L S σ) (hw8 : xwt (S.drop y) ≤ 8)
    (kk : xok ids v → ∀ (H1 : Heap) (locs1 : List Loc), xdy D cA ids ad A s H1 locs1 ls (xmL k) L (S.drop y) σ → W p l e R s m args below meth c H1 locs1 0 0 Q (F0 m (pc + 3) ls ((v :: S.drop y).map (xcv ad)))) : W p l e R s m args below meth c H locs 0 0 Q (F0 m pc ls (S.map (xcv ad))) := by
  sorry
theorem xstk {rest : List xa_V} {σ1 : xa_H} {r : Option xa_V} {H1 : Heap} {locs1 : List Loc} (Y : xdy D cA ids ad A s H locs ls nL L S σ) (hr : ∀ w ∈ rest, w ∈ S) (hP : va_P D vwCl (xwl cA ids ad σ1) H1) (hD : va_D A (xwl cA ids ad σ1)) (hS : va_S A s.heap H1 locs1) (hh : xhok ids σ1) (hx : ∀ v, r = some v → xok ids v) :
    xdy D cA ids ad A s H1 locs1 ls nL L (r.toList ++ rest) σ1 := by
  refine ⟨⟨hP, hD, hS⟩, hh, Y.2.2.1, fun v hv => ?_, Y.2.2.2.2⟩
  rcases List.mem_append.mp hv with h | h
  · exact hx v (by simpa using h)
  · exact Y.2.2.2.1 v (hr v h)
theorem xtoL {rest : List xa_V} {r : Option xa_V} : (r.map (xcv ad)).toList ++ rest.map (xcv ad) = (r.toList ++ rest).map (xcv ad) := by
  rcases r with _ | r <;> rfl
theorem xgo_of {x d : Nat} (hd : ¬ d = 0) (h : Nat.beq (xmS x) d = true) (h2 : (Nat.blt x 137 || (Nat.ble 200 x && Nat.blt x 272)) = true) : xgo x ∧ xmS x = d := by
  have e := Nat.eq_of_beq_eq_true h
  rw [Bool.or_eq_true, Bool.and_eq_true] at h2
  refine ⟨⟨?_, by omega⟩, e⟩
  rcases h2 with h2 | h2
  · exact Or.inl (Nat.blt_eq.mp h2)
  · exact Or.inr ⟨Nat.ble_eq.mp h2.1, Nat.blt_eq.mp h2.2⟩
theorem xsim_ret {n : Nat} {en : xa_I} {r : Option xa_V} (he : xcd k pc = some en) (h : xret k en.1 S σ = some (r, σ')) (C : xcx D cA tyl ids ad A p R s m args meth c k) (Y : xdy D cA ids ad A s H locs ls (xmL k) L S σ) :
    W p l e R s m args below meth c H locs 0 0 (MQ below (xQc D cA ids ad A r σ') args s 0 0 A) (F0 m pc ls (S.map (xcv ad))) := by
  obtain ⟨hdg, hck, hck2⟩ := xdec he
  have hk3 := xdec3 he
  obtain ⟨⟨hx, hb, hml, hown⟩, hts, hen, hI, ⟨hr, hlk⟩, -, -⟩ := C
  obtain ⟨ins, len, x, y, z⟩ := en
  have hfree := Y.1.2.2.2.2
  have hF : ∀ t : State, t.heap = H → va_F A s t := fun t ht => Y.1.2.2.F ht
  cases ins with
  | ireturn =>
    have hl := xlen_of (n := 1) hck2 rfl rfl rfl
    subst hl
    match S, Y, h with
    | [], _, h => exact xno h
    | .inr _ :: _, _, h => exact xno h
    | .inl _ :: _ :: _, _, h => exact xno h
    | [.inl v], Y, h =>
      have h : some (some (.inl (cond (Nat.beq (xmZ k) 1) (v % 2) v) : xa_V), σ) = some (r, σ') := h
      cases h
      have hv : xr32 v := Y.2.2.2.1 (.inl v) (by simp)
      rcases of_decide_eq_true hk3 with ⟨hz, hR⟩ | ⟨hz, hR⟩
      · refine xW_zret (v := Int32.ofInt v) (w := Int32.ofInt (v % 2)) hx hb (by rw [hr]; exact hR) (by show Value.int (Int32.ofInt v &&& 1) = _; rw [xand1]) (fun t ht _ => ?_) hfree hdg hlk
        rw [hz]
        exact ⟨rfl, by rw [ht]; exact Y.1.1, hF t ht, Y.2.1, fun w hw => by cases hw; exact ⟨by show _ ≤ v % 2; omega, by show v % 2 < _; omega⟩⟩
      · refine W.iret (v := Int32.ofInt v) (hlocks := hlk) hx hb (by rw [hr]; exact hR) (fun t ht _ => ?_) hfree hdg
        rw [hz]
        exact ⟨rfl, by rw [ht]; exact Y.1.1, hF t ht, Y.2.1, fun w hw => by cases hw; exact hv⟩
  | lreturn =>
    have hl := xlen_of (n := 1) hck2 rfl rfl rfl
    subst hl
    match S, Y, h with
    | [], _, h => exact xno h
    | .inl _ :: _, _, h => exact xno h
    | .inr (.inr _) :: _, _, h => exact xno h
    | .inr (.inl _) :: _ :: _, _, h => exact xno h
    | [.inr (.inl v)], Y, h =>
      have h : some (some (.inr (.inl v) : xa_V), σ) = some (r, σ') := h
      cases h
      have hv : xr64 v := Y.2.2.2.1 (.inr (.inl v)) (by simp)
      refine W.lret (v := Int64.ofInt v) (hlocks := hlk) hx hb (by rw [hr]; exact of_decide_eq_true hk3) (fun t ht _ => ?_) hfree hdg
      exact ⟨rfl, by rw [ht]; exact Y.1.1, hF t ht, Y.2.1, fun w hw => by cases hw; exact hv⟩
  | areturn =>
    have hl := xlen_of (n := 1) hck2 rfl rfl rfl
    subst hl
    match S, Y, h with
    | [], _, h => exact xno h
    | .inl _ :: _, _, h => exact xno h
    | .inr (.inl _) :: _, _, h => exact xno h
    | .inr (.inr _) :: _ :: _, _, h => exact xno h
    | [.inr (.inr v)], Y, h =>
      have h : some (some (.inr (.inr v) : xa_V), σ) = some (r, σ') := h
      cases h
      have hv : xok ids (.inr (.inr v)) := Y.2.2.2.1 (.inr (.inr v)) (by simp)
      have hk3 : xisref (xmR k) = true := hk3
      obtain ⟨rt, hrt, hk⟩ : ∃ rt, xmR k = some rt ∧ ((∃ n, rt = .object n) ∨ ∃ t, rt = .array t) := by
        unfold xisref at hk3
        split at hk3
        · rename_i o hh
          exact ⟨_, hh, Or.inl ⟨_, rfl⟩⟩
        · rename_i o hh
          exact ⟨_, hh, Or.inr ⟨_, rfl⟩⟩
        · cases hk3
      refine W.aret (v := xcv ad (.inr (.inr v))) (rt := rt) (hlocks := hlk) hx hb (by rw [hr]; exact hrt) hk (by rcases v with _ | v; exact Or.inl rfl; exact Or.inr ⟨_, rfl⟩) (fun t ht _ => ?_) hfree hdg
      exact ⟨rfl, by rw [ht]; exact Y.1.1, hF t ht, Y.2.1, fun w hw => by cases hw; exact hv⟩
  | return_ =>
    have hl := xlen_of (n := 1) hck2 rfl rfl rfl
    subst hl
    match S, Y, h with
    | _ :: _, _, h => exact xno h
    | [], Y, h =>
      have h : some ((none : Option xa_V), σ) = some (r, σ') := h
      cases h
      refine W.vret (hlocks := hlk) hx hb (by rw [hr]; exact of_decide_eq_true hk3) (fun t ht _ => ?_) hfree hdg
      exact ⟨rfl, by rw [ht]; exact Y.1.1, hF t ht, Y.2.1, fun w hw => by cases hw⟩
  | _ => exact xno h
theorem xsim_all (l : Launch) (hI : xids ids tyl) : ∀ n : Nat, xSim l D cA tyl ids ad A n := by
  intro n
  induction n with
  | zero =>
    intro k pc L S σ r σ' h
    exact xno h
  | succ n ih =>
    intro k pc L S σ r σ' h p e R s m args below meth c H locs ls C Y
    unfold xrun at h
    split at h
    · exact xno h
    · rename_i en he
      split at h
      · rename_i hkd
        obtain ⟨hdg, hck, hck2⟩ := xdec he
        have hk3 := xdec3 he
        cases h1 : Nat.ble en.2.2.2.1 S.length && Nat.ble (xwt (S.drop en.2.2.2.1)) 8 with
        | false => rw [h1] at h; exact xno h
        | true =>
          rw [h1, cond_true] at h
          rw [Bool.and_eq_true] at h1
          have hlen := Nat.ble_eq.mp h1.1
          have hw8 := Nat.ble_eq.mp h1.2
          have hS : S = (S.take en.2.2.2.1).reverse.reverse ++ S.drop en.2.2.2.1 := by rw [List.reverse_reverse, List.take_append_drop]
          obtain ⟨ins, len, x, y, z⟩ := en
          dsimp only at h hlen hw8 hS hkd hck hck2 hk3 hdg
          have hdrop : ∀ w ∈ S.drop y, w ∈ S := fun w hw => List.mem_of_mem_drop hw
          cases h2 : Nat.ble 5000 x with
          | true =>
            rw [h2, cond_true] at h
            split at h
            · rename_i v hp
              cases ins with
              | invokevirtual ix =>
                have hl := xlen_of (n := 3) hck2 rfl rfl rfl
                subst hl
                have hck : cond (Nat.ble 5000 x) (decide (lw_tbl[z]? = some (Cond.methodLink (xmO k) ix (xck_p x))) && Nat.ble 5 (xmF k) && Nat.ble 141 (xmW k) && Nat.blt x 5003) _ = true := hck
                rw [h2, cond_true] at hck
                exact xprim_S C hS hp hck (Nat.ble_eq.mp h2) hdg Y hw8 (fun hv H1 locs1 Y1 => ih _ _ _ _ _ _ _ h p e R s m args below meth c H1 locs1 ls C (xdy_push (v := v) (S' := S.drop y) Y1 (fun w hw => hw) hv))
              | invokestatic ix =>
                have hl := xlen_of (n := 3) hck2 rfl rfl rfl
                subst hl
                have hck : cond (Nat.ble 5000 x) (decide (lw_tbl[z]? = some (Cond.methodLink (xmO k) ix (xck_p x))) && Nat.ble 2 (xmF k) && Nat.ble 34 (xmW k) && Nat.ble 5003 x && Nat.blt x 5006) _ = true := hck
                rw [h2, cond_true] at hck
                exact xprim_M C hS hp hck hdg Y hw8 (fun hv => ih _ _ _ _ _ _ _ h p e R s m args below meth c H locs ls C (xdy_push (v := v) (S' := S.drop y) Y hdrop hv))
              | _ => exact absurd hkd (by intro h; cases h)
            · exact xno h
          | false =>
            rw [h2, cond_false] at h
            cases h3 : Nat.ble (xwt (S.take y).reverse) (xmL x) && (xstat ins || xrcv x (S.take y).reverse) with
            | false => rw [h3] at h; exact xno h
            | true =>
              rw [h3, cond_true] at h
              rw [Bool.and_eq_true] at h3
              have hw2 := Nat.ble_eq.mp h3.1
              split at h
              · rename_i v σ1 hrun
                have hlt : (S.take y).reverse.length = y := by rw [List.length_reverse, List.length_take]; omega
                have hrec := h3.2
                generalize (S.take y).reverse = as at hS hrun hw2 hrec hlt
                cases ins with
                | invokevirtual ix =>
                  have hl := xlen_of (n := 3) hck2 rfl rfl rfl
                  subst hl
                  have hck : cond (Nat.ble 5000 x) _ (xck_m k ix x z && xck_r k x && Nat.blt 0 y && xck_n (xmY x) (y - 1) && Nat.beq (xkg (xcl 0).2.2) 0) = true := hck
                  rw [h2, cond_false] at hck
                  simp only [Bool.and_eq_true] at hck
                  have hk3 : (Nat.ble 5000 x || (Nat.beq (xmS x) 2 && (Nat.blt x 137 || (Nat.ble 200 x && Nat.blt x 272)))) = true := hk3
                  rw [h2, Bool.false_or, Bool.and_eq_true] at hk3
                  obtain ⟨hg, hS2⟩ := xgo_of (by decide) hk3.1 hk3.2
                  have hrec : xrcv x as = true := by simpa [xstat] using hrec
                  match as, hrec, hS, hrun, hw2, hlt with
                  | .inr (.inr (some (K, i))) :: as', hrec, hS, hrun, hw2, hlt =>
                    have hK : K = xmK x := Nat.eq_of_beq_eq_true hrec
                    subst hK
                    have e9 : (xr (xmK x) i :: as').reverse ++ S.drop y = as'.reverse ++ xr (xmK x) i :: S.drop y := by simp
                    have hS' : S = as'.reverse ++ xr (xmK x) i :: S.drop y := hS.trans e9
                    have hnn : xck_n (xmY x) as'.length = true := by
                      have := hck.1.2
                      rw [show y - 1 = as'.length by simp at hlt; omega] at this
                      exact this
                    have Y' := Y
                    rw [hS'] at Y' ⊢
                    refine xrunV (n := n) ih C hg hS2 hck.1.1.1.1 hck.1.1.1.2 hnn hdg Y' hw8 hw2 hrun (fun H1 locs1 hP hD hSS hh hx => ?_)
                    rw [xtoL]
                    exact ih _ _ _ _ _ _ _ h p e R s m args below meth c H1 locs1 ls C (xstk Y hdrop hP hD hSS hh hx)
                  | [], hrec, _, _, _, _ => cases hrec
                  | .inl _ :: _, hrec, _, _, _, _ => cases hrec
                  | .inr (.inl _) :: _, hrec, _, _, _, _ => cases hrec
                  | .inr (.inr none) :: _, hrec, _, _, _, _ => cases hrec
                | invokestatic ix =>
                  have hl := xlen_of (n := 3) hck2 rfl rfl rfl
                  subst hl
                  have hck : cond (Nat.ble 5000 x) _ (xck_m k ix x z && xck_r k x && xck_n (xmY x) y) = true := hck
                  rw [h2, cond_false] at hck
                  simp only [Bool.and_eq_true] at hck
                  have hk3 : (Nat.ble 5000 x || Nat.beq (xmS x) 1 && (Nat.blt x 137 || (Nat.ble 200 x && Nat.blt x 272))) = true := hk3
                  rw [h2, Bool.false_or, Bool.and_eq_true] at hk3
                  obtain ⟨hg, hS2⟩ := xgo_of (by decide) hk3.1 hk3.2
                  have hS' : S = as.reverse ++ S.drop y := hS
                  have hnn : xck_n (xmY x) as.length = true := by
                    rw [hlt]
                    exact hck.2
                  have Y' := Y
                  rw [hS'] at Y' ⊢
                  refine xrunS (n := n) ih C hg hS2 hck.1.1 hck.1.2 hnn hdg Y' hw8 hw2 hrun (fun H1 locs1 hP hD hSS hh hx => ?_)
                  rw [xtoL]
                  exact ih _ _ _ _ _ _ _ h p e R s m args below meth c H1 locs1 ls C (xstk Y hdrop hP hD hSS hh hx)
                | _ => exact absurd hkd (by intro h; cases h)
              · exact xno h
      · exact xsim_ret (n := n) he h C Y
      · split at h
        · rename_i q hq
          exact xsim_step C he Y hq (fun H' locs' ls' Y' => ih _ _ _ _ _ _ _ h p e R s m args below meth c H' locs' ls' C Y')
        · exact xno h
end XMAIN
end
section
/-! what a method computes, row by row: J says that the abstract machine comes to what t says, where t says something -/
def J {α : Type} (k pc : Nat) (L : xa_L) (S : List xa_V) (σ : xa_H) (Q : α → Option xa_V → xa_H → Prop) (t : Option α) : Prop :=
  ∀ x, t = some x → ∃ (n : Nat) (r : Option xa_V) (σ' : xa_H), xrun n k pc L S σ = some (r, σ') ∧ Q x r σ'
/-- what a method answers: a number and nothing changed; a long; a number and new contents; new contents -/
def jqP (σ : xa_H) : Int → Option xa_V → xa_H → Prop := fun x r σ' => r = some (xi x) ∧ σ' = σ
def jqL (σ : xa_H) : Int → Option xa_V → xa_H → Prop := fun x r σ' => r = some (xl x) ∧ σ' = σ
def jqW : Int × xa_H → Option xa_V → xa_H → Prop := fun x r σ' => r = some (xi x.1) ∧ σ' = x.2
def jqV : xa_H → Option xa_V → xa_H → Prop := fun x r σ' => r = none ∧ σ' = x
/-- a method called in place: what it answers goes on in the caller -/
def jqC {α : Type} (k pc : Nat) (L : xa_L) (S : List xa_V) (Q : α → Option xa_V → xa_H → Prop) : α → Option xa_V → xa_H → Prop := fun x v σ1 =>
  ∃ (n : Nat) (r : Option xa_V) (σ' : xa_H), xrun n k pc L (v.toList ++ S) σ1 = some (r, σ') ∧ Q x r σ'
def xnm {α β : Type} (e : α) (K : α → β) : β := K e
noncomputable def xFU : Nat := 1000000
section JR
variable {α : Type} {k pc pc' len x y z : Nat} {L L' : xa_L} {S S' : List xa_V} {σ σ' : xa_H} {Q : α → Option xa_V → xa_H → Prop} {t t' : Option α} {ins : Instr} {a b : Int} {v w : xa_V}
theorem jr_none : J k pc L S σ Q (none : Option α) := fun _ h => by cases h
theorem jr_s {en : xa_I} {q : xa_C} (he : xcd k pc = some en) (hk : xkd en.1 = 0) (hs : xstp k en pc L S σ = some q) (h : J k q.1 q.2.1 q.2.2.1 q.2.2.2 Q t) : J k pc L S σ Q t := by
  intro x hx
  obtain ⟨n, r, σ', h1, h2⟩ := h x hx
  refine ⟨n + 1, r, σ', ?_, h2⟩
  unfold xrun
  rw [he]
  (try dsimp only)
  rw [hk]
  (try dsimp only)
  rw [hs]
  exact h1
theorem jr_iconst (he : xcd k pc = some (.iconst a, len, x, y, z)) (hp : pc + 1 = pc') (h : J k pc' L (xi a :: S) σ Q t) : J k pc L S σ Q t := jr_s he rfl rfl (hp ▸ h)
theorem jr_bipush (he : xcd k pc = some (.bipush a, len, x, y, z)) (hp : pc + 2 = pc') (h : J k pc' L (xi a :: S) σ Q t) : J k pc L S σ Q t := jr_s he rfl rfl (hp ▸ h)
theorem jr_sipush (he : xcd k pc = some (.sipush a, len, x, y, z)) (hp : pc + 3 = pc') (h : J k pc' L (xi a :: S) σ Q t) : J k pc L S σ Q t := jr_s he rfl rfl (hp ▸ h)
theorem jr_lconst {n : Fin 2} (he : xcd k pc = some (.lconst n, len, x, y, z)) (hp : pc + 1 = pc') (hn : ((n : Nat) : Int) = a) (h : J k pc' L (xl a :: S) σ Q t) : J k pc L S σ Q t := jr_s he rfl rfl (by subst hn; exact hp ▸ h)
theorem jr_ldc {ix : Nat} (he : xcd k pc = some (.ldc ix, len, x, 0, z)) (hp : pc + 2 = pc') (hn : (x : Int) = a) (h : J k pc' L (xi a :: S) σ Q t) : J k pc L S σ Q t := jr_s he rfl rfl (by subst hn; exact hp ▸ h)
theorem jr_ldcS {ix : Nat} (he : xcd k pc = some (.ldc ix, len, x, 1, z)) (hp : pc + 2 = pc') (h : J k pc' L (xr 99 x :: S) σ Q t) : J k pc L S σ Q t := jr_s he rfl rfl (hp ▸ h)
theorem jr_ldc2 {ix : Nat} (he : xcd k pc = some (.ldc2_w ix, len, x, y, z)) (hp : pc + 3 = pc') (hn : cond (Nat.beq y 0) (x : Int) (-(x : Int)) = a) (h : J k pc' L (xl a :: S) σ Q t) : J k pc L S σ Q t := jr_s he rfl rfl (by subst hn; exact hp ▸ h)
theorem jr_null (he : xcd k pc = some (.aconst_null, len, x, y, z)) (hp : pc + 1 = pc') (h : J k pc' L (xn :: S) σ Q t) : J k pc L S σ Q t := jr_s he rfl rfl (hp ▸ h)
theorem jr_iload {i : Nat} (he : xcd k pc = some (.iload i, len, x, y, z)) (hp : pc + 2 = pc') (hl : xget L i = some (xi a)) (h : J k pc' L (xi a :: S) σ Q t) : J k pc L S σ Q t := jr_s (q := (pc + 2, L, xi a :: S, σ)) he rfl (by show xs_ld i 2 pc L S σ 0 = _; unfold xs_ld; rw [hl]; rfl) (hp ▸ h)
theorem jr_iload_n {i : Fin 4} (he : xcd k pc = some (.iload_n i, len, x, y, z)) (hp : pc + 1 = pc') (hl : xget L i = some (xi a)) (h : J k pc' L (xi a :: S) σ Q t) : J k pc L S σ Q t := jr_s (q := (pc + 1, L, xi a :: S, σ)) he rfl (by show xs_ld i 1 pc L S σ 0 = _; unfold xs_ld; rw [hl]; rfl) (hp ▸ h)
theorem jr_lload {i : Nat} (he : xcd k pc = some (.lload i, len, x, y, z)) (hp : pc + 2 = pc') (hl : xget L i = some (xl a)) (h : J k pc' L (xl a :: S) σ Q t) : J k pc L S σ Q t := jr_s (q := (pc + 2, L, xl a :: S, σ)) he rfl (by show xs_ld i 2 pc L S σ 1 = _; unfold xs_ld; rw [hl]; rfl) (hp ▸ h)
theorem jr_lload_n {i : Fin 4} (he : xcd k pc = some (.lload_n i, len, x, y, z)) (hp : pc + 1 = pc') (hl : xget L i = some (xl a)) (h : J k pc' L (xl a :: S) σ Q t) : J k pc L S σ Q t := jr_s (q := (pc + 1, L, xl a :: S, σ)) he rfl (by show xs_ld i 1 pc L S σ 1 = _; unfold xs_ld; rw [hl]; rfl) (hp ▸ h)
theorem jr_aload {i : Nat} {r : Option (Nat × Nat)} (he : xcd k pc = some (.aload i, len, x, y, z)) (hp : pc + 2 = pc') (hl : xget L i = some (.inr (.inr r))) (h : J k pc' L (.inr (.inr r) :: S) σ Q t) : J k pc L S σ Q t := jr_s (q := (pc + 2, L, .inr (.inr r) :: S, σ)) he rfl (by show xs_ld i 2 pc L S σ 2 = _; unfold xs_ld; rw [hl]; rfl) (hp ▸ h)
theorem jr_aload_n {i : Fin 4} {r : Option (Nat × Nat)} (he : xcd k pc = some (.aload_n i, len, x, y, z)) (hp : pc + 1 = pc') (hl : xget L i = some (.inr (.inr r))) (h : J k pc' L (.inr (.inr r) :: S) σ Q t) : J k pc L S σ Q t := jr_s (q := (pc + 1, L, .inr (.inr r) :: S, σ)) he rfl (by show xs_ld i 1 pc L S σ 2 = _; unfold xs_ld; rw [hl]; rfl) (hp ▸ h)
theorem jr_istore {i : Nat} (he : xcd k pc = some (.istore i, len, x, y, z)) (hp : pc + 2 = pc') (hi : Nat.blt i (xmL k) = true) (hl : xset L i (xi a) = L') (h : J k pc' L' S σ Q t) : J k pc L (xi a :: S) σ Q t := jr_s (q := (pc + 2, xset L i (xi a), S, σ)) he rfl (by show cond (Nat.blt i (xmL k)) (some _) none = _; rw [hi]; rfl) (by subst hl; exact hp ▸ h)
theorem jr_istore_n {i : Fin 4} (he : xcd k pc = some (.istore_n i, len, x, y, z)) (hp : pc + 1 = pc') (hi : Nat.blt i (xmL k) = true) (hl : xset L i (xi a) = L') (h : J k pc' L' S σ Q t) : J k pc L (xi a :: S) σ Q t := jr_s (q := (pc + 1, xset L i (xi a), S, σ)) he rfl (by show cond (Nat.blt i (xmL k)) (some _) none = _; rw [hi]; rfl) (by subst hl; exact hp ▸ h)
theorem jr_lstore {i : Nat} (he : xcd k pc = some (.lstore i, len, x, y, z)) (hp : pc + 2 = pc') (hi : Nat.blt (i + 1) (xmL k) = true) (hl : xsetl L i (xl a) = L') (h : J k pc' L' S σ Q t) : J k pc L (xl a :: S) σ Q t := jr_s (q := (pc + 2, xsetl L i (xl a), S, σ)) he rfl (by show cond (Nat.blt (i + 1) (xmL k)) (some _) none = _; rw [hi]; rfl) (by subst hl; exact hp ▸ h)
theorem jr_lstore_n {i : Fin 4} (he : xcd k pc = some (.lstore_n i, len, x, y, z)) (hp : pc + 1 = pc') (hi : Nat.blt ((i : Nat) + 1) (xmL k) = true) (hl : xsetl L i (xl a) = L') (h : J k pc' L' S σ Q t) : J k pc L (xl a :: S) σ Q t := jr_s (q := (pc + 1, xsetl L i (xl a), S, σ)) he rfl (by show cond (Nat.blt ((i : Nat) + 1) (xmL k)) (some _) none = _; rw [hi]; rfl) (by subst hl; exact hp ▸ h)
theorem jr_astore {i : Nat} {r : Option (Nat × Nat)} (he : xcd k pc = some (.astore i, len, x, y, z)) (hp : pc + 2 = pc') (hi : Nat.blt i (xmL k) = true) (hl : xset L i (.inr (.inr r)) = L') (h : J k pc' L' S σ Q t) : J k pc L (.inr (.inr r) :: S) σ Q t := jr_s (q := (pc + 2, xset L i (.inr (.inr r)), S, σ)) he rfl (by show cond (Nat.blt i (xmL k)) (some _) none = _; rw [hi]; rfl) (by subst hl; exact hp ▸ h)
theorem jr_astore_n {i : Fin 4} {r : Option (Nat × Nat)} (he : xcd k pc = some (.astore_n i, len, x, y, z)) (hp : pc + 1 = pc') (hi : Nat.blt i (xmL k) = true) (hl : xset L i (.inr (.inr r)) = L') (h : J k pc' L' S σ Q t) : J k pc L (.inr (.inr r) :: S) σ Q t := jr_s (q := (pc + 1, xset L i (.inr (.inr r)), S, σ)) he rfl (by show cond (Nat.blt i (xmL k)) (some _) none = _; rw [hi]; rfl) (by subst hl; exact hp ▸ h)
/-- a number on the stack gets a name -/
theorem jr_nm {K : Int → Option α} (h : ∀ c : Int, J k pc L (xi c :: S) σ Q (K c)) : J k pc L (xi a :: S) σ Q (xnm a K) := h a
theorem jr_nml {K : Int → Option α} (h : ∀ c : Int, J k pc L (xl c :: S) σ Q (K c)) : J k pc L (xl a :: S) σ Q (xnm a K) := h a
theorem jr_nme {β : Type} {e e' : β} {K : β → Option α} (he : e = e') (h : J k pc L S σ Q (K e')) : J k pc L S σ Q (xnm e K) := by subst he; exact h
theorem jr_iinc {i : Nat} {n : Int} {K : Int → Option α} {L2 : Int → xa_L} (he : xcd k pc = some (.iinc i n, len, x, y, z)) (hp : pc + 3 = pc') (hi : Nat.blt i (xmL k) = true) (hg : xget L i = some (xi a)) (hl : ∀ c : Int, xset L i (xi c) = L2 c) (h : ∀ c : Int, J k pc' (L2 c) S σ Q (K c)) : J k pc L S σ Q (xnm (w32 (a + n)) K) :=
  jr_s (q := (pc + 3, xset L i (xi (w32 (a + n))), S, σ)) he rfl (by
    show (match xget L i with | some (.inl v) => cond (Nat.blt i (xmL k)) (some (pc + 3, xset L i (.inl (w32 (v + n))), S, σ)) none | _ => none) = _
    rw [hg]
    show cond (Nat.blt i (xmL k)) _ none = _
    rw [hi]; rfl) (by
    show J k (pc + 3) (xset L i (xi (w32 (a + n)))) S σ Q (K (w32 (a + n)))
    rw [hl, hp]
    exact h _)
theorem jr_iadd (he : xcd k pc = some (.iadd, len, x, y, z)) (hp : pc + 1 = pc') (h : J k pc' L (xi (w32 (a + b)) :: S) σ Q t) : J k pc L (xi b :: xi a :: S) σ Q t := jr_s he rfl rfl (hp ▸ h)
theorem jr_isub (he : xcd k pc = some (.isub, len, x, y, z)) (hp : pc + 1 = pc') (h : J k pc' L (xi (w32 (a - b)) :: S) σ Q t) : J k pc L (xi b :: xi a :: S) σ Q t := jr_s he rfl rfl (hp ▸ h)
theorem jr_imul (he : xcd k pc = some (.imul, len, x, y, z)) (hp : pc + 1 = pc') (h : J k pc' L (xi (w32 (a * b)) :: S) σ Q t) : J k pc L (xi b :: xi a :: S) σ Q t := jr_s he rfl rfl (hp ▸ h)
theorem jr_iand (he : xcd k pc = some (.iand, len, x, y, z)) (hp : pc + 1 = pc') (h : J k pc' L (xi (xand a b) :: S) σ Q t) : J k pc L (xi b :: xi a :: S) σ Q t := jr_s he rfl rfl (hp ▸ h)
theorem jr_ior (he : xcd k pc = some (.ior, len, x, y, z)) (hp : pc + 1 = pc') (h : J k pc' L (xi (xor2 a b) :: S) σ Q t) : J k pc L (xi b :: xi a :: S) σ Q t := jr_s he rfl rfl (hp ▸ h)
theorem jr_ixor (he : xcd k pc = some (.ixor, len, x, y, z)) (hp : pc + 1 = pc') (h : J k pc' L (xi (xxor a b) :: S) σ Q t) : J k pc L (xi b :: xi a :: S) σ Q t := jr_s he rfl rfl (hp ▸ h)
theorem jr_ishl (he : xcd k pc = some (.ishl, len, x, y, z)) (hp : pc + 1 = pc') (h : J k pc' L (xi (xshl a b) :: S) σ Q t) : J k pc L (xi b :: xi a :: S) σ Q t := jr_s he rfl rfl (hp ▸ h)
theorem jr_ishr (he : xcd k pc = some (.ishr, len, x, y, z)) (hp : pc + 1 = pc') (h : J k pc' L (xi (xshr a b) :: S) σ Q t) : J k pc L (xi b :: xi a :: S) σ Q t := jr_s he rfl rfl (hp ▸ h)
theorem jr_idiv (he : xcd k pc = some (.idiv, len, x, y, z)) (hp : pc + 1 = pc') (hb : 0 < b) (h : J k pc' L (xi (xdiv a b) :: S) σ Q t) : J k pc L (xi b :: xi a :: S) σ Q t := jr_s (q := (pc + 1, L, xi (xdiv a b) :: S, σ)) he rfl (if_pos hb) (hp ▸ h)
theorem jr_irem (he : xcd k pc = some (.irem, len, x, y, z)) (hp : pc + 1 = pc') (hb : 0 < b) (h : J k pc' L (xi (xrem a b) :: S) σ Q t) : J k pc L (xi b :: xi a :: S) σ Q t := jr_s (q := (pc + 1, L, xi (xrem a b) :: S, σ)) he rfl (if_pos hb) (hp ▸ h)
theorem jr_ineg (he : xcd k pc = some (.ineg, len, x, y, z)) (hp : pc + 1 = pc') (h : J k pc' L (xi (w32 (-a)) :: S) σ Q t) : J k pc L (xi a :: S) σ Q t := jr_s he rfl rfl (hp ▸ h)
theorem jr_ladd (he : xcd k pc = some (.ladd, len, x, y, z)) (hp : pc + 1 = pc') (h : J k pc' L (xl (w64 (a + b)) :: S) σ Q t) : J k pc L (xl b :: xl a :: S) σ Q t := jr_s he rfl rfl (hp ▸ h)
theorem jr_lmul (he : xcd k pc = some (.lmul, len, x, y, z)) (hp : pc + 1 = pc') (h : J k pc' L (xl (w64 (a * b)) :: S) σ Q t) : J k pc L (xl b :: xl a :: S) σ Q t := jr_s he rfl rfl (hp ▸ h)
theorem jr_ldiv (he : xcd k pc = some (.ldiv, len, x, y, z)) (hp : pc + 1 = pc') (hb : 0 < b) (h : J k pc' L (xl (xdiv a b) :: S) σ Q t) : J k pc L (xl b :: xl a :: S) σ Q t := jr_s (q := (pc + 1, L, xl (xdiv a b) :: S, σ)) he rfl (if_pos hb) (hp ▸ h)
theorem jr_lcmp (he : xcd k pc = some (.lcmp, len, x, y, z)) (hp : pc + 1 = pc') (h : J k pc' L (xi (xcmp a b) :: S) σ Q t) : J k pc L (xl b :: xl a :: S) σ Q t := jr_s he rfl rfl (hp ▸ h)
theorem jr_i2l (he : xcd k pc = some (.i2l, len, x, y, z)) (hp : pc + 1 = pc') (h : J k pc' L (xl a :: S) σ Q t) : J k pc L (xi a :: S) σ Q t := jr_s he rfl rfl (hp ▸ h)
theorem jr_l2i (he : xcd k pc = some (.l2i, len, x, y, z)) (hp : pc + 1 = pc') (h : J k pc' L (xi (w32 a) :: S) σ Q t) : J k pc L (xl a :: S) σ Q t := jr_s he rfl rfl (hp ▸ h)
theorem jr_i2c (he : xcd k pc = some (.i2c, len, x, y, z)) (hp : pc + 1 = pc') (h : J k pc' L (xi (a % 65536) :: S) σ Q t) : J k pc L (xi a :: S) σ Q t := jr_s he rfl rfl (hp ▸ h)
theorem jr_goto {off : Int} (he : xcd k pc = some (.goto off, len, x, y, z)) (hp : xtgt pc off = pc') (h : J k pc' L S σ Q t) : J k pc L S σ Q t := jr_s he rfl rfl (hp ▸ h)
theorem jr_dup (he : xcd k pc = some (.dup, len, x, y, z)) (hp : pc + 1 = pc') (hv : xlong v = false) (h : J k pc' L (v :: v :: S) σ Q t) : J k pc L (v :: S) σ Q t := jr_s (q := (pc + 1, L, v :: v :: S, σ)) he rfl (by show cond (xlong v) none (some _) = _; rw [hv]; rfl) (hp ▸ h)
theorem jr_dup2 (he : xcd k pc = some (.dup2, len, x, y, z)) (hp : pc + 1 = pc') (hv : (xlong v || xlong w) = false) (h : J k pc' L (v :: w :: v :: w :: S) σ Q t) : J k pc L (v :: w :: S) σ Q t := jr_s (q := (pc + 1, L, v :: w :: v :: w :: S, σ)) he rfl (by show cond (xlong v || xlong w) none (some _) = _; rw [hv]; rfl) (hp ▸ h)
theorem jr_pop (he : xcd k pc = some (.pop, len, x, y, z)) (hp : pc + 1 = pc') (hv : xlong v = false) (h : J k pc' L S σ Q t) : J k pc L (v :: S) σ Q t := jr_s (q := (pc + 1, L, S, σ)) he rfl (by show cond (xlong v) none (some _) = _; rw [hv]; rfl) (hp ▸ h)
theorem jr_alen {K i : Nat} (he : xcd k pc = some (.arraylength, len, x, y, z)) (hp : pc + 1 = pc') (hk : ¬ (xaty K = 9 ∨ K = 99)) (hn : ((xalen K : Nat) : Int) = a) (h : J k pc' L (xi a :: S) σ Q t) : J k pc L (xr K i :: S) σ Q t := jr_s (q := (pc + 1, L, xi (xalen K : Int) :: S, σ)) he rfl (if_neg hk) (by subst hn; exact hp ▸ h)
/-- rows, read and written -/
theorem jr_ald {n : Int} {K i : Nat} (he : xcd k pc = some (.iaload, len, x, y, z)) (hp : pc + 1 = pc') (hk : xaty K = 0) (hn : ((xalen K : Nat) : Int) = n) (h : J k pc' L (xi (σ K i a.toNat) :: S) σ Q t) : J k pc L (xi a :: xr K i :: S) σ Q (if 0 ≤ a ∧ a < n then t else none) := by
  by_cases hc : 0 ≤ a ∧ a < n
  · rw [if_pos hc]
    subst hn
    exact jr_s (q := (pc + 1, L, xi (σ K i a.toNat) :: S, σ)) he rfl (if_pos ⟨hk, hc⟩) (hp ▸ h)
  · rw [if_neg hc]; exact jr_none
theorem jr_ald' {n : Int} {K i : Nat} (he : xcd k pc = some (.iaload, len, x, y, z)) (hp : pc + 1 = pc') (hk : xaty K = 0) (hn : ((xalen K : Nat) : Int) = n) (hc : 0 ≤ a ∧ a < n) (h : J k pc' L (xi (σ K i a.toNat) :: S) σ Q t) : J k pc L (xi a :: xr K i :: S) σ Q t := by
  subst hn
  exact jr_s (q := (pc + 1, L, xi (σ K i a.toNat) :: S, σ)) he rfl (if_pos ⟨hk, hc⟩) (hp ▸ h)
theorem jr_bald {n : Int} {K i : Nat} (he : xcd k pc = some (.baload, len, x, y, z)) (hp : pc + 1 = pc') (hk : xaty K = 1) (hn : ((xalen K : Nat) : Int) = n) (h : J k pc' L (xi (σ K i a.toNat) :: S) σ Q t) : J k pc L (xi a :: xr K i :: S) σ Q (if 0 ≤ a ∧ a < n then t else none) := by
  by_cases hc : 0 ≤ a ∧ a < n
  · rw [if_pos hc]
    subst hn
    exact jr_s (q := (pc + 1, L, xi (σ K i a.toNat) :: S, σ)) he rfl (if_pos ⟨hk, hc⟩) (hp ▸ h)
  · rw [if_neg hc]; exact jr_none
theorem jr_lald {n : Int} {K i : Nat} (he : xcd k pc = some (.laload, len, x, y, z)) (hp : pc + 1 = pc') (hk : xaty K = 2) (hn : ((xalen K : Nat) : Int) = n) (h : J k pc' L (xl (σ K i a.toNat) :: S) σ Q t) : J k pc L (xi a :: xr K i :: S) σ Q (if 0 ≤ a ∧ a < n then t else none) := by
  by_cases hc : 0 ≤ a ∧ a < n
  · rw [if_pos hc]
    subst hn
    exact jr_s (q := (pc + 1, L, xl (σ K i a.toNat) :: S, σ)) he rfl (if_pos ⟨hk, hc⟩) (hp ▸ h)
  · rw [if_neg hc]; exact jr_none
theorem jr_aald {n : Int} {K i K2 i2 : Nat} (he : xcd k pc = some (.aaload, len, x, y, z)) (hp : pc + 1 = pc') (hk : xaty K = 5 ∨ xaty K = 6) (hn : ((xalen K : Nat) : Int) = n) (hr : xar K i a.toNat = (K2, i2)) (h : J k pc' L (xr K2 i2 :: S) σ Q t) : J k pc L (xi a :: xr K i :: S) σ Q (if 0 ≤ a ∧ a < n then t else none) := by
  by_cases hc : 0 ≤ a ∧ a < n
  · rw [if_pos hc]
    subst hn
    exact jr_s (q := (pc + 1, L, .inr (.inr (some (xar K i a.toNat))) :: S, σ)) he rfl (if_pos ⟨hk, hc⟩) (by rw [hr]; exact hp ▸ h)
  · rw [if_neg hc]; exact jr_none
theorem jr_ast {n : Int} {K i : Nat} (he : xcd k pc = some (.iastore, len, x, y, z)) (hp : pc + 1 = pc') (hk : xaty K = 0) (hg : xkg K = xmg k) (hn : ((xalen K : Nat) : Int) = n) (h : J k pc' L S (xup σ K i a.toNat b) Q t) : J k pc L (xi b :: xi a :: xr K i :: S) σ Q (if 0 ≤ a ∧ a < n then t else none) := by
  by_cases hc : 0 ≤ a ∧ a < n
  · rw [if_pos hc]
    subst hn
    exact jr_s (q := (pc + 1, L, S, xup σ K i a.toNat b)) he rfl (if_pos ⟨Or.inl rfl, hk, hc, hg⟩) (hp ▸ h)
  · rw [if_neg hc]; exact jr_none
theorem jr_ast' {n : Int} {K i : Nat} (he : xcd k pc = some (.iastore, len, x, y, z)) (hp : pc + 1 = pc') (hk : xaty K = 0) (hg : xkg K = xmg k) (hn : ((xalen K : Nat) : Int) = n) (hc : 0 ≤ a ∧ a < n) (h : J k pc' L S (xup σ K i a.toNat b) Q t) : J k pc L (xi b :: xi a :: xr K i :: S) σ Q t := by
  subst hn
  exact jr_s (q := (pc + 1, L, S, xup σ K i a.toNat b)) he rfl (if_pos ⟨Or.inl rfl, hk, hc, hg⟩) (hp ▸ h)
theorem jr_bast {n : Int} {K i : Nat} (he : xcd k pc = some (.bastore, len, x, y, z)) (hp : pc + 1 = pc') (hk : xaty K = 1) (hg : xkg K = xmg k) (hn : ((xalen K : Nat) : Int) = n) (h : J k pc' L S (xup σ K i a.toNat (b % 2)) Q t) : J k pc L (xi b :: xi a :: xr K i :: S) σ Q (if 0 ≤ a ∧ a < n then t else none) := by
  by_cases hc : 0 ≤ a ∧ a < n
  · rw [if_pos hc]
    subst hn
    exact jr_s (q := (pc + 1, L, S, xup σ K i a.toNat (b % 2))) he rfl (if_pos ⟨Or.inr rfl, hk, hc, hg⟩) (hp ▸ h)
  · rw [if_neg hc]; exact jr_none
theorem jr_last {n : Int} {K i : Nat} (he : xcd k pc = some (.lastore, len, x, y, z)) (hp : pc + 1 = pc') (hk : xaty K = 2) (hg : xkg K = xmg k) (hn : ((xalen K : Nat) : Int) = n) (h : J k pc' L S (xup σ K i a.toNat b) Q t) : J k pc L (xl b :: xi a :: xr K i :: S) σ Q (if 0 ≤ a ∧ a < n then t else none) := by
  by_cases hc : 0 ≤ a ∧ a < n
  · rw [if_pos hc]
    subst hn
    exact jr_s (q := (pc + 1, L, S, xup σ K i a.toNat b)) he rfl (if_pos ⟨rfl, hk, hc, hg⟩) (hp ▸ h)
  · rw [if_neg hc]; exact jr_none
/-- fields -/
theorem jr_geti {K i ix f : Nat} (he : xcd k pc = some (.getfield ix, len, K, f, z)) (hp : pc + 3 = pc') (hf : xfty K f = 0 ∨ xfty K f = 1) (h : J k pc' L (xi (σ K i f) :: S) σ Q t) : J k pc L (xr K i :: S) σ Q t :=
  jr_s (q := (pc + 3, L, xi (σ K i f) :: S, σ)) he rfl (by
    show xs_getf K f pc L (xr K i :: S) σ = _
    unfold xs_getf
    dsimp only
    rw [Nat.beq_refl, cond_true]
    rcases hf with hf | hf <;> rw [hf] <;> rfl) (hp ▸ h)
theorem jr_getr {K i ix f K2 i2 : Nat} (he : xcd k pc = some (.getfield ix, len, K, f, z)) (hp : pc + 3 = pc') (hf : xfty K f = 3) (hr : xsr K i f = (K2, i2)) (h : J k pc' L (xr K2 i2 :: S) σ Q t) : J k pc L (xr K i :: S) σ Q t :=
  jr_s (q := (pc + 3, L, .inr (.inr (some (xsr K i f))) :: S, σ)) he rfl (by
    show xs_getf K f pc L (xr K i :: S) σ = _
    unfold xs_getf
    dsimp only
    rw [Nat.beq_refl, cond_true, hf]
    rfl) (by rw [hr]; exact hp ▸ h)
theorem jr_getd {K i ix f : Nat} (he : xcd k pc = some (.getfield ix, len, K, f, z)) (hp : pc + 3 = pc') (hf : xfty K f = 4) (h0 : σ K i f < 0 → J k pc' L (xn :: S) σ Q t) (h1 : ¬ σ K i f < 0 → J k pc' L (xr 5 (σ K i f).toNat :: S) σ Q t') : J k pc L (xr K i :: S) σ Q (if σ K i f < 0 then t else t') := by
  refine jr_s (q := (pc + 3, L, .inr (.inr (if σ K i f < 0 then none else some (5, (σ K i f).toNat))) :: S, σ)) he rfl (by
    show xs_getf K f pc L (xr K i :: S) σ = _
    unfold xs_getf
    dsimp only
    rw [Nat.beq_refl, cond_true, hf]
    rfl) ?_
  dsimp only
  rw [hp]
  by_cases hc : σ K i f < 0
  · rw [if_pos hc, if_pos hc]; exact h0 hc
  · rw [if_neg hc, if_neg hc]; exact h1 hc
theorem jr_put {K i ix f : Nat} (he : xcd k pc = some (.putfield ix, len, K, f, z)) (hp : pc + 3 = pc') (hf : xfty K f = 0) (hg : Nat.beq (xkg K) (xmg k) = true) (h : J k pc' L S (xup σ K i f a) Q t) : J k pc L (xi a :: xr K i :: S) σ Q t :=
  jr_s (q := (pc + 3, L, S, xup σ K i f a)) he rfl (by
    show xs_putf k K f pc L (xi a :: xr K i :: S) σ = _
    unfold xs_putf
    dsimp only
    rw [Nat.beq_refl, hg, Bool.and_self, cond_true, hf]
    rfl) (hp ▸ h)
theorem jr_putz {K i ix f : Nat} (he : xcd k pc = some (.putfield ix, len, K, f, z)) (hp : pc + 3 = pc') (hf : xfty K f = 1) (hg : Nat.beq (xkg K) (xmg k) = true) (ha : a = 0 ∨ a = 1) (h : J k pc' L S (xup σ K i f a) Q t) : J k pc L (xi a :: xr K i :: S) σ Q t :=
  jr_s (q := (pc + 3, L, S, xup σ K i f a)) he rfl (by
    show xs_putf k K f pc L (xi a :: xr K i :: S) σ = _
    unfold xs_putf
    dsimp only
    rw [Nat.beq_refl, hg, Bool.and_self, cond_true, hf]
    exact if_pos ha) (hp ▸ h)
theorem jr_putn {K i ix f : Nat} (he : xcd k pc = some (.putfield ix, len, K, f, z)) (hp : pc + 3 = pc') (hf : xfty K f = 4) (hg : Nat.beq (xkg K) (xmg k) = true) (h : J k pc' L S (xup σ K i f (-1)) Q t) : J k pc L (xn :: xr K i :: S) σ Q t :=
  jr_s (q := (pc + 3, L, S, xup σ K i f (-1))) he rfl (by
    show xs_putf k K f pc L (xn :: xr K i :: S) σ = _
    unfold xs_putf
    dsimp only
    rw [Nat.beq_refl, hg, Bool.and_self, cond_true, hf]
    rfl) (hp ▸ h)
theorem jr_putr {K i ix f j : Nat} (he : xcd k pc = some (.putfield ix, len, K, f, z)) (hp : pc + 3 = pc') (hf : xfty K f = 4) (hg : Nat.beq (xkg K) (xmg k) = true) (h : J k pc' L S (xup σ K i f (j : Int)) Q t) : J k pc L (xr 5 j :: xr K i :: S) σ Q t :=
  jr_s (q := (pc + 3, L, S, xup σ K i f (j : Int))) he rfl (by
    show xs_putf k K f pc L (xr 5 j :: xr K i :: S) σ = _
    unfold xs_putf
    dsimp only
    rw [Nat.beq_refl, hg, Bool.and_self, cond_true, hf]
    rfl) (hp ▸ h)
/-- branches: the machine goes to pt where the condition holds -/
theorem jr_br {c : Prop} [Decidable c] {pt pn : Nat} {en : xa_I} (he : xcd k pc = some en) (hk : xkd en.1 = 0) (hs : xstp k en pc L S σ = some (cond (decide c) pt pn, L, S', σ)) (h1 : c → J k pt L S' σ Q t) (h2 : ¬ c → J k pn L S' σ Q t) : J k pc L S σ Q t := by
  refine jr_s he hk hs ?_
  by_cases hc : c
  · rw [decide_eq_true hc]; exact h1 hc
  · rw [decide_eq_false hc]; exact h2 hc
theorem jr_ite {c : Prop} [Decidable c] (h1 : c → J k pc L S σ Q t) (h2 : ¬ c → J k pc L S σ Q t') : J k pc L S σ Q (if c then t else t') := by
  by_cases hc : c
  · rw [if_pos hc]; exact h1 hc
  · rw [if_neg hc]; exact h2 hc
end JR
end
section
/-! fewer locals; calls; returns; branches -/
def xnd (L : xa_L) : Prop := (L.map Prod.fst).Nodup
theorem xget_in {i : Nat} {v : xa_V} : ∀ {L : xa_L}, xnd L → (i, v) ∈ L → xget L i = some v := by
  intro L
  induction L with
  | nil => intro _ h; cases h
  | cons q r ih =>
    intro hn h
    unfold xnd at hn
    rw [List.map_cons, List.nodup_cons] at hn
    unfold xget
    rcases List.mem_cons.mp h with h | h
    · subst h
      rw [Nat.beq_refl, cond_true]
    · have hne : Nat.beq q.1 i = false := by
        cases hb : Nat.beq q.1 i with
        | false => rfl
        | true =>
          have e := Nat.eq_of_beq_eq_true hb
          exact absurd (List.mem_map.mpr ⟨(i, v), h, rfl⟩) (by rw [← e]; exact hn.1)
      rw [hne, cond_false]
      exact ih hn.2 h
theorem xnd_filter {L : xa_L} {f : Nat × xa_V → Bool} (h : xnd L) : xnd (L.filter f) := by
  unfold xnd at h ⊢
  exact List.Nodup.sublist (List.Sublist.map _ List.filter_sublist) h
theorem xnd_set {L : xa_L} {i : Nat} {v : xa_V} (h : xnd L) : xnd (xset L i v) := by
  unfold xset
  show ((_ :: _ : xa_L).map Prod.fst).Nodup
  rw [List.map_cons, List.nodup_cons]
  refine ⟨fun hm => ?_, xnd_filter h⟩
  obtain ⟨q, hq, e⟩ := List.mem_map.mp hm
  have h2 := (List.mem_filter.mp hq).2
  rw [Bool.and_eq_true] at h2
  have h3 := h2.1
  rw [show q.1 = i from e] at h3
  simp at h3
theorem xnd_setl {L : xa_L} {i : Nat} {v : xa_V} (h : xnd L) : xnd (xsetl L i v) := by
  unfold xsetl
  show ((_ :: _ : xa_L).map Prod.fst).Nodup
  rw [List.map_cons, List.nodup_cons]
  refine ⟨fun hm => ?_, xnd_filter h⟩
  obtain ⟨q, hq, e⟩ := List.mem_map.mp hm
  have h2 := (List.mem_filter.mp hq).2
  rw [Bool.and_eq_true] at h2
  have h3 := h2.1
  rw [show q.1 = i from e] at h3
  simp at h3
def xsb (L' L : xa_L) : Prop := ∀ q ∈ L', q ∈ L
theorem xsb_cons {q : Nat × xa_V} {L' L : xa_L} {f : Nat × xa_V → Bool} (h : xsb L' L) : xsb (q :: L'.filter f) (q :: L.filter f) := by
  intro x hx
  rcases List.mem_cons.mp hx with rfl | hx
  · exact List.mem_cons_self
  · have := List.mem_filter.mp hx
    exact List.mem_cons_of_mem _ (List.mem_filter.mpr ⟨h x this.1, this.2⟩)
def xtl : Instr → Bool
  | .iload _ => true
  | .iload_n _ => true
  | .lload _ => true
  | .lload_n _ => true
  | .aload _ => true
  | .aload_n _ => true
  | .istore _ => true
  | .istore_n _ => true
  | .lstore _ => true
  | .lstore_n _ => true
  | .astore _ => true
  | .astore_n _ => true
  | .iinc _ _ => true
  | _ => false
section XSUB
variable {k pc : Nat} {L L' : xa_L} {S : List xa_V} {σ : xa_H} {q : xa_C} {en : xa_I}
theorem xb_L {f : Int → Int → Int} (h : xs_b f pc L' S σ = some q) : q.2.1 = L' ∧ xs_b f pc L S σ = some (q.1, L, q.2.2) := by
  unfold xs_b at h ⊢
  split at h
  · cases h; exact ⟨rfl, rfl⟩
  · exact xno h
theorem xd_L {f : Int → Int → Int} (h : xs_d f pc L' S σ = some q) : q.2.1 = L' ∧ xs_d f pc L S σ = some (q.1, L, q.2.2) := by
  unfold xs_d at h ⊢
  split at h
  · split at h
    · rename_i hc
      cases h
      exact ⟨rfl, if_pos hc⟩
    · exact xno h
  · exact xno h
theorem xbl_L {f : Int → Int → Int} (h : xs_bl f pc L' S σ = some q) : q.2.1 = L' ∧ xs_bl f pc L S σ = some (q.1, L, q.2.2) := by
  unfold xs_bl at h ⊢
  split at h
  · cases h; exact ⟨rfl, rfl⟩
  · exact xno h
theorem xag_L {t : Nat} (h : xs_aget t pc L' S σ = some q) : q.2.1 = L' ∧ xs_aget t pc L S σ = some (q.1, L, q.2.2) := by
  unfold xs_aget at h ⊢
  split at h
  · split at h
    · rename_i hc
      cases h
      exact ⟨rfl, if_pos hc⟩
    · exact xno h
  · exact xno h
theorem xap_L {t : Nat} (h : xs_aput k t pc L' S σ = some q) : q.2.1 = L' ∧ xs_aput k t pc L S σ = some (q.1, L, q.2.2) := by
  unfold xs_aput at h ⊢
  split at h
  · split at h
    · rename_i hc
      cases h
      exact ⟨rfl, if_pos hc⟩
    · exact xno h
  · split at h
    · rename_i hc
      cases h
      exact ⟨rfl, if_pos hc⟩
    · exact xno h
  · exact xno h
theorem xgf_L {x y : Nat} (h : xs_getf x y pc L' S σ = some q) : q.2.1 = L' ∧ xs_getf x y pc L S σ = some (q.1, L, q.2.2) := by
  unfold xs_getf at h ⊢
  split at h
  · rename_i K i S'
    cases hb : Nat.beq K x with
    | false => rw [hb] at h; exact xno h
    | true =>
      simp only [hb, cond_true] at h ⊢
      split at h <;> first | (cases h; exact ⟨rfl, rfl⟩) | exact xno h
  · exact xno h
theorem xpf_L {x y : Nat} (h : xs_putf k x y pc L' S σ = some q) : q.2.1 = L' ∧ xs_putf k x y pc L S σ = some (q.1, L, q.2.2) := by
  unfold xs_putf at h ⊢
  split at h
  · rename_i v K i S'
    cases hb : Nat.beq K x && Nat.beq (xkg K) (xmg k) with
    | false => rw [hb] at h; exact xno h
    | true =>
      simp only [hb, cond_true] at h ⊢
      split at h
      · cases h; exact ⟨rfl, rfl⟩
      · split at h
        · rename_i hc
          cases h
          exact ⟨rfl, if_pos hc⟩
        · exact xno h
      · cases h; exact ⟨rfl, rfl⟩
      · rename_i K2 j _
        cases hb2 : Nat.beq K2 5 with
        | false => rw [hb2] at h; exact xno h
        | true =>
          rw [hb2] at h
          cases h
          exact ⟨rfl, by rfl⟩
      · exact xno h
  · exact xno h
end XSUB
end
section
/-! fewer locals do not harm -/
section XSUB2
variable {k pc : Nat} {L L' : xa_L} {S : List xa_V} {σ : xa_H} {q : xa_C} {en : xa_I}
theorem xsL {p : Nat} {S' : List xa_V} {σ' : xa_H} {x : Option xa_C} (h : some (p, L', S', σ') = some q) (h2 : x = some (p, L, S', σ')) : q.2.1 = L' ∧ x = some (q.1, L, q.2.2) := by
  cases h
  exact ⟨rfl, h2⟩
theorem xsLi {p : Nat} {S' : List xa_V} {σ' : xa_H} {x : Option xa_C} {c : Prop} [Decidable c] (h : (if c then some (p, L', S', σ') else none) = some q) (h2 : x = if c then some (p, L, S', σ') else none) : q.2.1 = L' ∧ x = some (q.1, L, q.2.2) := by
  by_cases hc : c
  · rw [if_pos hc] at h h2
    exact xsL h h2
  · rw [if_neg hc] at h
    exact xno h
theorem xsLj {p : Nat} {S' : List xa_V} {σ' : xa_H} {x : Option xa_C} {c : Prop} [Decidable c] (h : (if c then none else some (p, L', S', σ')) = some q) (h2 : x = if c then none else some (p, L, S', σ')) : q.2.1 = L' ∧ x = some (q.1, L, q.2.2) := by
  by_cases hc : c
  · rw [if_pos hc] at h
    exact xno h
  · rw [if_neg hc] at h h2
    exact xsL h h2
theorem xsLc {p : Nat} {S' : List xa_V} {σ' : xa_H} {x : Option xa_C} {c : Bool} (h : cond c (some (p, L', S', σ')) none = some q) (h2 : x = cond c (some (p, L, S', σ')) none) : q.2.1 = L' ∧ x = some (q.1, L, q.2.2) := by
  cases c
  · exact xno h
  · exact xsL h h2
theorem xsLd {p : Nat} {S' : List xa_V} {σ' : xa_H} {x : Option xa_C} {c : Bool} (h : cond c none (some (p, L', S', σ')) = some q) (h2 : x = cond c none (some (p, L, S', σ'))) : q.2.1 = L' ∧ x = some (q.1, L, q.2.2) := by
  cases c
  · exact xsL h h2
  · exact xno h
theorem xtab_L {d lo hi v : Int} {offs : Array Int} {S' : List xa_V} (h : (if v < lo ∨ hi < v then some (xtgt pc d, L', S', σ) else match offs[(v - lo).toNat]? with
      | some off => some (xtgt pc off, L', S', σ)
      | none => none) = some q) : q.2.1 = L' ∧ (if v < lo ∨ hi < v then some (xtgt pc d, L, S', σ) else match offs[(v - lo).toNat]? with
      | some off => some (xtgt pc off, L, S', σ)
      | none => none) = some (q.1, L, q.2.2) := by
  by_cases hc : v < lo ∨ hi < v
  · rw [if_pos hc] at h ⊢
    cases h
    exact ⟨rfl, rfl⟩
  · rw [if_neg hc] at h ⊢
    cases ho : offs[(v - lo).toNat]? with
    | none => rw [ho] at h; exact xno h
    | some off =>
      rw [ho] at h
      cases h
      exact ⟨rfl, rfl⟩
theorem xstp_L (ht : xtl en.1 = false) (h : xstp k en pc L' S σ = some q) : q.2.1 = L' ∧ xstp k en pc L S σ = some (q.1, L, q.2.2) := by
  obtain ⟨ins, len, x, y, z⟩ := en
  cases ins with
  | iadd => exact xb_L h
  | isub => exact xb_L h
  | imul => exact xb_L h
  | iand => exact xb_L h
  | ior => exact xb_L h
  | ixor => exact xb_L h
  | ishl => exact xb_L h
  | ishr => exact xb_L h
  | idiv => exact xd_L h
  | irem => exact xd_L h
  | ladd => exact xbl_L h
  | lmul => exact xbl_L h
  | iaload => exact xag_L h
  | baload => exact xag_L h
  | laload => exact xag_L h
  | iastore => exact xap_L h
  | bastore => exact xap_L h
  | lastore => exact xap_L h
  | getfield ix => exact xgf_L h
  | putfield ix => exact xpf_L h
  | iconst v => exact xsL h rfl
  | bipush v => exact xsL h rfl
  | sipush v => exact xsL h rfl
  | lconst v => exact xsL h rfl
  | ldc v => exact xsL h rfl
  | ldc2_w v => exact xsL h rfl
  | aconst_null => exact xsL h rfl
  | goto v => exact xsL h rfl
  | ineg =>
    rcases S with _ | ⟨a | a, S⟩
    · exact xno h
    · exact xsL h rfl
    · exact xno h
  | i2l =>
    rcases S with _ | ⟨a | a, S⟩
    · exact xno h
    · exact xsL h rfl
    · exact xno h
  | i2c =>
    rcases S with _ | ⟨a | a, S⟩
    · exact xno h
    · exact xsL h rfl
    · exact xno h
  | ifCond c off =>
    rcases S with _ | ⟨a | a, S⟩
    · exact xno h
    · exact xsL h rfl
    · exact xno h
  | l2i =>
    rcases S with _ | ⟨a | a | a, S⟩
    · exact xno h
    · exact xno h
    · exact xsL h rfl
    · exact xno h
  | ifnull off =>
    rcases S with _ | ⟨a | a | a, S⟩
    · exact xno h
    · exact xno h
    · exact xno h
    · exact xsL h rfl
  | ifnonnull off =>
    rcases S with _ | ⟨a | a | a, S⟩
    · exact xno h
    · exact xno h
    · exact xno h
    · exact xsL h rfl
  | lcmp =>
    rcases S with _ | ⟨a | a | a, _ | ⟨b | b | b, S⟩⟩
    · exact xno h
    · exact xno h
    · exact xno h
    · exact xno h
    · exact xno h
    · exact xno h
    · exact xno h
    · exact xsL h rfl
    · exact xno h
    · exact xno h
    · exact xno h
    · exact xno h
    · exact xno h
  | ldiv =>
    rcases S with _ | ⟨a | a | a, _ | ⟨b | b | b, S⟩⟩
    · exact xno h
    · exact xno h
    · exact xno h
    · exact xno h
    · exact xno h
    · exact xno h
    · exact xno h
    · exact xsLi h rfl
    · exact xno h
    · exact xno h
    · exact xno h
    · exact xno h
    · exact xno h
  | if_icmp c off =>
    rcases S with _ | ⟨a | a, _ | ⟨b | b, S⟩⟩
    · exact xno h
    · exact xno h
    · exact xsL h rfl
    · exact xno h
    · exact xno h
    · exact xno h
    · exact xno h
  | if_acmp c off =>
    cases c
    · rcases S with _ | ⟨a | a | a, _ | ⟨b | b | b, S⟩⟩ <;> exact xno h
    · rcases S with _ | ⟨a | a | a, _ | ⟨b | b | b, S⟩⟩
      · exact xno h
      · exact xno h
      · exact xno h
      · exact xno h
      · exact xno h
      · exact xno h
      · exact xno h
      · exact xno h
      · exact xno h
      · exact xno h
      · exact xno h
      · exact xno h
      · exact xsLc h rfl
  | tableswitch d lo hi offs =>
    rcases S with _ | ⟨a | a, S⟩
    · exact xno h
    · exact xtab_L h
    · exact xno h
  | dup =>
    rcases S with _ | ⟨a, S⟩
    · exact xno h
    · exact xsLd h rfl
  | pop =>
    rcases S with _ | ⟨a, S⟩
    · exact xno h
    · exact xsLd h rfl
  | dup2 =>
    rcases S with _ | ⟨a, _ | ⟨b, S⟩⟩
    · exact xno h
    · exact xno h
    · exact xsLd h rfl
  | arraylength =>
    rcases S with _ | ⟨a | a | _ | a, S⟩
    · exact xno h
    · exact xno h
    · exact xno h
    · exact xno h
    · exact xsLj h rfl
  | aaload =>
    rcases S with _ | ⟨a | a, _ | ⟨b | b | _ | b, S⟩⟩
    · exact xno h
    · exact xno h
    · exact xno h
    · exact xno h
    · exact xno h
    · exact xsLi h rfl
    · exact xno h
    · exact xno h
    · exact xno h
    · exact xno h
    · exact xno h
  | iload i => exact absurd ht (by intro h; cases h)
  | iload_n i => exact absurd ht (by intro h; cases h)
  | lload i => exact absurd ht (by intro h; cases h)
  | lload_n i => exact absurd ht (by intro h; cases h)
  | aload i => exact absurd ht (by intro h; cases h)
  | aload_n i => exact absurd ht (by intro h; cases h)
  | istore i => exact absurd ht (by intro h; cases h)
  | istore_n i => exact absurd ht (by intro h; cases h)
  | lstore i => exact absurd ht (by intro h; cases h)
  | lstore_n i => exact absurd ht (by intro h; cases h)
  | astore i => exact absurd ht (by intro h; cases h)
  | astore_n i => exact absurd ht (by intro h; cases h)
  | iinc i n => exact absurd ht (by intro h; cases h)
  | _ => exact xno h
end XSUB2
end
section
/-! fewer locals; calls; returns; branches (second half) -/
section XSUB2
variable {k pc : Nat} {L L' : xa_L} {S : List xa_V} {σ : xa_H} {q : xa_C} {en : xa_I}
theorem xget_sb {i : Nat} {v : xa_V} (hn : xnd L) (hs : xsb L' L) (h : xget L' i = some v) : xget L i = some v := xget_in hn (hs _ (xget_mem h))
theorem xld_sb {i len t : Nat} (hn : xnd L) (hs : xsb L' L) (h : xs_ld i len pc L' S σ t = some q) : ∃ q2 : xa_C, xs_ld i len pc L S σ t = some q2 ∧ q2.1 = q.1 ∧ q2.2.2 = q.2.2 ∧ xnd q2.2.1 ∧ xsb q.2.1 q2.2.1 := by
  unfold xs_ld at h ⊢
  cases hg : xget L' i with
  | none => rw [hg] at h; exact xno h
  | some v =>
    rw [hg] at h
    rw [xget_sb hn hs hg]
    rcases v with a | a | r
    · dsimp only at h ⊢
      cases hb : Nat.beq t 0 with
      | false => rw [hb] at h; exact xno h
      | true => rw [hb] at h; cases h; exact ⟨_, rfl, rfl, rfl, hn, hs⟩
    · dsimp only at h ⊢
      cases hb : Nat.beq t 1 with
      | false => rw [hb] at h; exact xno h
      | true => rw [hb] at h; cases h; exact ⟨_, rfl, rfl, rfl, hn, hs⟩
    · dsimp only at h ⊢
      cases hb : Nat.beq t 2 with
      | false => rw [hb] at h; exact xno h
      | true => rw [hb] at h; cases h; exact ⟨_, rfl, rfl, rfl, hn, hs⟩
theorem xst_sb {i len t mx : Nat} (hn : xnd L) (hs : xsb L' L) (h : xs_st i len pc L' S σ t mx = some q) : ∃ q2 : xa_C, xs_st i len pc L S σ t mx = some q2 ∧ q2.1 = q.1 ∧ q2.2.2 = q.2.2 ∧ xnd q2.2.1 ∧ xsb q.2.1 q2.2.1 := by
  unfold xs_st at h ⊢
  split at h
  · rename_i v S'
    cases hb : Nat.beq t 0 && Nat.blt i mx with
    | false => rw [hb] at h; exact xno h
    | true => rw [hb] at h; cases h; exact ⟨_, rfl, rfl, rfl, xnd_set hn, xsb_cons hs⟩
  · rename_i v S'
    cases hb : Nat.beq t 1 && Nat.blt (i + 1) mx with
    | false => rw [hb] at h; exact xno h
    | true => rw [hb] at h; cases h; exact ⟨_, rfl, rfl, rfl, xnd_setl hn, xsb_cons hs⟩
  · rename_i v S'
    cases hb : Nat.beq t 2 && Nat.blt i mx with
    | false => rw [hb] at h; exact xno h
    | true => rw [hb] at h; cases h; exact ⟨_, rfl, rfl, rfl, xnd_set hn, xsb_cons hs⟩
  · exact xno h
theorem xstp_sb (hn : xnd L) (hs : xsb L' L) (h : xstp k en pc L' S σ = some q) : ∃ q2 : xa_C, xstp k en pc L S σ = some q2 ∧ q2.1 = q.1 ∧ q2.2.2 = q.2.2 ∧ xnd q2.2.1 ∧ xsb q.2.1 q2.2.1 := by
  cases ht : xtl en.1 with
  | false =>
    obtain ⟨h1, h2⟩ := xstp_L (L := L) ht h
    exact ⟨_, h2, rfl, rfl, hn, by rw [h1]; exact hs⟩
  | true =>
    obtain ⟨ins, len, x, y, z⟩ := en
    cases ins with
    | iload i => exact xld_sb hn hs h
    | iload_n i => exact xld_sb hn hs h
    | lload i => exact xld_sb hn hs h
    | lload_n i => exact xld_sb hn hs h
    | aload i => exact xld_sb hn hs h
    | aload_n i => exact xld_sb hn hs h
    | istore i => exact xst_sb hn hs h
    | istore_n i => exact xst_sb hn hs h
    | lstore i => exact xst_sb hn hs h
    | lstore_n i => exact xst_sb hn hs h
    | astore i => exact xst_sb hn hs h
    | astore_n i => exact xst_sb hn hs h
    | iinc i n =>
      have h : (match xget L' i with
        | some (.inl v) => cond (Nat.blt i (xmL k)) (some (pc + 3, xset L' i (.inl (w32 (v + n))), S, σ)) none
        | _ => none) = some q := h
      cases hg : xget L' i with
      | none => rw [hg] at h; exact xno h
      | some v =>
        rw [hg] at h
        rcases v with a | a
        · have h : cond (Nat.blt i (xmL k)) (some (pc + 3, xset L' i (.inl (w32 (a + n))), S, σ)) none = some q := h
          cases hb : Nat.blt i (xmL k) with
          | false => rw [hb] at h; exact xno h
          | true =>
            rw [hb] at h
            cases h
            refine ⟨(pc + 3, xset L i (.inl (w32 (a + n))), S, σ), ?_, rfl, rfl, xnd_set hn, xsb_cons hs⟩
            show (match xget L i with
              | some (.inl v) => cond (Nat.blt i (xmL k)) (some (pc + 3, xset L i (.inl (w32 (v + n))), S, σ)) none
              | _ => none) = _
            rw [xget_sb hn hs hg]
            show cond (Nat.blt i (xmL k)) _ none = _
            rw [hb]
            rfl
        · exact xno h
    | _ => exact absurd ht (by intro h; cases h)
end XSUB2
end
section
/-! fewer locals, whole runs -/
theorem xrun_sub : ∀ (n k pc : Nat) (L' L : xa_L) (S : List xa_V) (σ : xa_H) (r : Option xa_V × xa_H), xnd L → xsb L' L → xrun n k pc L' S σ = some r → xrun n k pc L S σ = some r := by
  intro n
  induction n with
  | zero => intro k pc L' L S σ r _ _ h; exact xno h
  | succ n ih =>
    intro k pc L' L S σ r hn hs h
    unfold xrun at h ⊢
    split at h
    · exact xno h
    · rename_i e he
      split at h
      · rename_i hk
        cases h1 : Nat.ble e.2.2.2.1 S.length && Nat.ble (xwt (S.drop e.2.2.2.1)) 8 with
        | false => rw [h1] at h; cases h
        | true =>
          rw [h1] at h
          simp only [cond_true] at h ⊢
          cases h2 : Nat.ble 5000 e.2.2.1 with
          | true =>
            rw [h2] at h
            simp only [cond_true] at h ⊢
            split at h
            · exact ih _ _ _ _ _ _ _ hn hs h
            · cases h
          | false =>
            rw [h2] at h
            simp only [cond_false] at h ⊢
            cases h3 : Nat.ble (xwt (S.take e.2.2.2.1).reverse) (xmL e.2.2.1) && (xstat e.1 || xrcv e.2.2.1 (S.take e.2.2.2.1).reverse) with
            | false => rw [h3] at h; cases h
            | true =>
              rw [h3] at h
              simp only [cond_true] at h ⊢
              split at h
              · exact ih _ _ _ _ _ _ _ hn hs h
              · cases h
      · exact h
      · split at h
        · rename_i q hq
          obtain ⟨q2, g1, g2, g3, g4, g5⟩ := xstp_sb hn hs hq
          rw [g1]
          dsimp only
          rw [g2, g3]
          exact ih _ _ _ _ _ _ _ g4 g5 h
        · cases h
end
section
/-! calls; returns; joins; branches -/
section JR2
variable {α β : Type} {k pc pc' len x y z : Nat} {L L' : xa_L} {S S' S1 as : List xa_V} {σ σ' : xa_H} {Q : α → Option xa_V → xa_H → Prop} {t t' : Option α} {ins : Instr} {a b : Int} {v w : xa_V}
/-- fewer locals: each of the fewer ones lies at its place -/
theorem jr_sub (hn : xnd L) (hs : xsb L' L) (h : J k pc L' S σ Q t) : J k pc L S σ Q t := by
  intro x hx
  obtain ⟨n, r, σ', h1, h2⟩ := h x hx
  exact ⟨n, r, σ', xrun_sub _ _ _ _ _ _ _ _ hn hs h1, h2⟩
theorem xrun_pad {n m : Nat} {r : Option xa_V × xa_H} (h : xrun n k pc L S σ = some r) (hm : n ≤ m) : xrun m k pc L S σ = some r := by
  obtain ⟨d, rfl⟩ := Nat.exists_eq_add_of_le hm
  exact xrun_mono h d
theorem jr_callQ {γ : Type} {Qc : γ → Option xa_V → xa_H → Prop} {tc : Option γ} {K : γ → Option α} {en : xa_I} (he : xcd k pc = some en) (hk : xkd en.1 = 2) (h5 : Nat.ble 5000 en.2.2.1 = false) (hc : (Nat.ble en.2.2.2.1 S.length && Nat.ble (xwt (S.drop en.2.2.2.1)) 8) = true) (ha : (S.take en.2.2.2.1).reverse = as) (hd : S.drop en.2.2.2.1 = S1)
    (h3 : (Nat.ble (xwt as) (xmL en.2.2.1) && (xstat en.1 || xrcv en.2.2.1 as)) = true) (hj : J en.2.2.1 0 (xargs 0 as) [] σ Qc tc) (hp : pc + 3 = pc')
    (h : ∀ (g : γ) (r : Option xa_V) (σ1 : xa_H), Qc g r σ1 → J k pc' L (r.toList ++ S1) σ1 Q (K g)) : J k pc L S σ Q (tc.bind K) := by
  intro x hx
  obtain ⟨g, hg, hx⟩ := Option.bind_eq_some_iff.mp hx
  obtain ⟨n1, r1, σ1, e1, q1⟩ := hj g hg
  obtain ⟨n2, r, σ', e2, q2⟩ := h g r1 σ1 q1 x hx
  refine ⟨max n1 n2 + 1, r, σ', ?_, q2⟩
  unfold xrun
  rw [he]
  (try dsimp only)
  rw [hk]
  (try dsimp only)
  rw [hc, cond_true, h5, cond_false, ha, h3, cond_true, xrun_pad e1 (Nat.le_max_left _ _)]
  (try dsimp only)
  rw [hd, hp]
  exact xrun_pad e2 (Nat.le_max_right _ _)
theorem jr_callP {tc : Option Int} {K : Int → Option α} {en : xa_I} (he : xcd k pc = some en) (hk : xkd en.1 = 2) (h5 : Nat.ble 5000 en.2.2.1 = false) (hc : (Nat.ble en.2.2.2.1 S.length && Nat.ble (xwt (S.drop en.2.2.2.1)) 8) = true) (ha : (S.take en.2.2.2.1).reverse = as) (hd : S.drop en.2.2.2.1 = S1)
    (h3 : (Nat.ble (xwt as) (xmL en.2.2.1) && (xstat en.1 || xrcv en.2.2.1 as)) = true) (hj : J en.2.2.1 0 (xargs 0 as) [] σ (jqP σ) tc) (hp : pc + 3 = pc')
    (h : ∀ g : Int, J k pc' L (xi g :: S1) σ Q (K g)) : J k pc L S σ Q (tc.bind K) := jr_callQ he hk h5 hc ha hd h3 hj hp (fun g r σ1 hq => by obtain ⟨rfl, rfl⟩ := hq; exact h g)
theorem jr_callL {tc : Option Int} {K : Int → Option α} {en : xa_I} (he : xcd k pc = some en) (hk : xkd en.1 = 2) (h5 : Nat.ble 5000 en.2.2.1 = false) (hc : (Nat.ble en.2.2.2.1 S.length && Nat.ble (xwt (S.drop en.2.2.2.1)) 8) = true) (ha : (S.take en.2.2.2.1).reverse = as) (hd : S.drop en.2.2.2.1 = S1)
    (h3 : (Nat.ble (xwt as) (xmL en.2.2.1) && (xstat en.1 || xrcv en.2.2.1 as)) = true) (hj : J en.2.2.1 0 (xargs 0 as) [] σ (jqL σ) tc) (hp : pc + 3 = pc')
    (h : ∀ g : Int, J k pc' L (xl g :: S1) σ Q (K g)) : J k pc L S σ Q (tc.bind K) := jr_callQ he hk h5 hc ha hd h3 hj hp (fun g r σ1 hq => by obtain ⟨rfl, rfl⟩ := hq; exact h g)
theorem jr_callW {tc : Option (Int × xa_H)} {K : Int × xa_H → Option α} {en : xa_I} (he : xcd k pc = some en) (hk : xkd en.1 = 2) (h5 : Nat.ble 5000 en.2.2.1 = false) (hc : (Nat.ble en.2.2.2.1 S.length && Nat.ble (xwt (S.drop en.2.2.2.1)) 8) = true) (ha : (S.take en.2.2.2.1).reverse = as) (hd : S.drop en.2.2.2.1 = S1)
    (h3 : (Nat.ble (xwt as) (xmL en.2.2.1) && (xstat en.1 || xrcv en.2.2.1 as)) = true) (hj : J en.2.2.1 0 (xargs 0 as) [] σ jqW tc) (hp : pc + 3 = pc')
    (h : ∀ (g : Int) (σ1 : xa_H), J k pc' L (xi g :: S1) σ1 Q (K (g, σ1))) : J k pc L S σ Q (tc.bind K) := jr_callQ he hk h5 hc ha hd h3 hj hp (fun g r σ1 hq => by obtain ⟨rfl, rfl⟩ := hq; exact h g.1 g.2)
theorem jr_callV {tc : Option xa_H} {K : xa_H → Option α} {en : xa_I} (he : xcd k pc = some en) (hk : xkd en.1 = 2) (h5 : Nat.ble 5000 en.2.2.1 = false) (hc : (Nat.ble en.2.2.2.1 S.length && Nat.ble (xwt (S.drop en.2.2.2.1)) 8) = true) (ha : (S.take en.2.2.2.1).reverse = as) (hd : S.drop en.2.2.2.1 = S1)
    (h3 : (Nat.ble (xwt as) (xmL en.2.2.1) && (xstat en.1 || xrcv en.2.2.1 as)) = true) (hj : J en.2.2.1 0 (xargs 0 as) [] σ jqV tc) (hp : pc + 3 = pc')
    (h : ∀ σ1 : xa_H, J k pc' L S1 σ1 Q (K σ1)) : J k pc L S σ Q (tc.bind K) := jr_callQ he hk h5 hc ha hd h3 hj hp (fun g r σ1 hq => by obtain ⟨h1, h2⟩ := hq; subst h1; subst h2; exact h _)
/-- a method called in place -/
theorem jr_inl {en : xa_I} (he : xcd k pc = some en) (hk : xkd en.1 = 2) (h5 : Nat.ble 5000 en.2.2.1 = false) (hc : (Nat.ble en.2.2.2.1 S.length && Nat.ble (xwt (S.drop en.2.2.2.1)) 8) = true) (ha : (S.take en.2.2.2.1).reverse = as) (hd : S.drop en.2.2.2.1 = S1)
    (h3 : (Nat.ble (xwt as) (xmL en.2.2.1) && (xstat en.1 || xrcv en.2.2.1 as)) = true) (hp : pc + 3 = pc') (hl : xargs 0 as = L')
    (h : J en.2.2.1 0 L' [] σ (jqC k pc' L S1 Q) t) : J k pc L S σ Q t := by
  intro x hx
  obtain ⟨n1, r1, σ1, e1, n2, r, σ', e2, q2⟩ := h x hx
  refine ⟨max n1 n2 + 1, r, σ', ?_, q2⟩
  unfold xrun
  rw [he]
  (try dsimp only)
  rw [hk]
  (try dsimp only)
  rw [hc, cond_true, h5, cond_false, ha, h3, cond_true, hl, xrun_pad e1 (Nat.le_max_left _ _)]
  (try dsimp only)
  rw [hd, hp]
  exact xrun_pad e2 (Nat.le_max_right _ _)
/-- the calls on the text of the moves, and Math's -/
theorem jr_prim {en : xa_I} (he : xcd k pc = some en) (hk : xkd en.1 = 2) (h5 : Nat.ble 5000 en.2.2.1 = true) (hc : (Nat.ble en.2.2.2.1 S.length && Nat.ble (xwt (S.drop en.2.2.2.1)) 8) = true) (ha : (S.take en.2.2.2.1).reverse = as) (hd : S.drop en.2.2.2.1 = S1)
    (hv : xprim en.2.2.1 as = some v) (hp : pc + 3 = pc') (h : J k pc' L (v :: S1) σ Q t) : J k pc L S σ Q t := by
  intro x hx
  obtain ⟨n, r, σ', e1, q1⟩ := h x hx
  refine ⟨n + 1, r, σ', ?_, q1⟩
  unfold xrun
  rw [he]
  (try dsimp only)
  rw [hk]
  (try dsimp only)
  rw [hc, cond_true, h5, cond_true, ha, hv]
  (try dsimp only)
  rw [hd, hp]
  exact e1
theorem jr_ret0 {en : xa_I} {Q : α → Option xa_V → xa_H → Prop} {u : α} {r : Option xa_V} {σ' : xa_H} (he : xcd k pc = some en) (hk : xkd en.1 = 1) (hr : xret k en.1 S σ = some (r, σ')) (hq : Q u r σ') : J k pc L S σ Q (some u) := by
  intro x hx
  cases hx
  refine ⟨1, r, σ', ?_, hq⟩
  unfold xrun
  rw [he]
  (try dsimp only)
  rw [hk]
  (try dsimp only)
  exact hr
theorem xret_i : xret k .ireturn [xi a] σ = some (some (xi (cond (Nat.beq (xmZ k) 1) (a % 2) a)), σ) := rfl
theorem jr_retP (he : xcd k pc = some (.ireturn, len, x, y, z)) (hz : Nat.beq (xmZ k) 1 = false) : J k pc L [xi a] σ (jqP σ) (some a) := jr_ret0 he rfl xret_i ⟨by rw [hz]; rfl, rfl⟩
theorem jr_retPz (he : xcd k pc = some (.ireturn, len, x, y, z)) (hz : Nat.beq (xmZ k) 1 = true) (ha : a % 2 = b) : J k pc L [xi a] σ (jqP σ) (some b) := jr_ret0 he rfl xret_i ⟨by rw [hz, cond_true, ha], rfl⟩
theorem jr_retW (he : xcd k pc = some (.ireturn, len, x, y, z)) (hz : Nat.beq (xmZ k) 1 = false) : J k pc L [xi a] σ jqW (some (a, σ)) := jr_ret0 he rfl xret_i ⟨by rw [hz]; rfl, rfl⟩
theorem jr_retWz (he : xcd k pc = some (.ireturn, len, x, y, z)) (hz : Nat.beq (xmZ k) 1 = true) (ha : a % 2 = b) : J k pc L [xi a] σ jqW (some (b, σ)) := jr_ret0 he rfl xret_i ⟨by rw [hz, cond_true, ha], rfl⟩
theorem jr_retL (he : xcd k pc = some (.lreturn, len, x, y, z)) : J k pc L [xl a] σ (jqL σ) (some a) := jr_ret0 he rfl rfl ⟨rfl, rfl⟩
theorem jr_retV (he : xcd k pc = some (.return_, len, x, y, z)) : J k pc L [] σ jqV (some σ) := jr_ret0 he rfl rfl ⟨rfl, rfl⟩
/-- a return in a method called in place -/
theorem jr_retC {k0 pc0 : Nat} {L0 : xa_L} {r : Option (Nat × Nat)} (he : xcd k pc = some (.areturn, len, x, y, z)) (h : J k0 pc0 L0 (.inr (.inr r) :: S1) σ Q t) : J k pc L [.inr (.inr r)] σ (jqC k0 pc0 L0 S1 Q) t := by
  intro x hx
  obtain ⟨n, r', σ', e1, q1⟩ := h x hx
  refine ⟨1, some (.inr (.inr r)), σ, ?_, n, r', σ', e1, q1⟩
  unfold xrun
  rw [he]
  rfl
/-- joins: what lies behind gets a name -/
def xj (K : β) (F : β → α) : α := F K
theorem jr_j {K : β} {F : β → Option α} (P : β → Prop) (h1 : P K) (h2 : ∀ K' : β, P K' → J k pc L S σ Q (F K')) : J k pc L S σ Q (xj K F) := h2 K h1
theorem jr_pm1 {e : Int} {T : Int → Option α} (P : (Int → Option α) → Prop) (h1 : P T) (h2 : ∀ T' : Int → Option α, P T' → J k pc L S σ Q (xnm e T')) : J k pc L S σ Q (xnm e T) := h2 T h1
theorem jr_pm2 {e e2 : Int} {T : Int → Int → Option α} (P : (Int → Int → Option α) → Prop) (h1 : P T) (h2 : ∀ T' : Int → Int → Option α, P T' → J k pc L S σ Q (xnm e (fun v => xnm e2 (T' v)))) : J k pc L S σ Q (xnm e (fun v => xnm e2 (T v))) := h2 T h1
theorem jr_pm3 {e e2 e3 : Int} {T : Int → Int → Int → Option α} (P : (Int → Int → Int → Option α) → Prop) (h1 : P T) (h2 : ∀ T' : Int → Int → Int → Option α, P T' → J k pc L S σ Q (xnm e (fun v => xnm e2 (fun v2 => xnm e3 (T' v v2))))) : J k pc L S σ Q (xnm e (fun v => xnm e2 (fun v2 => xnm e3 (T v v2)))) := h2 T h1
/-- new contents get a name -/
theorem jr_nms {K : xa_H → Option α} (h : ∀ σ1 : xa_H, J k pc L S σ1 Q (K σ1)) : J k pc L S σ Q (xnm σ K) := h σ
theorem jr_bri {c : Prop} [Decidable c] {pt pn : Nat} {en : xa_I} (he : xcd k pc = some en) (hk : xkd en.1 = 0) (hs : xstp k en pc L S σ = some (cond (decide c) pt pn, L, S', σ)) (h1 : c → J k pt L S' σ Q t) (h2 : ¬ c → J k pn L S' σ Q t') : J k pc L S σ Q (if c then t else t') := by
  refine jr_s he hk hs ?_
  by_cases hc : c
  · rw [decide_eq_true hc, if_pos hc]; exact h1 hc
  · rw [decide_eq_false hc, if_neg hc]; exact h2 hc
theorem jr_brx {c : Prop} [Decidable c] {pt pn : Nat} {en : xa_I} (he : xcd k pc = some en) (hk : xkd en.1 = 0) (hs : xstp k en pc L S σ = some (cond (decide (¬ c)) pt pn, L, S', σ)) (h1 : c → J k pn L S' σ Q t) (h2 : ¬ c → J k pt L S' σ Q t') : J k pc L S σ Q (if c then t else t') := by
  refine jr_s he hk hs ?_
  by_cases hc : c
  · rw [decide_eq_false (fun q => q hc), if_pos hc]; exact h1 hc
  · rw [decide_eq_true hc, if_neg hc]; exact h2 hc
theorem jr_bx {c : Prop} [Decidable c] {pt pn : Nat} {en : xa_I} (he : xcd k pc = some en) (hk : xkd en.1 = 0) (hs : xstp k en pc L S σ = some (cond (decide (¬ c)) pt pn, L, S', σ)) (h1 : c → J k pn L S' σ Q t) (h2 : ¬ c → J k pt L S' σ Q t) : J k pc L S σ Q t := by
  refine jr_s he hk hs ?_
  by_cases hc : c
  · rw [decide_eq_false (fun q => q hc)]; exact h1 hc
  · rw [decide_eq_true hc]; exact h2 hc
theorem jr_acmp {off : Int} {K i j : Nat} {pt : Nat} (he : xcd k pc = some (.if_acmp .ne off, len, x, y, z)) (hp : pc + 3 = pc') (ht : xtgt pc off = pt) (h9 : Nat.beq K 99 = false) (h1 : i = j → J k pc' L S σ Q t) (h2 : ¬ i = j → J k pt L S σ Q t') : J k pc L (xr K j :: xr K i :: S) σ Q (if i = j then t else t') := by
  refine jr_s (q := (cond (decide (some (K, i) = some (K, j))) (pc + 3) (xtgt pc off), L, S, σ)) he rfl (by
    show cond (xnst (some (K, i)) && xnst (some (K, j))) (some (cond (decide (some (K, i) = some (K, j))) (pc + 3) (xtgt pc off), L, S, σ)) none = _
    have e : xnst (some (K, i)) = true := by show (!Nat.beq K 99) = true; rw [h9]; rfl
    have e2 : xnst (some (K, j)) = true := by show (!Nat.beq K 99) = true; rw [h9]; rfl
    rw [e, e2]
    rfl) ?_
  by_cases hc : i = j
  · subst hc
    rw [if_pos rfl]
    dsimp only
    rw [decide_eq_true rfl, hp]
    exact h1 rfl
  · rw [if_neg hc]
    dsimp only
    rw [decide_eq_false (by intro q; cases q; exact hc rfl), ht]
    exact h2 hc
end JR2
end
section
/-! small rules for the printed rows -/
theorem xsb_n {L : xa_L} : xsb [] L := fun q h => by cases h
theorem xsb_c {q : Nat × xa_V} {L' L : xa_L} (h : List.Mem q L) (h2 : xsb L' L) : xsb (q :: L') L := by
  intro x hx
  rcases List.mem_cons.mp hx with rfl | hx
  · exact h
  · exact h2 x hx
theorem xno9 {K : Nat} (h : xaty K = 0) : ¬ (xaty K = 9 ∨ K = 99) := by
  rintro (h9 | h9)
  · omega
  · subst h9
    have := xaty_99
    omega
def xb2 {α : Type} (t : Option (Int × xa_H)) (K : Int → xa_H → Option α) : Option α := t.bind fun q => K q.1 q.2
section JR3
variable {α β : Type} {k pc pc' len x y z : Nat} {L L' : xa_L} {S S' S1 as : List xa_V} {σ σ' : xa_H} {Q : α → Option xa_V → xa_H → Prop} {t t' : Option α} {ins : Instr} {a b : Int} {v w : xa_V}
theorem jr_iinc1 {i : Nat} {n : Int} (he : xcd k pc = some (.iinc i n, len, x, y, z)) (hp : pc + 3 = pc') (hi : Nat.blt i (xmL k) = true) (hg : xget L i = some (xi a)) (hl : xset L i (xi (w32 (a + n))) = L') (h : J k pc' L' S σ Q t) : J k pc L S σ Q t :=
  jr_s (q := (pc + 3, xset L i (xi (w32 (a + n))), S, σ)) he rfl (by
    show (match xget L i with | some (.inl v) => cond (Nat.blt i (xmL k)) (some (pc + 3, xset L i (.inl (w32 (v + n))), S, σ)) none | _ => none) = _
    rw [hg]
    show cond (Nat.blt i (xmL k)) _ none = _
    rw [hi]; rfl) (by subst hl; exact hp ▸ h)
theorem jr_callX {tc : Option (Int × xa_H)} {K : Int → xa_H → Option α} {en : xa_I} (he : xcd k pc = some en) (hk : xkd en.1 = 2) (h5 : Nat.ble 5000 en.2.2.1 = false) (hc : (Nat.ble en.2.2.2.1 S.length && Nat.ble (xwt (S.drop en.2.2.2.1)) 8) = true) (ha : (S.take en.2.2.2.1).reverse = as) (hd : S.drop en.2.2.2.1 = S1)
    (h3 : (Nat.ble (xwt as) (xmL en.2.2.1) && (xstat en.1 || xrcv en.2.2.1 as)) = true) (hj : J en.2.2.1 0 (xargs 0 as) [] σ jqW tc) (hp : pc + 3 = pc')
    (h : ∀ (g : Int) (σ1 : xa_H), J k pc' L (xi g :: S1) σ1 Q (K g σ1)) : J k pc L S σ Q (xb2 tc K) := jr_callW he hk h5 hc ha hd h3 hj hp h
theorem jr_tabc {pt : Nat} {en : xa_I} (he : xcd k pc = some en) (hk : xkd en.1 = 0) (hv : a = b) (hs : xstp k en pc L (xi b :: S) σ = some (pt, L, S, σ)) (h : J k pt L S σ Q t) : J k pc L (xi a :: S) σ Q t := by
  subst hv
  exact jr_s he hk hs h
theorem jr_tabd {d lo hi : Int} {offs : Array Int} {pt : Nat} (he : xcd k pc = some (.tableswitch d lo hi offs, len, x, y, z)) (hp : xtgt pc d = pt) (hm : ¬ (a < lo ∨ hi < a) → offs[(a - lo).toNat]? = some d) (h : J k pt L S σ Q t) : J k pc L (xi a :: S) σ Q t := by
  refine jr_s (q := (pt, L, S, σ)) he rfl ?_ h
  show (if a < lo ∨ hi < a then some (xtgt pc d, L, S, σ) else match offs[(a - lo).toNat]? with
      | some off => some (xtgt pc off, L, S, σ)
      | none => none) = _
  by_cases hc : a < lo ∨ hi < a
  · rw [if_pos hc, hp]
  · rw [if_neg hc, hm hc]
    show some (xtgt pc d, L, S, σ) = _
    rw [hp]
theorem xprim_ix {i : Nat} (h0 : 0 ≤ a) (h1 : a < 65536) : xprim 5000 [xr 99 i, xi a] = some (xi (xixo xmoves a 0)) := by
  show (if (99 : Nat) = 99 then (if 0 ≤ a ∧ a < 65536 then some (xi (xixo xmoves a 0)) else none) else none) = _
  rw [if_pos rfl, if_pos ⟨h0, h1⟩]
theorem xprim_ch {i : Nat} (h0 : 0 ≤ a) (h1 : a < 12) : xprim 5001 [xr 99 i, xi a] = some (xi (xmoves.getD a.toNat 0)) := by
  show (if (99 : Nat) = 99 then (if 0 ≤ a ∧ a < 12 then some (xi (xmoves.getD a.toNat 0)) else none) else none) = _
  rw [if_pos rfl, if_pos ⟨h0, h1⟩]
theorem xprim_le {i : Nat} : xprim 5002 [xr 99 i] = some (xi 12) := rfl
end JR3
end
section
/-! methods as functions -/
theorem e_51 {pc : Nat} {en : xa_I} (h : xlk pc xc_51 = some en) : xcd 51 pc = some en := h
theorem e_52 {pc : Nat} {en : xa_I} (h : xlk pc xc_52 = some en) : xcd 52 pc = some en := h
theorem e_124 {pc : Nat} {en : xa_I} (h : xlk pc xc_124 = some en) : xcd 124 pc = some en := h
theorem e_0 {pc : Nat} {en : xa_I} (h : xlk pc xc_0 = some en) : xcd 0 pc = some en := h
noncomputable def fm_Arrays_fill_5 (K0 : Nat) (i0 : Nat) (f1 : Int) (f3 : Int) (K : xa_H → Option (xa_H)) : Nat → Int → xa_H → Option (xa_H)
  | 0, _, _ => none
  | n + 1, x2, sh =>
    if f3 ≤ x2 then
      K sh
    else
      if 0 ≤ x2 ∧ x2 < (xalen K0 : Int) then
        xnm (xup sh K0 i0 x2.toNat f1) fun s3 =>
        xnm (w32 (x2 + 1)) fun v4 =>
        fm_Arrays_fill_5 K0 i0 f1 f3 K n v4 s3
      else none
theorem jl_Arrays_fill_5 (K0 : Nat) (i0 : Nat) (f1 : Int) (f3 : Int) (σ : xa_H) (hk0 : xaty K0 = 0) (hg0 : xkg K0 = xmg 0) (K : xa_H → Option (xa_H)) (hK5 : ∀ (sz : xa_H), J 0 20 [] [] sz jqV (K sz)) : ∀ (n : Nat) (x2 : Int) (sh : xa_H), J 0 5 [(0, xr K0 i0), (1, xi f1), (2, xi x2), (3, xi f3)] [] sh jqV (fm_Arrays_fill_5 K0 i0 f1 f3 K n x2 sh) := by
  intro n
  induction n with
  | zero => intro x2 sh; exact jr_none
  | succ n ih5 =>
    intro x2 sh
    rw [fm_Arrays_fill_5]
    refine jr_iload_n (e_0 rfl) rfl rfl ?_
    refine jr_iload_n (e_0 rfl) rfl rfl ?_
    refine jr_bri (c := f3 ≤ x2) (pt := 20) (pn := 10) (e_0 rfl) rfl rfl (fun h2 => ?_) (fun h2 => ?_)
    · exact jr_sub (show ([0, 1, 2, 3] : List Nat).Nodup from by decide) xsb_n (hK5 sh)
    · refine jr_aload_n (e_0 rfl) rfl rfl ?_
      refine jr_iload_n (e_0 rfl) rfl rfl ?_
      refine jr_iload_n (e_0 rfl) rfl rfl ?_
      refine jr_ast (n := (xalen K0 : Int)) (e_0 rfl) rfl hk0 hg0 rfl ?_
      refine jr_nms (fun s3 => ?_)
      refine jr_iinc (L2 := fun c => [(2, xi c), (0, xr K0 i0), (1, xi f1), (3, xi f3)]) (e_0 rfl) rfl rfl rfl (fun _ => rfl) (fun v4 => ?_)
      refine jr_goto (pc' := 5) (e_0 rfl) rfl ?_
      exact jr_sub (show ([2, 0, 1, 3] : List Nat).Nodup from by decide) (xsb_c (List.Mem.tail _ (List.Mem.head _)) (xsb_c (List.Mem.tail _ (List.Mem.tail _ (List.Mem.head _))) (xsb_c (List.Mem.head _) (xsb_c (List.Mem.tail _ (List.Mem.tail _ (List.Mem.tail _ (List.Mem.head _)))) xsb_n)))) (ih5 v4 s3)
noncomputable def fm_Arrays_fill (K0 i0 : Nat) (a1 : Int) (σ : xa_H) : Option (xa_H) :=
  xnm ((xalen K0 : Int)) fun v1 =>
  fm_Arrays_fill_5 K0 i0 a1 v1 (fun (s5 : xa_H) =>
    some s5) xFU 0 σ
theorem jm_Arrays_fill (K0 i0 : Nat) (a1 : Int) (σ : xa_H) (hk0 : xaty K0 = 0) (hg0 : xkg K0 = xmg 0) : J 0 0 [(0, xr K0 i0), (1, xi a1)] [] σ jqV (fm_Arrays_fill K0 i0 a1 σ) := by
  unfold fm_Arrays_fill
  refine jr_iconst (e_0 rfl) rfl ?_
  refine jr_istore_n (L' := [(2, xi 0), (0, xr K0 i0), (1, xi a1)]) (e_0 rfl) rfl rfl rfl ?_
  refine jr_aload_n (e_0 rfl) rfl rfl ?_
  refine jr_alen (a := (xalen K0 : Int)) (e_0 rfl) rfl (xno9 hk0) rfl ?_
  refine jr_nm (fun v1 => ?_)
  refine jr_istore_n (L' := [(3, xi v1), (2, xi 0), (0, xr K0 i0), (1, xi a1)]) (e_0 rfl) rfl rfl rfl ?_
  refine jr_sub (show ([3, 2, 0, 1] : List Nat).Nodup from by decide) (xsb_c (List.Mem.tail _ (List.Mem.tail _ (List.Mem.head _))) (xsb_c (List.Mem.tail _ (List.Mem.tail _ (List.Mem.tail _ (List.Mem.head _)))) (xsb_c (List.Mem.tail _ (List.Mem.head _)) (xsb_c (List.Mem.head _) xsb_n)))) (jl_Arrays_fill_5 K0 i0 a1 v1 σ hk0 hg0 _ (fun s5 => ?_) xFU 0 σ)
  exact jr_retV (e_0 rfl)

theorem e_5 {pc : Nat} {en : xa_I} (h : xlk pc xc_5 = some en) : xcd 5 pc = some en := h
noncomputable def fm_Answer_forget (σ : xa_H) : Option (xa_H) :=
  xnm (xup σ 0 0 1 0) fun s1 =>
  some s1
theorem jm_Answer_forget (σ : xa_H) : J 5 0 [(0, xr 0 0)] [] σ jqV (fm_Answer_forget σ) := by
  unfold fm_Answer_forget
  refine jr_aload_n (e_5 rfl) rfl rfl ?_
  refine jr_iconst (e_5 rfl) rfl ?_
  refine jr_put (e_5 rfl) rfl rfl rfl ?_
  refine jr_nms (fun s1 => ?_)
  exact jr_retV (e_5 rfl)

theorem e_6 {pc : Nat} {en : xa_I} (h : xlk pc xc_6 = some en) : xcd 6 pc = some en := h
noncomputable def fm_Answer_isNew (a1 : Int) (a2 : Int) (a3 : Int) (a4 : Int) (σ : xa_H) : Option (Int × xa_H) :=
  xnm ((w32 ((w32 ((w32 ((w32 ((w32 ((w32 (a1 * 4)) + a2)) * 16)) + a3)) * 16)) + a4))) fun v1 =>
  xnm ((if v1 = (σ 0 0 1) then 0 else 1)) fun v3 =>
  xnm (xup σ 0 0 1 v1) fun s5 =>
  some ((v3 % 2), s5)
theorem jm_Answer_isNew (a1 : Int) (a2 : Int) (a3 : Int) (a4 : Int) (σ : xa_H) : J 6 0 [(0, xr 0 0), (1, xi a1), (2, xi a2), (3, xi a3), (4, xi a4)] [] σ jqW (fm_Answer_isNew a1 a2 a3 a4 σ) := by
  unfold fm_Answer_isNew
  refine jr_iload_n (e_6 rfl) rfl rfl ?_
  refine jr_iconst (e_6 rfl) rfl ?_
  refine jr_imul (e_6 rfl) rfl ?_
  refine jr_iload_n (e_6 rfl) rfl rfl ?_
  refine jr_iadd (e_6 rfl) rfl ?_
  refine jr_bipush (e_6 rfl) rfl ?_
  refine jr_imul (e_6 rfl) rfl ?_
  refine jr_iload_n (e_6 rfl) rfl rfl ?_
  refine jr_iadd (e_6 rfl) rfl ?_
  refine jr_bipush (e_6 rfl) rfl ?_
  refine jr_imul (e_6 rfl) rfl ?_
  refine jr_iload (e_6 rfl) rfl rfl ?_
  refine jr_iadd (e_6 rfl) rfl ?_
  refine jr_nm (fun v1 => ?_)
  refine jr_istore (L' := [(5, xi v1), (0, xr 0 0), (1, xi a1), (2, xi a2), (3, xi a3), (4, xi a4)]) (e_6 rfl) rfl rfl rfl ?_
  refine jr_iload (e_6 rfl) rfl rfl ?_
  refine jr_aload_n (e_6 rfl) rfl rfl ?_
  refine jr_geti (e_6 rfl) rfl (by decide +kernel) ?_
  refine jr_pm1 (fun T => ∀ v3 : Int, J 6 32 [(0, xr 0 0), (5, xi v1)] [xi v3] σ jqW (T v3)) (fun v3 => ?_) (fun T hT => ?_)
  · refine jr_istore (L' := [(6, xi v3), (0, xr 0 0), (5, xi v1)]) (e_6 rfl) rfl rfl rfl ?_
    refine jr_aload_n (e_6 rfl) rfl rfl ?_
    refine jr_iload (e_6 rfl) rfl rfl ?_
    refine jr_put (e_6 rfl) rfl rfl rfl ?_
    refine jr_nms (fun s5 => ?_)
    refine jr_iload (e_6 rfl) rfl rfl ?_
    exact jr_retWz (e_6 rfl) rfl rfl
  · refine jr_br (c := v1 = (σ 0 0 1)) (pt := 31) (pn := 27) (e_6 rfl) rfl rfl (fun h4 => ?_) (fun h4 => ?_)
    · refine jr_iconst (e_6 rfl) rfl ?_
      exact (jr_nme (if_pos h4) (jr_sub (show ([5, 0, 1, 2, 3, 4] : List Nat).Nodup from by decide) (xsb_c (List.Mem.tail _ (List.Mem.head _)) (xsb_c (List.Mem.head _) xsb_n)) (hT 0)))
    · refine jr_iconst (e_6 rfl) rfl ?_
      refine jr_goto (pc' := 32) (e_6 rfl) rfl ?_
      exact (jr_nme (if_neg h4) (jr_sub (show ([5, 0, 1, 2, 3, 4] : List Nat).Nodup from by decide) (xsb_c (List.Mem.tail _ (List.Mem.head _)) (xsb_c (List.Mem.head _) xsb_n)) (hT 1)))

theorem e_7 {pc : Nat} {en : xa_I} (h : xlk pc xc_7 = some en) : xcd 7 pc = some en := h
noncomputable def fm_Answer_none (σ : xa_H) : Option (xa_H) :=
  xnm (xup σ 0 0 2 0) fun s1 =>
  xnm (xup s1 0 0 3 (-6)) fun s2 =>
  some s2
theorem jm_Answer_none (σ : xa_H) : J 7 0 [(0, xr 0 0)] [] σ jqV (fm_Answer_none σ) := by
  unfold fm_Answer_none
  refine jr_aload_n (e_7 rfl) rfl rfl ?_
  refine jr_iconst (e_7 rfl) rfl ?_
  refine jr_put (e_7 rfl) rfl rfl rfl ?_
  refine jr_nms (fun s1 => ?_)
  refine jr_aload_n (e_7 rfl) rfl rfl ?_
  refine jr_bipush (e_7 rfl) rfl ?_
  refine jr_put (e_7 rfl) rfl rfl rfl ?_
  refine jr_nms (fun s2 => ?_)
  exact jr_retV (e_7 rfl)

theorem e_131 {pc : Nat} {en : xa_I} (h : xlk pc xc_131 = some en) : xcd 131 pc = some en := h
noncomputable def fm_S_write (K0 i0 : Nat) (a1 : Int) (a2 : Int) (σ : xa_H) : Option (xa_H) :=
  if a1 < 0 then
    some σ
  else
    if (xalen K0 : Int) ≤ a1 then
      some σ
    else
      if 0 ≤ a1 ∧ a1 < (xalen K0 : Int) then
        xnm (xup σ K0 i0 a1.toNat a2) fun s3 =>
        some s3
      else none
theorem jm_S_write (K0 i0 : Nat) (a1 : Int) (a2 : Int) (σ : xa_H) (hk0 : xaty K0 = 0) (hg0 : xkg K0 = xmg 131) : J 131 0 [(0, xr K0 i0), (1, xi a1), (2, xi a2)] [] σ jqV (fm_S_write K0 i0 a1 a2 σ) := by
  unfold fm_S_write
  refine jr_iload_n (e_131 rfl) rfl rfl ?_
  refine jr_bri (c := a1 < 0) (pt := 14) (pn := 4) (e_131 rfl) rfl rfl (fun h1 => ?_) (fun h1 => ?_)
  · exact jr_retV (e_131 rfl)
  · refine jr_iload_n (e_131 rfl) rfl rfl ?_
    refine jr_aload_n (e_131 rfl) rfl rfl ?_
    refine jr_alen (a := (xalen K0 : Int)) (e_131 rfl) rfl (xno9 hk0) rfl ?_
    refine jr_bri (c := (xalen K0 : Int) ≤ a1) (pt := 14) (pn := 10) (e_131 rfl) rfl rfl (fun h2 => ?_) (fun h2 => ?_)
    · exact jr_retV (e_131 rfl)
    · refine jr_aload_n (e_131 rfl) rfl rfl ?_
      refine jr_iload_n (e_131 rfl) rfl rfl ?_
      refine jr_iload_n (e_131 rfl) rfl rfl ?_
      refine jr_ast (n := (xalen K0 : Int)) (e_131 rfl) rfl hk0 hg0 rfl ?_
      refine jr_nms (fun s3 => ?_)
      exact jr_retV (e_131 rfl)

theorem e_8 {pc : Nat} {en : xa_I} (h : xlk pc xc_8 = some en) : xcd 8 pc = some en := h
noncomputable def fm_Answer_add (a1 : Int) (σ : xa_H) : Option (xa_H) :=
  (fm_S_write 12 0 (σ 0 0 2) a1 σ).bind fun s1 =>
  xnm (xup s1 0 0 2 (w32 ((s1 0 0 2) + 1))) fun s2 =>
  some s2
theorem jm_Answer_add (a1 : Int) (σ : xa_H) : J 8 0 [(0, xr 0 0), (1, xi a1)] [] σ jqV (fm_Answer_add a1 σ) := by
  unfold fm_Answer_add
  refine jr_aload_n (e_8 rfl) rfl rfl ?_
  refine jr_getr (K2 := 12) (i2 := 0) (e_8 rfl) rfl rfl rfl ?_
  refine jr_aload_n (e_8 rfl) rfl rfl ?_
  refine jr_geti (e_8 rfl) rfl (by decide +kernel) ?_
  refine jr_iload_n (e_8 rfl) rfl rfl ?_
  refine jr_callV (as := [xr 12 0, xi (σ 0 0 2), xi a1]) (S1 := []) (e_8 rfl) rfl rfl rfl rfl rfl rfl (jm_S_write 12 0 (σ 0 0 2) a1 σ rfl rfl) rfl (fun s1 => ?_)
  refine jr_aload_n (e_8 rfl) rfl rfl ?_
  refine jr_dup (e_8 rfl) rfl rfl ?_
  refine jr_geti (e_8 rfl) rfl (by decide +kernel) ?_
  refine jr_iconst (e_8 rfl) rfl ?_
  refine jr_iadd (e_8 rfl) rfl ?_
  refine jr_put (e_8 rfl) rfl rfl rfl ?_
  refine jr_nms (fun s2 => ?_)
  exact jr_retV (e_8 rfl)

theorem e_130 {pc : Nat} {en : xa_I} (h : xlk pc xc_130 = some en) : xcd 130 pc = some en := h
noncomputable def fm_S_read (K0 i0 : Nat) (a1 : Int) (σ : xa_H) : Option (Int) :=
  if a1 < 0 then
    some 0
  else
    if (xalen K0 : Int) ≤ a1 then
      some 0
    else
      if 0 ≤ a1 ∧ a1 < (xalen K0 : Int) then
        some (σ K0 i0 a1.toNat)
      else none
theorem jm_S_read (K0 i0 : Nat) (a1 : Int) (σ : xa_H) (hk0 : xaty K0 = 0) : J 130 0 [(0, xr K0 i0), (1, xi a1)] [] σ (jqP σ) (fm_S_read K0 i0 a1 σ) := by
  unfold fm_S_read
  refine jr_iload_n (e_130 rfl) rfl rfl ?_
  refine jr_bri (c := a1 < 0) (pt := 16) (pn := 4) (e_130 rfl) rfl rfl (fun h1 => ?_) (fun h1 => ?_)
  · refine jr_iconst (e_130 rfl) rfl ?_
    exact jr_retP (e_130 rfl) rfl
  · refine jr_iload_n (e_130 rfl) rfl rfl ?_
    refine jr_aload_n (e_130 rfl) rfl rfl ?_
    refine jr_alen (a := (xalen K0 : Int)) (e_130 rfl) rfl (xno9 hk0) rfl ?_
    refine jr_bri (c := (xalen K0 : Int) ≤ a1) (pt := 16) (pn := 10) (e_130 rfl) rfl rfl (fun h2 => ?_) (fun h2 => ?_)
    · refine jr_iconst (e_130 rfl) rfl ?_
      exact jr_retP (e_130 rfl) rfl
    · refine jr_aload_n (e_130 rfl) rfl rfl ?_
      refine jr_iload_n (e_130 rfl) rfl rfl ?_
      refine jr_ald (n := (xalen K0 : Int)) (e_130 rfl) rfl hk0 rfl ?_
      refine jr_goto (pc' := 17) (e_130 rfl) rfl ?_
      exact jr_retP (e_130 rfl) rfl

theorem e_9 {pc : Nat} {en : xa_I} (h : xlk pc xc_9 = some en) : xcd 9 pc = some en := h
noncomputable def fm_Answer_at (a1 : Int) (σ : xa_H) : Option (Int) :=
  if a1 < 0 then
    some (-6)
  else
    if (σ 0 0 2) ≤ a1 then
      some (-6)
    else
      (fm_S_read 12 0 a1 σ).bind fun v3 =>
      some v3
theorem jm_Answer_at (a1 : Int) (σ : xa_H) : J 9 0 [(0, xr 0 0), (1, xi a1)] [] σ (jqP σ) (fm_Answer_at a1 σ) := by
  unfold fm_Answer_at
  refine jr_iload_n (e_9 rfl) rfl rfl ?_
  refine jr_bri (c := a1 < 0) (pt := 23) (pn := 4) (e_9 rfl) rfl rfl (fun h1 => ?_) (fun h1 => ?_)
  · refine jr_bipush (e_9 rfl) rfl ?_
    exact jr_retP (e_9 rfl) rfl
  · refine jr_iload_n (e_9 rfl) rfl rfl ?_
    refine jr_aload_n (e_9 rfl) rfl rfl ?_
    refine jr_geti (e_9 rfl) rfl (by decide +kernel) ?_
    refine jr_bri (c := (σ 0 0 2) ≤ a1) (pt := 23) (pn := 12) (e_9 rfl) rfl rfl (fun h2 => ?_) (fun h2 => ?_)
    · refine jr_bipush (e_9 rfl) rfl ?_
      exact jr_retP (e_9 rfl) rfl
    · refine jr_aload_n (e_9 rfl) rfl rfl ?_
      refine jr_getr (K2 := 12) (i2 := 0) (e_9 rfl) rfl rfl rfl ?_
      refine jr_iload_n (e_9 rfl) rfl rfl ?_
      refine jr_callP (as := [xr 12 0, xi a1]) (S1 := []) (e_9 rfl) rfl rfl rfl rfl rfl rfl (jm_S_read 12 0 a1 σ rfl) rfl (fun v3 => ?_)
      refine jr_goto (pc' := 25) (e_9 rfl) rfl ?_
      exact jr_retP (e_9 rfl) rfl

theorem e_11 {pc : Nat} {en : xa_I} (h : xlk pc xc_11 = some en) : xcd 11 pc = some en := h
noncomputable def fm_Cheapest_weigh_2 (K1 : Nat) (i1 : Nat) (f2 : Int) (K : xa_H → Option (xa_H)) : Nat → Int → xa_H → Option (xa_H)
  | 0, _, _ => none
  | n + 1, x3, sh =>
    if 12 ≤ x3 then
      K sh
    else
      (fm_S_read K1 i1 0 sh).bind fun v2 =>
      xj (fun (v4 : Int) =>
        if 0 ≤ x3 ∧ x3 < 12 then
          xnm (xup sh 13 0 x3.toNat (w32 ((w32 (v4 * 4096)) + 1))) fun s6 =>
          xnm (w32 (x3 + 1)) fun v7 =>
          fm_Cheapest_weigh_2 K1 i1 f2 K n v7 s6
        else none) fun K5 =>
      if x3 = 4 then
        (fm_S_read K1 i1 1 sh).bind fun v9 =>
        xnm ((w32 (v9 * f2))) fun v10 =>
        K5 v10
      else
        if x3 = 5 then
          (fm_S_read K1 i1 2 sh).bind fun v12 =>
          K5 v12
        else
          if x3 < 6 then
            K5 v2
          else
            (fm_S_read K1 i1 3 sh).bind fun v14 =>
            K5 v14
theorem jl_Cheapest_weigh_2 (K1 : Nat) (i1 : Nat) (f2 : Int) (σ : xa_H) (hk1 : xaty K1 = 0) (hg1 : xkg K1 = xmg 11) (K : xa_H → Option (xa_H)) (hK2 : ∀ (sz : xa_H), J 11 80 [] [] sz jqV (K sz)) : ∀ (n : Nat) (x3 : Int) (sh : xa_H), J 11 2 [(0, xr 1 0), (1, xr K1 i1), (2, xi f2), (3, xi x3)] [] sh jqV (fm_Cheapest_weigh_2 K1 i1 f2 K n x3 sh) := by
  intro n
  induction n with
  | zero => intro x3 sh; exact jr_none
  | succ n ih2 =>
    intro x3 sh
    rw [fm_Cheapest_weigh_2]
    refine jr_iload_n (e_11 rfl) rfl rfl ?_
    refine jr_bipush (e_11 rfl) rfl ?_
    refine jr_bri (c := 12 ≤ x3) (pt := 80) (pn := 8) (e_11 rfl) rfl rfl (fun h1 => ?_) (fun h1 => ?_)
    · exact jr_sub (show ([0, 1, 2, 3] : List Nat).Nodup from by decide) xsb_n (hK2 sh)
    · refine jr_aload_n (e_11 rfl) rfl rfl ?_
      refine jr_iconst (e_11 rfl) rfl ?_
      refine jr_callP (as := [xr K1 i1, xi 0]) (S1 := []) (e_11 rfl) rfl rfl rfl rfl rfl rfl (jm_S_read K1 i1 0 sh hk1) rfl (fun v2 => ?_)
      refine jr_istore (L' := [(4, xi v2), (0, xr 1 0), (1, xr K1 i1), (2, xi f2), (3, xi x3)]) (e_11 rfl) rfl rfl rfl ?_
      refine jr_iload_n (e_11 rfl) rfl rfl ?_
      refine jr_iconst (e_11 rfl) rfl ?_
      refine jr_j (fun K5 => ∀ (v4 : Int), J 11 60 [(0, xr 1 0), (1, xr K1 i1), (2, xi f2), (3, xi x3), (4, xi v4)] [] sh jqV (K5 v4)) (fun v4 => ?_) (fun K5 hK5 => ?_)
      · refine jr_aload_n (e_11 rfl) rfl rfl ?_
        refine jr_getr (K2 := 13) (i2 := 0) (e_11 rfl) rfl rfl rfl ?_
        refine jr_iload_n (e_11 rfl) rfl rfl ?_
        refine jr_iload (e_11 rfl) rfl rfl ?_
        refine jr_sipush (e_11 rfl) rfl ?_
        refine jr_imul (e_11 rfl) rfl ?_
        refine jr_iconst (e_11 rfl) rfl ?_
        refine jr_iadd (e_11 rfl) rfl ?_
        refine jr_ast (n := 12) (e_11 rfl) rfl rfl rfl rfl ?_
        refine jr_nms (fun s6 => ?_)
        refine jr_iinc (L2 := fun c => [(3, xi c), (0, xr 1 0), (1, xr K1 i1), (2, xi f2), (4, xi v4)]) (e_11 rfl) rfl rfl rfl (fun _ => rfl) (fun v7 => ?_)
        refine jr_goto (pc' := 2) (e_11 rfl) rfl ?_
        exact jr_sub (show ([3, 0, 1, 2, 4] : List Nat).Nodup from by decide) (xsb_c (List.Mem.tail _ (List.Mem.head _)) (xsb_c (List.Mem.tail _ (List.Mem.tail _ (List.Mem.head _))) (xsb_c (List.Mem.tail _ (List.Mem.tail _ (List.Mem.tail _ (List.Mem.head _)))) (xsb_c (List.Mem.head _) xsb_n)))) (ih2 v7 s6)
      · refine jr_brx (c := x3 = 4) (pt := 32) (pn := 20) (e_11 rfl) rfl rfl (fun h8 => ?_) (fun h8 => ?_)
        · refine jr_aload_n (e_11 rfl) rfl rfl ?_
          refine jr_iconst (e_11 rfl) rfl ?_
          refine jr_callP (as := [xr K1 i1, xi 1]) (S1 := []) (e_11 rfl) rfl rfl rfl rfl rfl rfl (jm_S_read K1 i1 1 sh hk1) rfl (fun v9 => ?_)
          refine jr_iload_n (e_11 rfl) rfl rfl ?_
          refine jr_imul (e_11 rfl) rfl ?_
          refine jr_nm (fun v10 => ?_)
          refine jr_istore (L' := [(4, xi v10), (0, xr 1 0), (1, xr K1 i1), (2, xi f2), (3, xi x3)]) (e_11 rfl) rfl rfl rfl ?_
          refine jr_goto (pc' := 60) (e_11 rfl) rfl ?_
          exact jr_sub (show ([4, 0, 1, 2, 3] : List Nat).Nodup from by decide) (xsb_c (List.Mem.tail _ (List.Mem.head _)) (xsb_c (List.Mem.tail _ (List.Mem.tail _ (List.Mem.head _))) (xsb_c (List.Mem.tail _ (List.Mem.tail _ (List.Mem.tail _ (List.Mem.head _)))) (xsb_c (List.Mem.tail _ (List.Mem.tail _ (List.Mem.tail _ (List.Mem.tail _ (List.Mem.head _))))) (xsb_c (List.Mem.head _) xsb_n))))) (hK5 v10)
        · refine jr_iload_n (e_11 rfl) rfl rfl ?_
          refine jr_iconst (e_11 rfl) rfl ?_
          refine jr_brx (c := x3 = 5) (pt := 47) (pn := 37) (e_11 rfl) rfl rfl (fun h11 => ?_) (fun h11 => ?_)
          · refine jr_aload_n (e_11 rfl) rfl rfl ?_
            refine jr_iconst (e_11 rfl) rfl ?_
            refine jr_callP (as := [xr K1 i1, xi 2]) (S1 := []) (e_11 rfl) rfl rfl rfl rfl rfl rfl (jm_S_read K1 i1 2 sh hk1) rfl (fun v12 => ?_)
            refine jr_istore (L' := [(4, xi v12), (0, xr 1 0), (1, xr K1 i1), (2, xi f2), (3, xi x3)]) (e_11 rfl) rfl rfl rfl ?_
            refine jr_goto (pc' := 60) (e_11 rfl) rfl ?_
            exact jr_sub (show ([4, 0, 1, 2, 3] : List Nat).Nodup from by decide) (xsb_c (List.Mem.tail _ (List.Mem.head _)) (xsb_c (List.Mem.tail _ (List.Mem.tail _ (List.Mem.head _))) (xsb_c (List.Mem.tail _ (List.Mem.tail _ (List.Mem.tail _ (List.Mem.head _)))) (xsb_c (List.Mem.tail _ (List.Mem.tail _ (List.Mem.tail _ (List.Mem.tail _ (List.Mem.head _))))) (xsb_c (List.Mem.head _) xsb_n))))) (hK5 v12)
          · refine jr_iload_n (e_11 rfl) rfl rfl ?_
            refine jr_bipush (e_11 rfl) rfl ?_
            refine jr_bri (c := x3 < 6) (pt := 60) (pn := 53) (e_11 rfl) rfl rfl (fun h13 => ?_) (fun h13 => ?_)
            · exact jr_sub (show ([4, 0, 1, 2, 3] : List Nat).Nodup from by decide) (xsb_c (List.Mem.tail _ (List.Mem.head _)) (xsb_c (List.Mem.tail _ (List.Mem.tail _ (List.Mem.head _))) (xsb_c (List.Mem.tail _ (List.Mem.tail _ (List.Mem.tail _ (List.Mem.head _)))) (xsb_c (List.Mem.tail _ (List.Mem.tail _ (List.Mem.tail _ (List.Mem.tail _ (List.Mem.head _))))) (xsb_c (List.Mem.head _) xsb_n))))) (hK5 v2)
            · refine jr_aload_n (e_11 rfl) rfl rfl ?_
              refine jr_iconst (e_11 rfl) rfl ?_
              refine jr_callP (as := [xr K1 i1, xi 3]) (S1 := []) (e_11 rfl) rfl rfl rfl rfl rfl rfl (jm_S_read K1 i1 3 sh hk1) rfl (fun v14 => ?_)
              refine jr_istore (L' := [(4, xi v14), (0, xr 1 0), (1, xr K1 i1), (2, xi f2), (3, xi x3)]) (e_11 rfl) rfl rfl rfl ?_
              exact jr_sub (show ([4, 0, 1, 2, 3] : List Nat).Nodup from by decide) (xsb_c (List.Mem.tail _ (List.Mem.head _)) (xsb_c (List.Mem.tail _ (List.Mem.tail _ (List.Mem.head _))) (xsb_c (List.Mem.tail _ (List.Mem.tail _ (List.Mem.tail _ (List.Mem.head _)))) (xsb_c (List.Mem.tail _ (List.Mem.tail _ (List.Mem.tail _ (List.Mem.tail _ (List.Mem.head _))))) (xsb_c (List.Mem.head _) xsb_n))))) (hK5 v14)
noncomputable def fm_Cheapest_weigh (K1 i1 : Nat) (a2 : Int) (σ : xa_H) : Option (xa_H) :=
  fm_Cheapest_weigh_2 K1 i1 a2 (fun (s15 : xa_H) =>
    some s15) xFU 0 σ
theorem jm_Cheapest_weigh (K1 i1 : Nat) (a2 : Int) (σ : xa_H) (hk1 : xaty K1 = 0) (hg1 : xkg K1 = xmg 11) : J 11 0 [(0, xr 1 0), (1, xr K1 i1), (2, xi a2)] [] σ jqV (fm_Cheapest_weigh K1 i1 a2 σ) := by
  unfold fm_Cheapest_weigh
  refine jr_iconst (e_11 rfl) rfl ?_
  refine jr_istore_n (L' := [(3, xi 0), (0, xr 1 0), (1, xr K1 i1), (2, xi a2)]) (e_11 rfl) rfl rfl rfl ?_
  refine jr_sub (show ([3, 0, 1, 2] : List Nat).Nodup from by decide) (xsb_c (List.Mem.tail _ (List.Mem.head _)) (xsb_c (List.Mem.tail _ (List.Mem.tail _ (List.Mem.head _))) (xsb_c (List.Mem.tail _ (List.Mem.tail _ (List.Mem.tail _ (List.Mem.head _)))) (xsb_c (List.Mem.head _) xsb_n)))) (jl_Cheapest_weigh_2 K1 i1 a2 σ hk1 hg1 _ (fun s15 => ?_) xFU 0 σ)
  exact jr_retV (e_11 rfl)

theorem e_17 {pc : Nat} {en : xa_I} (h : xlk pc xc_17 = some en) : xcd 17 pc = some en := h
noncomputable def fm_Cheapest_put (a1 : Int) (a2 : Int) (σ : xa_H) : Option (xa_H) :=
  (fm_S_write 15 0 a1 a2 σ).bind fun s1 =>
  (fm_S_write 16 0 a2 a1 s1).bind fun s2 =>
  some s2
theorem jm_Cheapest_put (a1 : Int) (a2 : Int) (σ : xa_H) : J 17 0 [(0, xr 1 0), (1, xi a1), (2, xi a2)] [] σ jqV (fm_Cheapest_put a1 a2 σ) := by
  unfold fm_Cheapest_put
  refine jr_aload_n (e_17 rfl) rfl rfl ?_
  refine jr_getr (K2 := 15) (i2 := 0) (e_17 rfl) rfl rfl rfl ?_
  refine jr_iload_n (e_17 rfl) rfl rfl ?_
  refine jr_iload_n (e_17 rfl) rfl rfl ?_
  refine jr_callV (as := [xr 15 0, xi a1, xi a2]) (S1 := []) (e_17 rfl) rfl rfl rfl rfl rfl rfl (jm_S_write 15 0 a1 a2 σ rfl rfl) rfl (fun s1 => ?_)
  refine jr_aload_n (e_17 rfl) rfl rfl ?_
  refine jr_getr (K2 := 16) (i2 := 0) (e_17 rfl) rfl rfl rfl ?_
  refine jr_iload_n (e_17 rfl) rfl rfl ?_
  refine jr_iload_n (e_17 rfl) rfl rfl ?_
  refine jr_callV (as := [xr 16 0, xi a2, xi a1]) (S1 := []) (e_17 rfl) rfl rfl rfl rfl rfl rfl (jm_S_write 16 0 a2 a1 s1 rfl rfl) rfl (fun s2 => ?_)
  exact jr_retV (e_17 rfl)

theorem e_18 {pc : Nat} {en : xa_I} (h : xlk pc xc_18 = some en) : xcd 18 pc = some en := h
noncomputable def fm_Cheapest_rise_9 (f1 : Int) (K : Int → xa_H → Option (xa_H)) : Nat → Int → xa_H → Option (xa_H)
  | 0, _, _ => none
  | n + 1, x2, sh =>
    if x2 ≤ 0 then
      K x2 sh
    else
      (fm_S_read 15 0 (xdiv (w32 (x2 - 1)) 2) sh).bind fun v3 =>
      (fm_S_read 14 0 v3 sh).bind fun v4 =>
      (fm_S_read 14 0 f1 sh).bind fun v5 =>
      if v5 < v4 then
        (fm_Cheapest_put x2 v3 sh).bind fun s7 =>
        xnm ((xdiv (w32 (x2 - 1)) 2)) fun v8 =>
        fm_Cheapest_rise_9 f1 K n v8 s7
      else
        K x2 sh
theorem jl_Cheapest_rise_9 (f1 : Int) (σ : xa_H)  (K : Int → xa_H → Option (xa_H)) (hK9 : ∀ (z0 : Int) (sz : xa_H), J 18 63 [(0, xr 1 0), (1, xi f1), (2, xi z0)] [] sz jqV (K z0 sz)) : ∀ (n : Nat) (x2 : Int) (sh : xa_H), J 18 9 [(0, xr 1 0), (1, xi f1), (2, xi x2)] [] sh jqV (fm_Cheapest_rise_9 f1 K n x2 sh) := by
  intro n
  induction n with
  | zero => intro x2 sh; exact jr_none
  | succ n ih9 =>
    intro x2 sh
    rw [fm_Cheapest_rise_9]
    refine jr_iload_n (e_18 rfl) rfl rfl ?_
    refine jr_bri (c := x2 ≤ 0) (pt := 63) (pn := 13) (e_18 rfl) rfl rfl (fun h2 => ?_) (fun h2 => ?_)
    · exact jr_sub (show ([0, 1, 2] : List Nat).Nodup from by decide) (xsb_c (List.Mem.head _) (xsb_c (List.Mem.tail _ (List.Mem.head _)) (xsb_c (List.Mem.tail _ (List.Mem.tail _ (List.Mem.head _))) xsb_n))) (hK9 x2 sh)
    · refine jr_aload_n (e_18 rfl) rfl rfl ?_
      refine jr_getr (K2 := 15) (i2 := 0) (e_18 rfl) rfl rfl rfl ?_
      refine jr_iload_n (e_18 rfl) rfl rfl ?_
      refine jr_iconst (e_18 rfl) rfl ?_
      refine jr_isub (e_18 rfl) rfl ?_
      refine jr_iconst (e_18 rfl) rfl ?_
      refine jr_idiv (e_18 rfl) rfl (by decide) ?_
      refine jr_callP (as := [xr 15 0, xi (xdiv (w32 (x2 - 1)) 2)]) (S1 := []) (e_18 rfl) rfl rfl rfl rfl rfl rfl (jm_S_read 15 0 (xdiv (w32 (x2 - 1)) 2) sh rfl) rfl (fun v3 => ?_)
      refine jr_istore_n (L' := [(3, xi v3), (0, xr 1 0), (1, xi f1), (2, xi x2)]) (e_18 rfl) rfl rfl rfl ?_
      refine jr_aload_n (e_18 rfl) rfl rfl ?_
      refine jr_getr (K2 := 14) (i2 := 0) (e_18 rfl) rfl rfl rfl ?_
      refine jr_iload_n (e_18 rfl) rfl rfl ?_
      refine jr_callP (as := [xr 14 0, xi v3]) (S1 := []) (e_18 rfl) rfl rfl rfl rfl rfl rfl (jm_S_read 14 0 v3 sh rfl) rfl (fun v4 => ?_)
      refine jr_aload_n (e_18 rfl) rfl rfl ?_
      refine jr_getr (K2 := 14) (i2 := 0) (e_18 rfl) rfl rfl rfl ?_
      refine jr_iload_n (e_18 rfl) rfl rfl ?_
      refine jr_callP (as := [xr 14 0, xi f1]) (S1 := [xi v4]) (e_18 rfl) rfl rfl rfl rfl rfl rfl (jm_S_read 14 0 f1 sh rfl) rfl (fun v5 => ?_)
      refine jr_bri (c := v5 < v4) (pt := 48) (pn := 45) (e_18 rfl) rfl rfl (fun h6 => ?_) (fun h6 => ?_)
      · refine jr_aload_n (e_18 rfl) rfl rfl ?_
        refine jr_iload_n (e_18 rfl) rfl rfl ?_
        refine jr_iload_n (e_18 rfl) rfl rfl ?_
        refine jr_callV (as := [xr 1 0, xi x2, xi v3]) (S1 := []) (e_18 rfl) rfl rfl rfl rfl rfl rfl (jm_Cheapest_put x2 v3 sh) rfl (fun s7 => ?_)
        refine jr_iload_n (e_18 rfl) rfl rfl ?_
        refine jr_iconst (e_18 rfl) rfl ?_
        refine jr_isub (e_18 rfl) rfl ?_
        refine jr_iconst (e_18 rfl) rfl ?_
        refine jr_idiv (e_18 rfl) rfl (by decide) ?_
        refine jr_nm (fun v8 => ?_)
        refine jr_istore_n (L' := [(2, xi v8), (3, xi v3), (0, xr 1 0), (1, xi f1)]) (e_18 rfl) rfl rfl rfl ?_
        refine jr_goto (pc' := 9) (e_18 rfl) rfl ?_
        exact jr_sub (show ([2, 3, 0, 1] : List Nat).Nodup from by decide) (xsb_c (List.Mem.tail _ (List.Mem.tail _ (List.Mem.head _))) (xsb_c (List.Mem.tail _ (List.Mem.tail _ (List.Mem.tail _ (List.Mem.head _)))) (xsb_c (List.Mem.head _) xsb_n))) (ih9 v8 s7)
      · refine jr_goto (pc' := 63) (e_18 rfl) rfl ?_
        exact jr_sub (show ([3, 0, 1, 2] : List Nat).Nodup from by decide) (xsb_c (List.Mem.tail _ (List.Mem.head _)) (xsb_c (List.Mem.tail _ (List.Mem.tail _ (List.Mem.head _))) (xsb_c (List.Mem.tail _ (List.Mem.tail _ (List.Mem.tail _ (List.Mem.head _)))) xsb_n))) (hK9 x2 sh)
noncomputable def fm_Cheapest_rise (a1 : Int) (σ : xa_H) : Option (xa_H) :=
  (fm_S_read 16 0 a1 σ).bind fun v1 =>
  fm_Cheapest_rise_9 a1 (fun (v9 : Int) (s10 : xa_H) =>
    (fm_Cheapest_put v9 a1 s10).bind fun s11 =>
    some s11) xFU v1 σ
theorem jm_Cheapest_rise (a1 : Int) (σ : xa_H) : J 18 0 [(0, xr 1 0), (1, xi a1)] [] σ jqV (fm_Cheapest_rise a1 σ) := by
  unfold fm_Cheapest_rise
  refine jr_aload_n (e_18 rfl) rfl rfl ?_
  refine jr_getr (K2 := 16) (i2 := 0) (e_18 rfl) rfl rfl rfl ?_
  refine jr_iload_n (e_18 rfl) rfl rfl ?_
  refine jr_callP (as := [xr 16 0, xi a1]) (S1 := []) (e_18 rfl) rfl rfl rfl rfl rfl rfl (jm_S_read 16 0 a1 σ rfl) rfl (fun v1 => ?_)
  refine jr_istore_n (L' := [(2, xi v1), (0, xr 1 0), (1, xi a1)]) (e_18 rfl) rfl rfl rfl ?_
  refine jr_sub (show ([2, 0, 1] : List Nat).Nodup from by decide) (xsb_c (List.Mem.tail _ (List.Mem.head _)) (xsb_c (List.Mem.tail _ (List.Mem.tail _ (List.Mem.head _))) (xsb_c (List.Mem.head _) xsb_n))) (jl_Cheapest_rise_9 a1 σ _ (fun v9 s10 => ?_) xFU v1 σ)
  refine jr_aload_n (e_18 rfl) rfl rfl ?_
  refine jr_iload_n (e_18 rfl) rfl rfl ?_
  refine jr_iload_n (e_18 rfl) rfl rfl ?_
  refine jr_callV (as := [xr 1 0, xi v9, xi a1]) (S1 := []) (e_18 rfl) rfl rfl rfl rfl rfl rfl (jm_Cheapest_put v9 a1 s10) rfl (fun s11 => ?_)
  exact jr_retV (e_18 rfl)

theorem e_38 {pc : Nat} {en : xa_I} (h : xlk pc xc_38 = some en) : xcd 38 pc = some en := h
noncomputable def fm_Search_fits (a1 : Int) (σ : xa_H) : Option (Int × xa_H) :=
  (fm_S_read 21 0 a1 σ).bind fun v1 =>
  xj (fun (v3 : Int) (s4 : xa_H) =>
    if (xand v3 (s4 3 0 9)) = 0 then
      some (1, s4)
    else
      some (0, s4)) fun K5 =>
  if v1 = (-1) then
    (fm_Search_lookAt a1 σ).bind fun v8 =>
    (fm_S_write 21 0 a1 v8 σ).bind fun s9 =>
    K5 v8 s9
  else
    K5 v1 σ
theorem jm_Search_fits (a1 : Int) (σ : xa_H) : J 38 0 [(0, xr 3 0), (1, xi a1)] [] σ jqW (fm_Search_fits a1 σ) := by
  unfold fm_Search_fits
  refine jr_aload_n (e_38 rfl) rfl rfl ?_
  refine jr_getr (K2 := 21) (i2 := 0) (e_38 rfl) rfl rfl rfl ?_
  refine jr_iload_n (e_38 rfl) rfl rfl ?_
  refine jr_callP (as := [xr 21 0, xi a1]) (S1 := []) (e_38 rfl) rfl rfl rfl rfl rfl rfl (jm_S_read 21 0 a1 σ rfl) rfl (fun v1 => ?_)
  refine jr_istore_n (L' := [(2, xi v1), (0, xr 3 0), (1, xi a1)]) (e_38 rfl) rfl rfl rfl ?_
  refine jr_iload_n (e_38 rfl) rfl rfl ?_
  refine jr_iconst (e_38 rfl) rfl ?_
  refine jr_j (fun K5 => ∀ (v3 : Int) (s4 : xa_H), J 38 29 [(0, xr 3 0), (2, xi v3)] [] s4 jqW (K5 v3 s4)) (fun v3 s4 => ?_) (fun K5 hK5 => ?_)
  · refine jr_iload_n (e_38 rfl) rfl rfl ?_
    refine jr_aload_n (e_38 rfl) rfl rfl ?_
    refine jr_geti (e_38 rfl) rfl (by decide +kernel) ?_
    refine jr_iand (e_38 rfl) rfl ?_
    refine jr_brx (c := (xand v3 (s4 3 0 9)) = 0) (pt := 42) (pn := 38) (e_38 rfl) rfl rfl (fun h6 => ?_) (fun h6 => ?_)
    · refine jr_iconst (e_38 rfl) rfl ?_
      refine jr_goto (pc' := 43) (e_38 rfl) rfl ?_
      exact jr_retWz (e_38 rfl) rfl rfl
    · refine jr_iconst (e_38 rfl) rfl ?_
      exact jr_retWz (e_38 rfl) rfl rfl
  · refine jr_brx (c := v1 = (-1)) (pt := 29) (pn := 14) (e_38 rfl) rfl rfl (fun h7 => ?_) (fun h7 => ?_)
    · refine jr_aload_n (e_38 rfl) rfl rfl ?_
      refine jr_iload_n (e_38 rfl) rfl rfl ?_
      refine jr_callP (as := [xr 3 0, xi a1]) (S1 := []) (e_38 rfl) rfl rfl rfl rfl rfl rfl (jm_Search_lookAt a1 σ) rfl (fun v8 => ?_)
      refine jr_istore_n (L' := [(2, xi v8), (0, xr 3 0), (1, xi a1)]) (e_38 rfl) rfl rfl rfl ?_
      refine jr_aload_n (e_38 rfl) rfl rfl ?_
      refine jr_getr (K2 := 21) (i2 := 0) (e_38 rfl) rfl rfl rfl ?_
      refine jr_iload_n (e_38 rfl) rfl rfl ?_
      refine jr_iload_n (e_38 rfl) rfl rfl ?_
      refine jr_callV (as := [xr 21 0, xi a1, xi v8]) (S1 := []) (e_38 rfl) rfl rfl rfl rfl rfl rfl (jm_S_write 21 0 a1 v8 σ rfl rfl) rfl (fun s9 => ?_)
      exact jr_sub (show ([2, 0, 1] : List Nat).Nodup from by decide) (xsb_c (List.Mem.tail _ (List.Mem.head _)) (xsb_c (List.Mem.head _) xsb_n)) (hK5 v8 s9)
    · exact jr_sub (show ([2, 0, 1] : List Nat).Nodup from by decide) (xsb_c (List.Mem.tail _ (List.Mem.head _)) (xsb_c (List.Mem.head _) xsb_n)) (hK5 v1 σ)

theorem e_14 {pc : Nat} {en : xa_I} (h : xlk pc xc_14 = some en) : xcd 14 pc = some en := h
noncomputable def fm_Cheapest_come (a1 : Int) (a2 : Int) (σ : xa_H) : Option (xa_H) :=
  (fm_S_read 14 0 a1 σ).bind fun v1 =>
  if v1 ≤ a2 then
    some σ
  else
    xb2 (fm_Search_fits a1 σ) fun v3 s4 =>
    if v3 = 0 then
      some s4
    else
      (fm_S_read 14 0 a1 s4).bind fun v6 =>
      xj (fun (s8 : xa_H) =>
        (fm_S_write 14 0 a1 a2 s8).bind fun s10 =>
        (fm_Cheapest_rise a1 s10).bind fun s11 =>
        some s11) fun K9 =>
      if v6 = 2147483647 then
        (fm_S_write 16 0 a1 (s4 1 0 5) s4).bind fun s13 =>
        xnm (xup s13 1 0 5 (w32 ((s13 1 0 5) + 1))) fun s14 =>
        K9 s14
      else
        K9 s4
theorem jm_Cheapest_come (a1 : Int) (a2 : Int) (σ : xa_H) : J 14 0 [(0, xr 1 0), (1, xi a1), (2, xi a2)] [] σ jqV (fm_Cheapest_come a1 a2 σ) := by
  unfold fm_Cheapest_come
  refine jr_iload_n (e_14 rfl) rfl rfl ?_
  refine jr_aload_n (e_14 rfl) rfl rfl ?_
  refine jr_getr (K2 := 14) (i2 := 0) (e_14 rfl) rfl rfl rfl ?_
  refine jr_iload_n (e_14 rfl) rfl rfl ?_
  refine jr_callP (as := [xr 14 0, xi a1]) (S1 := [xi a2]) (e_14 rfl) rfl rfl rfl rfl rfl rfl (jm_S_read 14 0 a1 σ rfl) rfl (fun v1 => ?_)
  refine jr_bri (c := v1 ≤ a2) (pt := 23) (pn := 12) (e_14 rfl) rfl rfl (fun h2 => ?_) (fun h2 => ?_)
  · exact jr_retV (e_14 rfl)
  · refine jr_aload_n (e_14 rfl) rfl rfl ?_
    refine jr_getr (K2 := 3) (i2 := 0) (e_14 rfl) rfl rfl rfl ?_
    refine jr_iload_n (e_14 rfl) rfl rfl ?_
    refine jr_callX (as := [xr 3 0, xi a1]) (S1 := []) (e_14 rfl) rfl rfl rfl rfl rfl rfl (jm_Search_fits a1 σ) rfl (fun v3 s4 => ?_)
    refine jr_brx (c := v3 = 0) (pt := 24) (pn := 23) (e_14 rfl) rfl rfl (fun h5 => ?_) (fun h5 => ?_)
    · exact jr_retV (e_14 rfl)
    · refine jr_aload_n (e_14 rfl) rfl rfl ?_
      refine jr_getr (K2 := 14) (i2 := 0) (e_14 rfl) rfl rfl rfl ?_
      refine jr_iload_n (e_14 rfl) rfl rfl ?_
      refine jr_callP (as := [xr 14 0, xi a1]) (S1 := []) (e_14 rfl) rfl rfl rfl rfl rfl rfl (jm_S_read 14 0 a1 s4 rfl) rfl (fun v6 => ?_)
      refine jr_ldc (a := 2147483647) (e_14 rfl) rfl rfl ?_
      refine jr_j (fun K9 => ∀ (s8 : xa_H), J 14 59 [(0, xr 1 0), (1, xi a1), (2, xi a2)] [] s8 jqV (K9 s8)) (fun s8 => ?_) (fun K9 hK9 => ?_)
      · refine jr_aload_n (e_14 rfl) rfl rfl ?_
        refine jr_getr (K2 := 14) (i2 := 0) (e_14 rfl) rfl rfl rfl ?_
        refine jr_iload_n (e_14 rfl) rfl rfl ?_
        refine jr_iload_n (e_14 rfl) rfl rfl ?_
        refine jr_callV (as := [xr 14 0, xi a1, xi a2]) (S1 := []) (e_14 rfl) rfl rfl rfl rfl rfl rfl (jm_S_write 14 0 a1 a2 s8 rfl rfl) rfl (fun s10 => ?_)
        refine jr_aload_n (e_14 rfl) rfl rfl ?_
        refine jr_iload_n (e_14 rfl) rfl rfl ?_
        refine jr_callV (as := [xr 1 0, xi a1]) (S1 := []) (e_14 rfl) rfl rfl rfl rfl rfl rfl (jm_Cheapest_rise a1 s10) rfl (fun s11 => ?_)
        exact jr_retV (e_14 rfl)
      · refine jr_brx (c := v6 = 2147483647) (pt := 59) (pn := 37) (e_14 rfl) rfl rfl (fun h12 => ?_) (fun h12 => ?_)
        · refine jr_aload_n (e_14 rfl) rfl rfl ?_
          refine jr_getr (K2 := 16) (i2 := 0) (e_14 rfl) rfl rfl rfl ?_
          refine jr_iload_n (e_14 rfl) rfl rfl ?_
          refine jr_aload_n (e_14 rfl) rfl rfl ?_
          refine jr_geti (e_14 rfl) rfl (by decide +kernel) ?_
          refine jr_callV (as := [xr 16 0, xi a1, xi (s4 1 0 5)]) (S1 := []) (e_14 rfl) rfl rfl rfl rfl rfl rfl (jm_S_write 16 0 a1 (s4 1 0 5) s4 rfl rfl) rfl (fun s13 => ?_)
          refine jr_aload_n (e_14 rfl) rfl rfl ?_
          refine jr_dup (e_14 rfl) rfl rfl ?_
          refine jr_geti (e_14 rfl) rfl (by decide +kernel) ?_
          refine jr_iconst (e_14 rfl) rfl ?_
          refine jr_iadd (e_14 rfl) rfl ?_
          refine jr_put (e_14 rfl) rfl rfl rfl ?_
          refine jr_nms (fun s14 => ?_)
          exact jr_sub (show ([0, 1, 2] : List Nat).Nodup from by decide) (xsb_c (List.Mem.head _) (xsb_c (List.Mem.tail _ (List.Mem.head _)) (xsb_c (List.Mem.tail _ (List.Mem.tail _ (List.Mem.head _))) xsb_n))) (hK9 s14)
        · exact jr_sub (show ([0, 1, 2] : List Nat).Nodup from by decide) (xsb_c (List.Mem.head _) (xsb_c (List.Mem.tail _ (List.Mem.head _)) (xsb_c (List.Mem.tail _ (List.Mem.tail _ (List.Mem.head _))) xsb_n))) (hK9 s4)
end
