section
-- ===== PART A: goes FIRST, ahead of the names: the tables' words, and 'selects' of the private methods out of them =====
/-- a private method of a class that the tables say can be made, by its rows of tables_1 -/
def lw_okq (q : MethodName × Nat) : Prop := (q.1.cls ≠ "java/lang/invoke/MethodHandle" ∧ q.1.cls ≠ "java/lang/invoke/VarHandle") ∧ Cond.instantiable q.1.cls q.2 ∈ tables_1 ∧ Cond.privateMethod q.1 ∈ tables_1 ∧ Cond.instanceMethod q.1 ∈ tables_1
theorem lw_p0 : lw_okq (⟨"GridMender", "sheetAt", "(I)LGridMender$Sheet;"⟩, 8) := ⟨⟨by decide +kernel, by decide +kernel⟩, List.mem_of_getElem? (i := 15) (by decide +kernel), List.mem_of_getElem? (i := 339) (by decide +kernel), List.mem_of_getElem? (i := 340) (by decide +kernel)⟩
theorem lw_p1 : lw_okq (⟨"GridMender", "found", "(I)I"⟩, 8) := ⟨⟨by decide +kernel, by decide +kernel⟩, List.mem_of_getElem? (i := 15) (by decide +kernel), List.mem_of_getElem? (i := 344) (by decide +kernel), List.mem_of_getElem? (i := 345) (by decide +kernel)⟩
theorem lw_p2 : lw_okq (⟨"GridMender$Placer", "refresh", "()V"⟩, 14) := ⟨⟨by decide +kernel, by decide +kernel⟩, List.mem_of_getElem? (i := 73) (by decide +kernel), List.mem_of_getElem? (i := 364) (by decide +kernel), List.mem_of_getElem? (i := 365) (by decide +kernel)⟩
theorem lw_p3 : lw_okq (⟨"GridMender$SeatTable", "addUnlessWide", "(I)V"⟩, 7) := ⟨⟨by decide +kernel, by decide +kernel⟩, List.mem_of_getElem? (i := 79) (by decide +kernel), List.mem_of_getElem? (i := 373) (by decide +kernel), List.mem_of_getElem? (i := 374) (by decide +kernel)⟩
theorem lw_p4 : lw_okq (⟨"GridMender$SeatTable", "joinSeats", "()V"⟩, 7) := ⟨⟨by decide +kernel, by decide +kernel⟩, List.mem_of_getElem? (i := 79) (by decide +kernel), List.mem_of_getElem? (i := 378) (by decide +kernel), List.mem_of_getElem? (i := 379) (by decide +kernel)⟩
theorem lw_p5 : lw_okq (⟨"GridMender$SeatTable", "areNear", "(II)Z"⟩, 7) := ⟨⟨by decide +kernel, by decide +kernel⟩, List.mem_of_getElem? (i := 79) (by decide +kernel), List.mem_of_getElem? (i := 382) (by decide +kernel), List.mem_of_getElem? (i := 383) (by decide +kernel)⟩
theorem lw_p6 : lw_okq (⟨"GridMender$Placer", "canPlaceBy", "(LGridMender$SeatTable;[J)Z"⟩, 14) := ⟨⟨by decide +kernel, by decide +kernel⟩, List.mem_of_getElem? (i := 73) (by decide +kernel), List.mem_of_getElem? (i := 386) (by decide +kernel), List.mem_of_getElem? (i := 387) (by decide +kernel)⟩
theorem lw_p7 : lw_okq (⟨"GridMender$Placer", "refreshMarks", "()V"⟩, 14) := ⟨⟨by decide +kernel, by decide +kernel⟩, List.mem_of_getElem? (i := 73) (by decide +kernel), List.mem_of_getElem? (i := 401) (by decide +kernel), List.mem_of_getElem? (i := 402) (by decide +kernel)⟩
theorem lw_p8 : lw_okq (⟨"GridMender$Placer", "markCritical", "()V"⟩, 14) := ⟨⟨by decide +kernel, by decide +kernel⟩, List.mem_of_getElem? (i := 73) (by decide +kernel), List.mem_of_getElem? (i := 406) (by decide +kernel), List.mem_of_getElem? (i := 407) (by decide +kernel)⟩
theorem lw_p9 : lw_okq (⟨"GridMender$Placer", "markWitness", "()V"⟩, 14) := ⟨⟨by decide +kernel, by decide +kernel⟩, List.mem_of_getElem? (i := 73) (by decide +kernel), List.mem_of_getElem? (i := 414) (by decide +kernel), List.mem_of_getElem? (i := 415) (by decide +kernel)⟩
theorem lw_p10 : lw_okq (⟨"GridMender$Placer", "markCore", "()V"⟩, 14) := ⟨⟨by decide +kernel, by decide +kernel⟩, List.mem_of_getElem? (i := 73) (by decide +kernel), List.mem_of_getElem? (i := 418) (by decide +kernel), List.mem_of_getElem? (i := 419) (by decide +kernel)⟩
theorem lw_p11 : lw_okq (⟨"GridMender$ChainFinder", "refresh", "()V"⟩, 9) := ⟨⟨by decide +kernel, by decide +kernel⟩, List.mem_of_getElem? (i := 153) (by decide +kernel), List.mem_of_getElem? (i := 433) (by decide +kernel), List.mem_of_getElem? (i := 434) (by decide +kernel)⟩
theorem lw_p12 : lw_okq (⟨"GridMender$ChainFinder", "takeKinds", "()V"⟩, 9) := ⟨⟨by decide +kernel, by decide +kernel⟩, List.mem_of_getElem? (i := 153) (by decide +kernel), List.mem_of_getElem? (i := 437) (by decide +kernel), List.mem_of_getElem? (i := 438) (by decide +kernel)⟩
theorem lw_p13 : lw_okq (⟨"GridMender$ChainFinder", "lastNodeOfNewChain", "()I"⟩, 9) := ⟨⟨by decide +kernel, by decide +kernel⟩, List.mem_of_getElem? (i := 153) (by decide +kernel), List.mem_of_getElem? (i := 450) (by decide +kernel), List.mem_of_getElem? (i := 451) (by decide +kernel)⟩
theorem lw_p14 : lw_okq (⟨"GridMender$ChainFinder", "reach", "(II)V"⟩, 9) := ⟨⟨by decide +kernel, by decide +kernel⟩, List.mem_of_getElem? (i := 153) (by decide +kernel), List.mem_of_getElem? (i := 454) (by decide +kernel), List.mem_of_getElem? (i := 455) (by decide +kernel)⟩
theorem lw_p15 : lw_okq (⟨"GridMender$ChainFinder", "goOnFromEntry", "(I)V"⟩, 9) := ⟨⟨by decide +kernel, by decide +kernel⟩, List.mem_of_getElem? (i := 153) (by decide +kernel), List.mem_of_getElem? (i := 458) (by decide +kernel), List.mem_of_getElem? (i := 459) (by decide +kernel)⟩
def lw_privs_1 : List (MethodName × Nat) := [(⟨"GridMender", "sheetAt", "(I)LGridMender$Sheet;"⟩, 8), (⟨"GridMender", "found", "(I)I"⟩, 8), (⟨"GridMender$Placer", "refresh", "()V"⟩, 14), (⟨"GridMender$SeatTable", "addUnlessWide", "(I)V"⟩, 7), (⟨"GridMender$SeatTable", "joinSeats", "()V"⟩, 7), (⟨"GridMender$SeatTable", "areNear", "(II)Z"⟩, 7), (⟨"GridMender$Placer", "canPlaceBy", "(LGridMender$SeatTable;[J)Z"⟩, 14), (⟨"GridMender$Placer", "refreshMarks", "()V"⟩, 14), (⟨"GridMender$Placer", "markCritical", "()V"⟩, 14), (⟨"GridMender$Placer", "markWitness", "()V"⟩, 14), (⟨"GridMender$Placer", "markCore", "()V"⟩, 14), (⟨"GridMender$ChainFinder", "refresh", "()V"⟩, 9), (⟨"GridMender$ChainFinder", "takeKinds", "()V"⟩, 9), (⟨"GridMender$ChainFinder", "lastNodeOfNewChain", "()I"⟩, 9), (⟨"GridMender$ChainFinder", "reach", "(II)V"⟩, 9), (⟨"GridMender$ChainFinder", "goOnFromEntry", "(I)V"⟩, 9)]
theorem lw_r1 : ∀ q ∈ lw_privs_1, lw_okq q := List.forall_mem_cons.mpr ⟨lw_p0, List.forall_mem_cons.mpr ⟨lw_p1, List.forall_mem_cons.mpr ⟨lw_p2, List.forall_mem_cons.mpr ⟨lw_p3, List.forall_mem_cons.mpr ⟨lw_p4, List.forall_mem_cons.mpr ⟨lw_p5, List.forall_mem_cons.mpr ⟨lw_p6, List.forall_mem_cons.mpr ⟨lw_p7, List.forall_mem_cons.mpr ⟨lw_p8, List.forall_mem_cons.mpr ⟨lw_p9, List.forall_mem_cons.mpr ⟨lw_p10, List.forall_mem_cons.mpr ⟨lw_p11, List.forall_mem_cons.mpr ⟨lw_p12, List.forall_mem_cons.mpr ⟨lw_p13, List.forall_mem_cons.mpr ⟨lw_p14, List.forall_mem_cons.mpr ⟨lw_p15, fun _ h => absurd h List.not_mem_nil⟩⟩⟩⟩⟩⟩⟩⟩⟩⟩⟩⟩⟩⟩⟩⟩
theorem lw_p16 : lw_okq (⟨"GridMender$ChainFinder", "goOnFromExit", "(I)V"⟩, 9) := ⟨⟨by decide +kernel, by decide +kernel⟩, List.mem_of_getElem? (i := 153) (by decide +kernel), List.mem_of_getElem? (i := 462) (by decide +kernel), List.mem_of_getElem? (i := 463) (by decide +kernel)⟩
theorem lw_p17 : lw_okq (⟨"GridMender$ChainFinder", "addChain", "(I)V"⟩, 9) := ⟨⟨by decide +kernel, by decide +kernel⟩, List.mem_of_getElem? (i := 153) (by decide +kernel), List.mem_of_getElem? (i := 466) (by decide +kernel), List.mem_of_getElem? (i := 467) (by decide +kernel)⟩
theorem lw_p18 : lw_okq (⟨"GridMender$ChainFinder", "cellsNotPassed", "()J"⟩, 9) := ⟨⟨by decide +kernel, by decide +kernel⟩, List.mem_of_getElem? (i := 153) (by decide +kernel), List.mem_of_getElem? (i := 470) (by decide +kernel), List.mem_of_getElem? (i := 471) (by decide +kernel)⟩
theorem lw_p19 : lw_okq (⟨"GridMender$Placer", "addMovesOfRow", "(II)V"⟩, 14) := ⟨⟨by decide +kernel, by decide +kernel⟩, List.mem_of_getElem? (i := 73) (by decide +kernel), List.mem_of_getElem? (i := 499) (by decide +kernel), List.mem_of_getElem? (i := 500) (by decide +kernel)⟩
theorem lw_p20 : lw_okq (⟨"GridMender$Placer", "movesTo", "(I)I"⟩, 14) := ⟨⟨by decide +kernel, by decide +kernel⟩, List.mem_of_getElem? (i := 73) (by decide +kernel), List.mem_of_getElem? (i := 506) (by decide +kernel), List.mem_of_getElem? (i := 507) (by decide +kernel)⟩
theorem lw_p21 : lw_okq (⟨"GridMender$Placer", "fewestBelow", "(II)I"⟩, 14) := ⟨⟨by decide +kernel, by decide +kernel⟩, List.mem_of_getElem? (i := 73) (by decide +kernel), List.mem_of_getElem? (i := 514) (by decide +kernel), List.mem_of_getElem? (i := 515) (by decide +kernel)⟩
theorem lw_p22 : lw_okq (⟨"GridMender$Placer", "cheapest", "(IJ)I"⟩, 14) := ⟨⟨by decide +kernel, by decide +kernel⟩, List.mem_of_getElem? (i := 73) (by decide +kernel), List.mem_of_getElem? (i := 522) (by decide +kernel), List.mem_of_getElem? (i := 523) (by decide +kernel)⟩
theorem lw_p23 : lw_okq (⟨"GridMender", "slotAt", "(I)LGridMender$Laying;"⟩, 8) := ⟨⟨by decide +kernel, by decide +kernel⟩, List.mem_of_getElem? (i := 15) (by decide +kernel), List.mem_of_getElem? (i := 631) (by decide +kernel), List.mem_of_getElem? (i := 632) (by decide +kernel)⟩
theorem lw_p24 : lw_okq (⟨"GridMender", "filledSlots", "()I"⟩, 8) := ⟨⟨by decide +kernel, by decide +kernel⟩, List.mem_of_getElem? (i := 15) (by decide +kernel), List.mem_of_getElem? (i := 640) (by decide +kernel), List.mem_of_getElem? (i := 641) (by decide +kernel)⟩
theorem lw_p25 : lw_okq (⟨"GridMenderModel", "finding", "(I)I"⟩, 33) := ⟨⟨by decide +kernel, by decide +kernel⟩, List.mem_of_getElem? (i := 734) (by decide +kernel), List.mem_of_getElem? (i := 853) (by decide +kernel), List.mem_of_getElem? (i := 854) (by decide +kernel)⟩
theorem lw_p26 : lw_okq (⟨"GridMenderModel", "lacks", "(III)I"⟩, 33) := ⟨⟨by decide +kernel, by decide +kernel⟩, List.mem_of_getElem? (i := 734) (by decide +kernel), List.mem_of_getElem? (i := 865) (by decide +kernel), List.mem_of_getElem? (i := 866) (by decide +kernel)⟩
theorem lw_p27 : lw_okq (⟨"GridMenderModel", "isCell", "(II)Z"⟩, 33) := ⟨⟨by decide +kernel, by decide +kernel⟩, List.mem_of_getElem? (i := 734) (by decide +kernel), List.mem_of_getElem? (i := 906) (by decide +kernel), List.mem_of_getElem? (i := 907) (by decide +kernel)⟩
theorem lw_p28 : lw_okq (⟨"GridMenderModel", "isRow", "(I)Z"⟩, 33) := ⟨⟨by decide +kernel, by decide +kernel⟩, List.mem_of_getElem? (i := 734) (by decide +kernel), List.mem_of_getElem? (i := 910) (by decide +kernel), List.mem_of_getElem? (i := 911) (by decide +kernel)⟩
theorem lw_p29 : lw_okq (⟨"GridMenderModel", "faulty", "()I"⟩, 33) := ⟨⟨by decide +kernel, by decide +kernel⟩, List.mem_of_getElem? (i := 734) (by decide +kernel), List.mem_of_getElem? (i := 914) (by decide +kernel), List.mem_of_getElem? (i := 915) (by decide +kernel)⟩
theorem lw_p30 : lw_okq (⟨"GridMenderModel", "becomes", "(IIZ)V"⟩, 33) := ⟨⟨by decide +kernel, by decide +kernel⟩, List.mem_of_getElem? (i := 734) (by decide +kernel), List.mem_of_getElem? (i := 930) (by decide +kernel), List.mem_of_getElem? (i := 931) (by decide +kernel)⟩
theorem lw_p31 : lw_okq (⟨"GridMenderModel", "seatsNow", "()V"⟩, 33) := ⟨⟨by decide +kernel, by decide +kernel⟩, List.mem_of_getElem? (i := 734) (by decide +kernel), List.mem_of_getElem? (i := 942) (by decide +kernel), List.mem_of_getElem? (i := 943) (by decide +kernel)⟩
def lw_privs_2 : List (MethodName × Nat) := [(⟨"GridMender$ChainFinder", "goOnFromExit", "(I)V"⟩, 9), (⟨"GridMender$ChainFinder", "addChain", "(I)V"⟩, 9), (⟨"GridMender$ChainFinder", "cellsNotPassed", "()J"⟩, 9), (⟨"GridMender$Placer", "addMovesOfRow", "(II)V"⟩, 14), (⟨"GridMender$Placer", "movesTo", "(I)I"⟩, 14), (⟨"GridMender$Placer", "fewestBelow", "(II)I"⟩, 14), (⟨"GridMender$Placer", "cheapest", "(IJ)I"⟩, 14), (⟨"GridMender", "slotAt", "(I)LGridMender$Laying;"⟩, 8), (⟨"GridMender", "filledSlots", "()I"⟩, 8), (⟨"GridMenderModel", "finding", "(I)I"⟩, 33), (⟨"GridMenderModel", "lacks", "(III)I"⟩, 33), (⟨"GridMenderModel", "isCell", "(II)Z"⟩, 33), (⟨"GridMenderModel", "isRow", "(I)Z"⟩, 33), (⟨"GridMenderModel", "faulty", "()I"⟩, 33), (⟨"GridMenderModel", "becomes", "(IIZ)V"⟩, 33), (⟨"GridMenderModel", "seatsNow", "()V"⟩, 33)]
theorem lw_r2 : ∀ q ∈ lw_privs_2, lw_okq q := List.forall_mem_cons.mpr ⟨lw_p16, List.forall_mem_cons.mpr ⟨lw_p17, List.forall_mem_cons.mpr ⟨lw_p18, List.forall_mem_cons.mpr ⟨lw_p19, List.forall_mem_cons.mpr ⟨lw_p20, List.forall_mem_cons.mpr ⟨lw_p21, List.forall_mem_cons.mpr ⟨lw_p22, List.forall_mem_cons.mpr ⟨lw_p23, List.forall_mem_cons.mpr ⟨lw_p24, List.forall_mem_cons.mpr ⟨lw_p25, List.forall_mem_cons.mpr ⟨lw_p26, List.forall_mem_cons.mpr ⟨lw_p27, List.forall_mem_cons.mpr ⟨lw_p28, List.forall_mem_cons.mpr ⟨lw_p29, List.forall_mem_cons.mpr ⟨lw_p30, List.forall_mem_cons.mpr ⟨lw_p31, fun _ h => absurd h List.not_mem_nil⟩⟩⟩⟩⟩⟩⟩⟩⟩⟩⟩⟩⟩⟩⟩⟩
theorem lw_p32 : lw_okq (⟨"GridMenderModel", "seatsOf", "(II)V"⟩, 33) := ⟨⟨by decide +kernel, by decide +kernel⟩, List.mem_of_getElem? (i := 734) (by decide +kernel), List.mem_of_getElem? (i := 946) (by decide +kernel), List.mem_of_getElem? (i := 947) (by decide +kernel)⟩
theorem lw_p33 : lw_okq (⟨"GridMenderModel", "isWholeNow", "()Z"⟩, 33) := ⟨⟨by decide +kernel, by decide +kernel⟩, List.mem_of_getElem? (i := 734) (by decide +kernel), List.mem_of_getElem? (i := 956) (by decide +kernel), List.mem_of_getElem? (i := 957) (by decide +kernel)⟩
theorem lw_p34 : lw_okq (⟨"GridMenderModel", "isWhole", "(II)Z"⟩, 33) := ⟨⟨by decide +kernel, by decide +kernel⟩, List.mem_of_getElem? (i := 734) (by decide +kernel), List.mem_of_getElem? (i := 960) (by decide +kernel), List.mem_of_getElem? (i := 961) (by decide +kernel)⟩
theorem lw_p35 : lw_okq (⟨"GridMenderModel", "fits", "(II)Z"⟩, 33) := ⟨⟨by decide +kernel, by decide +kernel⟩, List.mem_of_getElem? (i := 734) (by decide +kernel), List.mem_of_getElem? (i := 964) (by decide +kernel), List.mem_of_getElem? (i := 965) (by decide +kernel)⟩
theorem lw_p36 : lw_okq (⟨"GridMenderModel", "fewest", "()I"⟩, 33) := ⟨⟨by decide +kernel, by decide +kernel⟩, List.mem_of_getElem? (i := 734) (by decide +kernel), List.mem_of_getElem? (i := 972) (by decide +kernel), List.mem_of_getElem? (i := 973) (by decide +kernel)⟩
theorem lw_p37 : lw_okq (⟨"GridMenderModel", "movesTo", "(II)I"⟩, 33) := ⟨⟨by decide +kernel, by decide +kernel⟩, List.mem_of_getElem? (i := 734) (by decide +kernel), List.mem_of_getElem? (i := 977) (by decide +kernel), List.mem_of_getElem? (i := 978) (by decide +kernel)⟩
theorem lw_p38 : lw_okq (⟨"GridMenderModel", "columnNow", "(II)I"⟩, 33) := ⟨⟨by decide +kernel, by decide +kernel⟩, List.mem_of_getElem? (i := 734) (by decide +kernel), List.mem_of_getElem? (i := 981) (by decide +kernel), List.mem_of_getElem? (i := 982) (by decide +kernel)⟩
theorem lw_p39 : lw_okq (⟨"GridMenderModel", "chooses", "(I)V"⟩, 33) := ⟨⟨by decide +kernel, by decide +kernel⟩, List.mem_of_getElem? (i := 734) (by decide +kernel), List.mem_of_getElem? (i := 985) (by decide +kernel), List.mem_of_getElem? (i := 986) (by decide +kernel)⟩
theorem lw_p40 : lw_okq (⟨"GridMenderModel", "movesNow", "()I"⟩, 33) := ⟨⟨by decide +kernel, by decide +kernel⟩, List.mem_of_getElem? (i := 734) (by decide +kernel), List.mem_of_getElem? (i := 993) (by decide +kernel), List.mem_of_getElem? (i := 994) (by decide +kernel)⟩
theorem lw_p41 : lw_okq (⟨"GridMenderModel", "columnBy", "(II)I"⟩, 33) := ⟨⟨by decide +kernel, by decide +kernel⟩, List.mem_of_getElem? (i := 734) (by decide +kernel), List.mem_of_getElem? (i := 1005) (by decide +kernel), List.mem_of_getElem? (i := 1006) (by decide +kernel)⟩
theorem lw_p42 : lw_okq (⟨"GridMenderModel", "seatsBy", "(I)I"⟩, 33) := ⟨⟨by decide +kernel, by decide +kernel⟩, List.mem_of_getElem? (i := 734) (by decide +kernel), List.mem_of_getElem? (i := 1013) (by decide +kernel), List.mem_of_getElem? (i := 1014) (by decide +kernel)⟩
theorem lw_p43 : lw_okq (⟨"GridMenderModel", "brokenNow", "()I"⟩, 33) := ⟨⟨by decide +kernel, by decide +kernel⟩, List.mem_of_getElem? (i := 734) (by decide +kernel), List.mem_of_getElem? (i := 1021) (by decide +kernel), List.mem_of_getElem? (i := 1022) (by decide +kernel)⟩
theorem lw_p44 : lw_okq (⟨"GridMenderModel", "witnessBy", "(I)I"⟩, 33) := ⟨⟨by decide +kernel, by decide +kernel⟩, List.mem_of_getElem? (i := 734) (by decide +kernel), List.mem_of_getElem? (i := 1032) (by decide +kernel), List.mem_of_getElem? (i := 1033) (by decide +kernel)⟩
theorem lw_p45 : lw_okq (⟨"GridMenderModel", "coreNow", "()J"⟩, 33) := ⟨⟨by decide +kernel, by decide +kernel⟩, List.mem_of_getElem? (i := 734) (by decide +kernel), List.mem_of_getElem? (i := 1040) (by decide +kernel), List.mem_of_getElem? (i := 1041) (by decide +kernel)⟩
theorem lw_p46 : lw_okq (⟨"GridMenderModel", "criticalNow", "()J"⟩, 33) := ⟨⟨by decide +kernel, by decide +kernel⟩, List.mem_of_getElem? (i := 734) (by decide +kernel), List.mem_of_getElem? (i := 1048) (by decide +kernel), List.mem_of_getElem? (i := 1049) (by decide +kernel)⟩
theorem lw_p47 : lw_okq (⟨"GridMenderModel", "leastBy", "(I)I"⟩, 33) := ⟨⟨by decide +kernel, by decide +kernel⟩, List.mem_of_getElem? (i := 734) (by decide +kernel), List.mem_of_getElem? (i := 1056) (by decide +kernel), List.mem_of_getElem? (i := 1057) (by decide +kernel)⟩
def lw_privs_3 : List (MethodName × Nat) := [(⟨"GridMenderModel", "seatsOf", "(II)V"⟩, 33), (⟨"GridMenderModel", "isWholeNow", "()Z"⟩, 33), (⟨"GridMenderModel", "isWhole", "(II)Z"⟩, 33), (⟨"GridMenderModel", "fits", "(II)Z"⟩, 33), (⟨"GridMenderModel", "fewest", "()I"⟩, 33), (⟨"GridMenderModel", "movesTo", "(II)I"⟩, 33), (⟨"GridMenderModel", "columnNow", "(II)I"⟩, 33), (⟨"GridMenderModel", "chooses", "(I)V"⟩, 33), (⟨"GridMenderModel", "movesNow", "()I"⟩, 33), (⟨"GridMenderModel", "columnBy", "(II)I"⟩, 33), (⟨"GridMenderModel", "seatsBy", "(I)I"⟩, 33), (⟨"GridMenderModel", "brokenNow", "()I"⟩, 33), (⟨"GridMenderModel", "witnessBy", "(I)I"⟩, 33), (⟨"GridMenderModel", "coreNow", "()J"⟩, 33), (⟨"GridMenderModel", "criticalNow", "()J"⟩, 33), (⟨"GridMenderModel", "leastBy", "(I)I"⟩, 33)]
theorem lw_r3 : ∀ q ∈ lw_privs_3, lw_okq q := List.forall_mem_cons.mpr ⟨lw_p32, List.forall_mem_cons.mpr ⟨lw_p33, List.forall_mem_cons.mpr ⟨lw_p34, List.forall_mem_cons.mpr ⟨lw_p35, List.forall_mem_cons.mpr ⟨lw_p36, List.forall_mem_cons.mpr ⟨lw_p37, List.forall_mem_cons.mpr ⟨lw_p38, List.forall_mem_cons.mpr ⟨lw_p39, List.forall_mem_cons.mpr ⟨lw_p40, List.forall_mem_cons.mpr ⟨lw_p41, List.forall_mem_cons.mpr ⟨lw_p42, List.forall_mem_cons.mpr ⟨lw_p43, List.forall_mem_cons.mpr ⟨lw_p44, List.forall_mem_cons.mpr ⟨lw_p45, List.forall_mem_cons.mpr ⟨lw_p46, List.forall_mem_cons.mpr ⟨lw_p47, fun _ h => absurd h List.not_mem_nil⟩⟩⟩⟩⟩⟩⟩⟩⟩⟩⟩⟩⟩⟩⟩⟩
theorem lw_p48 : lw_okq (⟨"GridMenderModel", "chainsNow", "()I"⟩, 33) := ⟨⟨by decide +kernel, by decide +kernel⟩, List.mem_of_getElem? (i := 734) (by decide +kernel), List.mem_of_getElem? (i := 1064) (by decide +kernel), List.mem_of_getElem? (i := 1065) (by decide +kernel)⟩
theorem lw_p49 : lw_okq (⟨"GridMenderModel", "finds", "()I"⟩, 33) := ⟨⟨by decide +kernel, by decide +kernel⟩, List.mem_of_getElem? (i := 734) (by decide +kernel), List.mem_of_getElem? (i := 1068) (by decide +kernel), List.mem_of_getElem? (i := 1069) (by decide +kernel)⟩
theorem lw_p50 : lw_okq (⟨"GridMenderModel", "isBad", "(I)Z"⟩, 33) := ⟨⟨by decide +kernel, by decide +kernel⟩, List.mem_of_getElem? (i := 734) (by decide +kernel), List.mem_of_getElem? (i := 1072) (by decide +kernel), List.mem_of_getElem? (i := 1073) (by decide +kernel)⟩
theorem lw_p51 : lw_okq (⟨"GridMenderModel", "reaches", "(II)V"⟩, 33) := ⟨⟨by decide +kernel, by decide +kernel⟩, List.mem_of_getElem? (i := 734) (by decide +kernel), List.mem_of_getElem? (i := 1076) (by decide +kernel), List.mem_of_getElem? (i := 1077) (by decide +kernel)⟩
theorem lw_p52 : lw_okq (⟨"GridMenderModel", "isOut", "(I)Z"⟩, 33) := ⟨⟨by decide +kernel, by decide +kernel⟩, List.mem_of_getElem? (i := 734) (by decide +kernel), List.mem_of_getElem? (i := 1080) (by decide +kernel), List.mem_of_getElem? (i := 1081) (by decide +kernel)⟩
theorem lw_p53 : lw_okq (⟨"GridMenderModel", "goesOn", "(I)V"⟩, 33) := ⟨⟨by decide +kernel, by decide +kernel⟩, List.mem_of_getElem? (i := 734) (by decide +kernel), List.mem_of_getElem? (i := 1084) (by decide +kernel), List.mem_of_getElem? (i := 1085) (by decide +kernel)⟩
theorem lw_p54 : lw_okq (⟨"GridMenderModel", "beside", "(II)I"⟩, 33) := ⟨⟨by decide +kernel, by decide +kernel⟩, List.mem_of_getElem? (i := 734) (by decide +kernel), List.mem_of_getElem? (i := 1088) (by decide +kernel), List.mem_of_getElem? (i := 1089) (by decide +kernel)⟩
theorem lw_p55 : lw_okq (⟨"GridMenderModel", "turns", "(II)V"⟩, 33) := ⟨⟨by decide +kernel, by decide +kernel⟩, List.mem_of_getElem? (i := 734) (by decide +kernel), List.mem_of_getElem? (i := 1092) (by decide +kernel), List.mem_of_getElem? (i := 1093) (by decide +kernel)⟩
theorem lw_p56 : lw_okq (⟨"GridMenderModel", "cutNow", "()J"⟩, 33) := ⟨⟨by decide +kernel, by decide +kernel⟩, List.mem_of_getElem? (i := 734) (by decide +kernel), List.mem_of_getElem? (i := 1100) (by decide +kernel), List.mem_of_getElem? (i := 1101) (by decide +kernel)⟩
theorem lw_p57 : lw_okq (⟨"GridMenderModel", "cellBy", "(IIJ)I"⟩, 33) := ⟨⟨by decide +kernel, by decide +kernel⟩, List.mem_of_getElem? (i := 734) (by decide +kernel), List.mem_of_getElem? (i := 1109) (by decide +kernel), List.mem_of_getElem? (i := 1110) (by decide +kernel)⟩
theorem lw_p58 : lw_okq (⟨"GridMenderModel", "taskAt", "(II)I"⟩, 33) := ⟨⟨by decide +kernel, by decide +kernel⟩, List.mem_of_getElem? (i := 734) (by decide +kernel), List.mem_of_getElem? (i := 1113) (by decide +kernel), List.mem_of_getElem? (i := 1114) (by decide +kernel)⟩
theorem lw_p59 : lw_okq (⟨"GridMenderModel", "lacksSlot", "(I)I"⟩, 33) := ⟨⟨by decide +kernel, by decide +kernel⟩, List.mem_of_getElem? (i := 734) (by decide +kernel), List.mem_of_getElem? (i := 1129) (by decide +kernel), List.mem_of_getElem? (i := 1130) (by decide +kernel)⟩
theorem lw_p60 : lw_okq (⟨"GridMenderModel", "countBy", "(I)I"⟩, 33) := ⟨⟨by decide +kernel, by decide +kernel⟩, List.mem_of_getElem? (i := 734) (by decide +kernel), List.mem_of_getElem? (i := 1149) (by decide +kernel), List.mem_of_getElem? (i := 1150) (by decide +kernel)⟩
theorem lw_p61 : lw_okq (⟨"GridMenderModel", "allSeats", "()I"⟩, 33) := ⟨⟨by decide +kernel, by decide +kernel⟩, List.mem_of_getElem? (i := 734) (by decide +kernel), List.mem_of_getElem? (i := 1153) (by decide +kernel), List.mem_of_getElem? (i := 1154) (by decide +kernel)⟩
def lw_privs_4 : List (MethodName × Nat) := [(⟨"GridMenderModel", "chainsNow", "()I"⟩, 33), (⟨"GridMenderModel", "finds", "()I"⟩, 33), (⟨"GridMenderModel", "isBad", "(I)Z"⟩, 33), (⟨"GridMenderModel", "reaches", "(II)V"⟩, 33), (⟨"GridMenderModel", "isOut", "(I)Z"⟩, 33), (⟨"GridMenderModel", "goesOn", "(I)V"⟩, 33), (⟨"GridMenderModel", "beside", "(II)I"⟩, 33), (⟨"GridMenderModel", "turns", "(II)V"⟩, 33), (⟨"GridMenderModel", "cutNow", "()J"⟩, 33), (⟨"GridMenderModel", "cellBy", "(IIJ)I"⟩, 33), (⟨"GridMenderModel", "taskAt", "(II)I"⟩, 33), (⟨"GridMenderModel", "lacksSlot", "(I)I"⟩, 33), (⟨"GridMenderModel", "countBy", "(I)I"⟩, 33), (⟨"GridMenderModel", "allSeats", "()I"⟩, 33)]
theorem lw_r4 : ∀ q ∈ lw_privs_4, lw_okq q := List.forall_mem_cons.mpr ⟨lw_p48, List.forall_mem_cons.mpr ⟨lw_p49, List.forall_mem_cons.mpr ⟨lw_p50, List.forall_mem_cons.mpr ⟨lw_p51, List.forall_mem_cons.mpr ⟨lw_p52, List.forall_mem_cons.mpr ⟨lw_p53, List.forall_mem_cons.mpr ⟨lw_p54, List.forall_mem_cons.mpr ⟨lw_p55, List.forall_mem_cons.mpr ⟨lw_p56, List.forall_mem_cons.mpr ⟨lw_p57, List.forall_mem_cons.mpr ⟨lw_p58, List.forall_mem_cons.mpr ⟨lw_p59, List.forall_mem_cons.mpr ⟨lw_p60, List.forall_mem_cons.mpr ⟨lw_p61, fun _ h => absurd h List.not_mem_nil⟩⟩⟩⟩⟩⟩⟩⟩⟩⟩⟩⟩⟩⟩
def lw_privs : List (MethodName × Nat) := lw_privs_1 ++ (lw_privs_2 ++ (lw_privs_3 ++ (lw_privs_4)))
def lw_tbl : List Cond := k2_sels lw_privs ++ tables_1
theorem lw_privs_ok : ∀ q ∈ lw_privs, lw_okq q := by
  show ∀ q ∈ lw_privs_1 ++ (lw_privs_2 ++ (lw_privs_3 ++ (lw_privs_4))), lw_okq q
  exact List.forall_mem_append.mpr ⟨lw_r1, List.forall_mem_append.mpr ⟨lw_r2, List.forall_mem_append.mpr ⟨lw_r3, lw_r4⟩⟩⟩
end
section
def RX0 : String := "GridMender$Board"
def TX0 : u_T := fun k => match k with
  | 0 => ("GridMender$Board", "height", "I", false)
  | 1 => ("GridMender$Board", "width", "I", false)
  | 2 => ("GridMender$Board", "wish", "I", false)
  | 3 => ("GridMender$Board", "length", "I", false)
  | 4 => ("GridMender$Board", "sides", "I", false)
  | 5 => ("GridMender$Board", "version", "I", false)
  | _ => ("GridMender$Board", "faulty", "[I", true)
def tyX0 : Nat → FieldType := fun k => match k with
  | 0 => .int
  | 1 => .int
  | 2 => .int
  | 3 => .int
  | 4 => .int
  | 5 => .int
  | _ => .array .int
abbrev wsX00 : List Cond := u_ws RX0 TX0 7
theorem nmX0 : ∀ a, a < 7 → ∀ b, b < 7 → a ≠ b → (TX0 a).2.1 ≠ (TX0 b).2.1 := by decide +kernel
theorem tyX0_ok : ∀ k, k < 7 → parseFieldDescriptor (TX0 k).2.2.1 = some (tyX0 k) := by decide +kernel
abbrev cX0_init : ByteArray := prog_2_method_1_code
def yX0_init : MethodName := ⟨RX0, "<init>", "()V"⟩
abbrev cX0_resize : ByteArray := prog_2_method_2_code
def yX0_resize : MethodName := ⟨RX0, "resize", "(II)V"⟩
abbrev cX0_changeWish : ByteArray := prog_2_method_3_code
def yX0_changeWish : MethodName := ⟨RX0, "changeWish", "(I)V"⟩
abbrev cX0_changeLength : ByteArray := prog_2_method_4_code
def yX0_changeLength : MethodName := ⟨RX0, "changeLength", "(I)V"⟩
abbrev cX0_changeSides : ByteArray := prog_2_method_5_code
def yX0_changeSides : MethodName := ⟨RX0, "changeSides", "(I)V"⟩
abbrev cX0_changeRow : ByteArray := prog_2_method_6_code
def yX0_changeRow : MethodName := ⟨RX0, "changeRow", "(II)V"⟩
abbrev cX0_hasRow : ByteArray := prog_2_method_7_code
def yX0_hasRow : MethodName := ⟨RX0, "hasRow", "(I)Z"⟩
abbrev cX0_hasCell : ByteArray := prog_2_method_8_code
def yX0_hasCell : MethodName := ⟨RX0, "hasCell", "(II)Z"⟩
abbrev cX0_isAtOpenSide : ByteArray := prog_2_method_9_code
def yX0_isAtOpenSide : MethodName := ⟨RX0, "isAtOpenSide", "(II)Z"⟩
abbrev cX0_numberOf : ByteArray := prog_2_method_10_code
def yX0_numberOf : MethodName := ⟨RX0, "numberOf", "(II)I"⟩
abbrev cX0_cellCount : ByteArray := prog_2_method_11_code
def yX0_cellCount : MethodName := ⟨RX0, "cellCount", "()I"⟩
abbrev cX0_faultyCount : ByteArray := prog_2_method_12_code
def yX0_faultyCount : MethodName := ⟨RX0, "faultyCount", "()I"⟩
def RX1 : String := "GridMender$ChainFinder"
def TX1 : u_T := fun k => match k with
  | 0 => ("GridMender$ChainFinder", "board", "LGridMender$Board;", true)
  | 1 => ("GridMender$ChainFinder", "kinds", "[I", true)
  | 2 => ("GridMender$ChainFinder", "before", "[I", true)
  | 3 => ("GridMender$ChainFinder", "cameFrom", "[I", true)
  | 4 => ("GridMender$ChainFinder", "queue", "[I", true)
  | 5 => ("GridMender$ChainFinder", "queued", "I", false)
  | 6 => ("GridMender$ChainFinder", "version", "I", false)
  | 7 => ("GridMender$ChainFinder", "found", "I", false)
  | _ => ("GridMender$ChainFinder", "stopping", "J", false)
def tyX1 : Nat → FieldType := fun k => match k with
  | 0 => .object "GridMender$Board"
  | 1 => .array .int
  | 2 => .array .int
  | 3 => .array .int
  | 4 => .array .int
  | 5 => .int
  | 6 => .int
  | 7 => .int
  | _ => .long
abbrev wsX10 : List Cond := u_ws RX1 TX1 9
theorem nmX1 : ∀ a, a < 9 → ∀ b, b < 9 → a ≠ b → (TX1 a).2.1 ≠ (TX1 b).2.1 := by decide +kernel
theorem tyX1_ok : ∀ k, k < 9 → parseFieldDescriptor (TX1 k).2.2.1 = some (tyX1 k) := by decide +kernel
abbrev cX1_init : ByteArray := prog_3_method_1_code
def yX1_init : MethodName := ⟨RX1, "<init>", "(LGridMender$Board;)V"⟩
abbrev cX1_chainCount : ByteArray := prog_3_method_2_code
def yX1_chainCount : MethodName := ⟨RX1, "chainCount", "()I"⟩
abbrev cX1_stoppingCells : ByteArray := prog_3_method_3_code
def yX1_stoppingCells : MethodName := ⟨RX1, "stoppingCells", "()J"⟩
abbrev cX1_refresh : ByteArray := prog_3_method_4_code
def yX1_refresh : MethodName := ⟨RX1, "refresh", "()V"⟩
abbrev cX1_takeKinds : ByteArray := prog_3_method_5_code
def yX1_takeKinds : MethodName := ⟨RX1, "takeKinds", "()V"⟩
abbrev cX1_lastNodeOfNewChain : ByteArray := prog_3_method_6_code
def yX1_lastNodeOfNewChain : MethodName := ⟨RX1, "lastNodeOfNewChain", "()I"⟩
abbrev cX1_goOnFromEntry : ByteArray := prog_3_method_7_code
def yX1_goOnFromEntry : MethodName := ⟨RX1, "goOnFromEntry", "(I)V"⟩
abbrev cX1_goOnFromExit : ByteArray := prog_3_method_8_code
def yX1_goOnFromExit : MethodName := ⟨RX1, "goOnFromExit", "(I)V"⟩
abbrev cX1_reach : ByteArray := prog_3_method_9_code
def yX1_reach : MethodName := ⟨RX1, "reach", "(II)V"⟩
abbrev cX1_addChain : ByteArray := prog_3_method_10_code
def yX1_addChain : MethodName := ⟨RX1, "addChain", "(I)V"⟩
abbrev cX1_cellsNotPassed : ByteArray := prog_3_method_11_code
def yX1_cellsNotPassed : MethodName := ⟨RX1, "cellsNotPassed", "()J"⟩
abbrev cX1_placeOf : ByteArray := prog_3_method_12_code
def yX1_placeOf : MethodName := ⟨RX1, "placeOf", "(II)I"⟩
def RX2 : String := "GridMender$Laying"
def TX2 : u_T := fun k => match k with
  | 0 => ("GridMender$Laying", "present", "Z", false)
  | 1 => ("GridMender$Laying", "height", "I", false)
  | 2 => ("GridMender$Laying", "width", "I", false)
  | 3 => ("GridMender$Laying", "wish", "I", false)
  | _ => ("GridMender$Laying", "seats", "[I", true)
def tyX2 : Nat → FieldType := fun k => match k with
  | 0 => .boolean
  | 1 => .int
  | 2 => .int
  | 3 => .int
  | _ => .array .int
abbrev wsX20 : List Cond := u_ws RX2 TX2 5
theorem nmX2 : ∀ a, a < 5 → ∀ b, b < 5 → a ≠ b → (TX2 a).2.1 ≠ (TX2 b).2.1 := by decide +kernel
theorem tyX2_ok : ∀ k, k < 5 → parseFieldDescriptor (TX2 k).2.2.1 = some (tyX2 k) := by decide +kernel
abbrev cX2_init : ByteArray := prog_4_method_1_code
def yX2_init : MethodName := ⟨RX2, "<init>", "()V"⟩
abbrev cX2_become : ByteArray := prog_4_method_2_code
def yX2_become : MethodName := ⟨RX2, "become", "(LGridMender$Laying;)V"⟩
abbrev cX2_beginOn : ByteArray := prog_4_method_3_code
def yX2_beginOn : MethodName := ⟨RX2, "beginOn", "(LGridMender$Board;)V"⟩
abbrev cX2_suits : ByteArray := prog_4_method_4_code
def yX2_suits : MethodName := ⟨RX2, "suits", "(LGridMender$Board;)Z"⟩
abbrev cX2_seatOrFirst : ByteArray := prog_4_method_5_code
def yX2_seatOrFirst : MethodName := ⟨RX2, "seatOrFirst", "(II)I"⟩
abbrev cX2_brokenOn : ByteArray := prog_4_method_6_code
def yX2_brokenOn : MethodName := ⟨RX2, "brokenOn", "(LGridMender$Board;)I"⟩
abbrev cX2_wideGaps : ByteArray := prog_4_method_7_code
def yX2_wideGaps : MethodName := ⟨RX2, "wideGaps", "(ILGridMender$Board;)I"⟩
abbrev cX2_farTasks : ByteArray := prog_4_method_8_code
def yX2_farTasks : MethodName := ⟨RX2, "farTasks", "(IILGridMender$Board;)I"⟩
def RX3 : String := "GridMender$Placer"
def TX3 : u_T := fun k => match k with
  | 0 => ("GridMender$Placer", "board", "LGridMender$Board;", true)
  | 1 => ("GridMender$Placer", "table", "LGridMender$SeatTable;", true)
  | 2 => ("GridMender$Placer", "rowSeats", "[J", true)
  | 3 => ("GridMender$Placer", "trialTable", "LGridMender$SeatTable;", true)
  | 4 => ("GridMender$Placer", "trialSeats", "[J", true)
  | 5 => ("GridMender$Placer", "coreRows", "[I", true)
  | 6 => ("GridMender$Placer", "criticalRows", "[I", true)
  | 7 => ("GridMender$Placer", "moves", "[I", true)
  | 8 => ("GridMender$Placer", "columnsNow", "[I", true)
  | 9 => ("GridMender$Placer", "whole", "Z", false)
  | 10 => ("GridMender$Placer", "witnessFirst", "I", false)
  | 11 => ("GridMender$Placer", "witnessLast", "I", false)
  | 12 => ("GridMender$Placer", "wholeVersion", "I", false)
  | _ => ("GridMender$Placer", "marksVersion", "I", false)
def tyX3 : Nat → FieldType := fun k => match k with
  | 0 => .object "GridMender$Board"
  | 1 => .object "GridMender$SeatTable"
  | 2 => .array .long
  | 3 => .object "GridMender$SeatTable"
  | 4 => .array .long
  | 5 => .array .int
  | 6 => .array .int
  | 7 => .array .int
  | 8 => .array .int
  | 9 => .boolean
  | 10 => .int
  | 11 => .int
  | 12 => .int
  | _ => .int
abbrev wsX30 : List Cond := u_ws RX3 TX3 14
theorem nmX3 : ∀ a, a < 14 → ∀ b, b < 14 → a ≠ b → (TX3 a).2.1 ≠ (TX3 b).2.1 := by decide +kernel
theorem tyX3_ok : ∀ k, k < 14 → parseFieldDescriptor (TX3 k).2.2.1 = some (tyX3 k) := by decide +kernel
abbrev cX3_init : ByteArray := prog_5_method_1_code
def yX3_init : MethodName := ⟨RX3, "<init>", "(LGridMender$Board;)V"⟩
abbrev cX3_refresh : ByteArray := prog_5_method_2_code
def yX3_refresh : MethodName := ⟨RX3, "refresh", "()V"⟩
abbrev cX3_canPlaceBy : ByteArray := prog_5_method_3_code
def yX3_canPlaceBy : MethodName := ⟨RX3, "canPlaceBy", "(LGridMender$SeatTable;[J)Z"⟩
abbrev cX3_canPlace : ByteArray := prog_5_method_4_code
def yX3_canPlace : MethodName := ⟨RX3, "canPlace", "(LGridMender$SeatTable;[JII)Z"⟩
abbrev cX3_isWhole : ByteArray := prog_5_method_5_code
def yX3_isWhole : MethodName := ⟨RX3, "isWhole", "()Z"⟩
abbrev cX3_seatsOfRow : ByteArray := prog_5_method_6_code
def yX3_seatsOfRow : MethodName := ⟨RX3, "seatsOfRow", "(I)I"⟩
abbrev cX3_seatsOfAllRows : ByteArray := prog_5_method_7_code
def yX3_seatsOfAllRows : MethodName := ⟨RX3, "seatsOfAllRows", "()I"⟩
abbrev cX3_firstRowOfWitness : ByteArray := prog_5_method_8_code
def yX3_firstRowOfWitness : MethodName := ⟨RX3, "firstRowOfWitness", "()I"⟩
abbrev cX3_lastRowOfWitness : ByteArray := prog_5_method_9_code
def yX3_lastRowOfWitness : MethodName := ⟨RX3, "lastRowOfWitness", "()I"⟩
abbrev cX3_coreOfRow : ByteArray := prog_5_method_10_code
def yX3_coreOfRow : MethodName := ⟨RX3, "coreOfRow", "(I)I"⟩
abbrev cX3_criticalOfRow : ByteArray := prog_5_method_11_code
def yX3_criticalOfRow : MethodName := ⟨RX3, "criticalOfRow", "(I)I"⟩
abbrev cX3_refreshMarks : ByteArray := prog_5_method_12_code
def yX3_refreshMarks : MethodName := ⟨RX3, "refreshMarks", "()V"⟩
abbrev cX3_markCritical : ByteArray := prog_5_method_13_code
def yX3_markCritical : MethodName := ⟨RX3, "markCritical", "()V"⟩
abbrev cX3_markWitness : ByteArray := prog_5_method_14_code
def yX3_markWitness : MethodName := ⟨RX3, "markWitness", "()V"⟩
abbrev cX3_markCore : ByteArray := prog_5_method_15_code
def yX3_markCore : MethodName := ⟨RX3, "markCore", "()V"⟩
abbrev cX3_leastLength : ByteArray := prog_5_method_16_code
def yX3_leastLength : MethodName := ⟨RX3, "leastLength", "()I"⟩
abbrev cX3_greatestWish : ByteArray := prog_5_method_17_code
def yX3_greatestWish : MethodName := ⟨RX3, "greatestWish", "()I"⟩
abbrev cX3_fewestMoves : ByteArray := prog_5_method_18_code
def yX3_fewestMoves : MethodName := ⟨RX3, "fewestMoves", "(LGridMender$Laying;)I"⟩
abbrev cX3_addMovesOfRow : ByteArray := prog_5_method_19_code
def yX3_addMovesOfRow : MethodName := ⟨RX3, "addMovesOfRow", "(II)V"⟩
abbrev cX3_movesTo : ByteArray := prog_5_method_20_code
def yX3_movesTo : MethodName := ⟨RX3, "movesTo", "(I)I"⟩
abbrev cX3_fewestBelow : ByteArray := prog_5_method_21_code
def yX3_fewestBelow : MethodName := ⟨RX3, "fewestBelow", "(II)I"⟩
abbrev cX3_cheapest : ByteArray := prog_5_method_22_code
def yX3_cheapest : MethodName := ⟨RX3, "cheapest", "(IJ)I"⟩
abbrev cX3_layFewest : ByteArray := prog_5_method_23_code
def yX3_layFewest : MethodName := ⟨RX3, "layFewest", "(LGridMender$Laying;)V"⟩
def RX4 : String := "GridMender$SeatTable"
def TX4 : u_T := fun k => match k with
  | 0 => ("GridMender$SeatTable", "size", "I", false)
  | 1 => ("GridMender$SeatTable", "seats", "[I", true)
  | 2 => ("GridMender$SeatTable", "columns", "[I", true)
  | 3 => ("GridMender$SeatTable", "fitting", "[J", true)
  | 4 => ("GridMender$SeatTable", "width", "I", false)
  | 5 => ("GridMender$SeatTable", "wish", "I", false)
  | _ => ("GridMender$SeatTable", "length", "I", false)
def tyX4 : Nat → FieldType := fun k => match k with
  | 0 => .int
  | 1 => .array .int
  | 2 => .array .int
  | 3 => .array .long
  | 4 => .int
  | 5 => .int
  | _ => .int
abbrev wsX40 : List Cond := u_ws RX4 TX4 7
theorem nmX4 : ∀ a, a < 7 → ∀ b, b < 7 → a ≠ b → (TX4 a).2.1 ≠ (TX4 b).2.1 := by decide +kernel
theorem tyX4_ok : ∀ k, k < 7 → parseFieldDescriptor (TX4 k).2.2.1 = some (tyX4 k) := by decide +kernel
abbrev cX4_init : ByteArray := prog_6_method_1_code
def yX4_init : MethodName := ⟨RX4, "<init>", "()V"⟩
abbrev cX4_prepare : ByteArray := prog_6_method_2_code
def yX4_prepare : MethodName := ⟨RX4, "prepare", "(III)V"⟩
abbrev cX4_addUnlessWide : ByteArray := prog_6_method_3_code
def yX4_addUnlessWide : MethodName := ⟨RX4, "addUnlessWide", "(I)V"⟩
abbrev cX4_joinSeats : ByteArray := prog_6_method_4_code
def yX4_joinSeats : MethodName := ⟨RX4, "joinSeats", "()V"⟩
abbrev cX4_areNear : ByteArray := prog_6_method_5_code
def yX4_areNear : MethodName := ⟨RX4, "areNear", "(II)Z"⟩
abbrev cX4_columnAt : ByteArray := prog_6_method_6_code
def yX4_columnAt : MethodName := ⟨RX4, "columnAt", "(II)I"⟩
abbrev cX4_seatsFitting : ByteArray := prog_6_method_7_code
def yX4_seatsFitting : MethodName := ⟨RX4, "seatsFitting", "(I)J"⟩
abbrev cX4_seatsWithout : ByteArray := prog_6_method_8_code
def yX4_seatsWithout : MethodName := ⟨RX4, "seatsWithout", "(I)J"⟩
abbrev cX4_seatsFittingAny : ByteArray := prog_6_method_9_code
def yX4_seatsFittingAny : MethodName := ⟨RX4, "seatsFittingAny", "(J)J"⟩
abbrev cX4_columnsOfAll : ByteArray := prog_6_method_10_code
def yX4_columnsOfAll : MethodName := ⟨RX4, "columnsOfAll", "(J)I"⟩
def RX5 : String := "GridMender$Sheet"
def TX5 : u_T := fun k => match k with
  | 0 => ("GridMender$Sheet", "lost", "Z", false)
  | 1 => ("GridMender$Sheet", "form", "I", false)
  | 2 => ("GridMender$Sheet", "size", "I", false)
  | _ => ("GridMender$Sheet", "items", "[I", true)
def tyX5 : Nat → FieldType := fun k => match k with
  | 0 => .boolean
  | 1 => .int
  | 2 => .int
  | _ => .array .int
abbrev wsX50 : List Cond := u_ws RX5 TX5 4
theorem nmX5 : ∀ a, a < 4 → ∀ b, b < 4 → a ≠ b → (TX5 a).2.1 ≠ (TX5 b).2.1 := by decide +kernel
theorem tyX5_ok : ∀ k, k < 4 → parseFieldDescriptor (TX5 k).2.2.1 = some (tyX5 k) := by decide +kernel
abbrev cX5_init : ByteArray := prog_7_method_1_code
def yX5_init : MethodName := ⟨RX5, "<init>", "()V"⟩
abbrev cX5_begin : ByteArray := prog_7_method_2_code
def yX5_begin : MethodName := ⟨RX5, "begin", "(II)V"⟩
abbrev cX5_findingAt : ByteArray := prog_7_method_3_code
def yX5_findingAt : MethodName := ⟨RX5, "findingAt", "(II)I"⟩
abbrev cX5_hasItems : ByteArray := prog_7_method_4_code
def yX5_hasItems : MethodName := ⟨RX5, "hasItems", "(II)Z"⟩
abbrev cX5_put : ByteArray := prog_7_method_5_code
def yX5_put : MethodName := ⟨RX5, "put", "(II)V"⟩
def RX6 : String := "GridMender"
def TX6 : u_T := fun k => match k with
  | 0 => ("GridMender", "board", "LGridMender$Board;", true)
  | 1 => ("GridMender", "placer", "LGridMender$Placer;", true)
  | 2 => ("GridMender", "chainFinder", "LGridMender$ChainFinder;", true)
  | 3 => ("GridMender", "laid", "LGridMender$Laying;", true)
  | 4 => ("GridMender", "slots", "[LGridMender$Laying;", true)
  | 5 => ("GridMender", "sheets", "[LGridMender$Sheet;", true)
  | 6 => ("GridMender", "movesOfMends", "I", false)
  | _ => ("GridMender", "latestFinding", "I", false)
def tyX6 : Nat → FieldType := fun k => match k with
  | 0 => .object "GridMender$Board"
  | 1 => .object "GridMender$Placer"
  | 2 => .object "GridMender$ChainFinder"
  | 3 => .object "GridMender$Laying"
  | 4 => .array (.object "GridMender$Laying")
  | 5 => .array (.object "GridMender$Sheet")
  | 6 => .int
  | _ => .int
abbrev wsX60 : List Cond := u_ws RX6 TX6 8
theorem nmX6 : ∀ a, a < 8 → ∀ b, b < 8 → a ≠ b → (TX6 a).2.1 ≠ (TX6 b).2.1 := by decide +kernel
theorem tyX6_ok : ∀ k, k < 8 → parseFieldDescriptor (TX6 k).2.2.1 = some (tyX6 k) := by decide +kernel
abbrev cX6_init : ByteArray := prog_1_method_1_code
def yX6_init : MethodName := ⟨RX6, "<init>", "()V"⟩
abbrev cX6_grid : ByteArray := prog_1_method_2_code
def yX6_grid : MethodName := ⟨RX6, "grid", "(II)I"⟩
abbrev cX6_wish : ByteArray := prog_1_method_3_code
def yX6_wish : MethodName := ⟨RX6, "wish", "(I)I"⟩
abbrev cX6_length : ByteArray := prog_1_method_4_code
def yX6_length : MethodName := ⟨RX6, "length", "(I)I"⟩
abbrev cX6_sides : ByteArray := prog_1_method_5_code
def yX6_sides : MethodName := ⟨RX6, "sides", "(I)I"⟩
abbrev cX6_fault : ByteArray := prog_1_method_6_code
def yX6_fault : MethodName := ⟨RX6, "fault", "(II)I"⟩
abbrev cX6_lots : ByteArray := prog_1_method_7_code
def yX6_lots : MethodName := ⟨RX6, "lots", "(II)I"⟩
abbrev cX6_read : ByteArray := prog_1_method_8_code
def yX6_read : MethodName := ⟨RX6, "read", "(II)I"⟩
abbrev cX6_cell : ByteArray := prog_1_method_9_code
def yX6_cell : MethodName := ⟨RX6, "cell", "(III)I"⟩
abbrev cX6_whole : ByteArray := prog_1_method_10_code
def yX6_whole : MethodName := ⟨RX6, "whole", "()I"⟩
abbrev cX6_mend : ByteArray := prog_1_method_11_code
def yX6_mend : MethodName := ⟨RX6, "mend", "()I"⟩
abbrev cX6_moves : ByteArray := prog_1_method_12_code
def yX6_moves : MethodName := ⟨RX6, "moves", "()I"⟩
abbrev cX6_seat : ByteArray := prog_1_method_13_code
def yX6_seat : MethodName := ⟨RX6, "seat", "(II)I"⟩
abbrev cX6_column : ByteArray := prog_1_method_14_code
def yX6_column : MethodName := ⟨RX6, "column", "(II)I"⟩
abbrev cX6_seats : ByteArray := prog_1_method_15_code
def yX6_seats : MethodName := ⟨RX6, "seats", "(I)I"⟩
abbrev cX6_broken : ByteArray := prog_1_method_16_code
def yX6_broken : MethodName := ⟨RX6, "broken", "()I"⟩
abbrev cX6_witness : ByteArray := prog_1_method_17_code
def yX6_witness : MethodName := ⟨RX6, "witness", "(I)I"⟩
abbrev cX6_core : ByteArray := prog_1_method_18_code
def yX6_core : MethodName := ⟨RX6, "core", "()I"⟩
abbrev cX6_critical : ByteArray := prog_1_method_19_code
def yX6_critical : MethodName := ⟨RX6, "critical", "()I"⟩
abbrev cX6_least : ByteArray := prog_1_method_20_code
def yX6_least : MethodName := ⟨RX6, "least", "(I)I"⟩
abbrev cX6_chains : ByteArray := prog_1_method_21_code
def yX6_chains : MethodName := ⟨RX6, "chains", "()I"⟩
abbrev cX6_cut : ByteArray := prog_1_method_22_code
def yX6_cut : MethodName := ⟨RX6, "cut", "()J"⟩
abbrev cX6_keep : ByteArray := prog_1_method_23_code
def yX6_keep : MethodName := ⟨RX6, "keep", "(I)I"⟩
abbrev cX6_go : ByteArray := prog_1_method_24_code
def yX6_go : MethodName := ⟨RX6, "go", "(I)I"⟩
abbrev cX6_differ : ByteArray := prog_1_method_25_code
def yX6_differ : MethodName := ⟨RX6, "differ", "(I)I"⟩
abbrev cX6_drop : ByteArray := prog_1_method_26_code
def yX6_drop : MethodName := ⟨RX6, "drop", "(I)I"⟩
abbrev cX6_sheet : ByteArray := prog_1_method_27_code
def yX6_sheet : MethodName := ⟨RX6, "sheet", "(III)I"⟩
abbrev cX6_lose : ByteArray := prog_1_method_28_code
def yX6_lose : MethodName := ⟨RX6, "lose", "(I)I"⟩
abbrev cX6_lay : ByteArray := prog_1_method_29_code
def yX6_lay : MethodName := ⟨RX6, "lay", "(IIII)I"⟩
abbrev cX6_get : ByteArray := prog_1_method_30_code
def yX6_get : MethodName := ⟨RX6, "get", "(III)I"⟩
abbrev cX6_copy : ByteArray := prog_1_method_31_code
def yX6_copy : MethodName := ⟨RX6, "copy", "(IIIII)I"⟩
abbrev cX6_write : ByteArray := prog_1_method_32_code
def yX6_write : MethodName := ⟨RX6, "write", "(II)I"⟩
abbrev cX6_count : ByteArray := prog_1_method_33_code
def yX6_count : MethodName := ⟨RX6, "count", "(I)I"⟩
abbrev cX6_digest : ByteArray := prog_1_method_34_code
def yX6_digest : MethodName := ⟨RX6, "digest", "()J"⟩
abbrev cX6_found : ByteArray := prog_1_method_35_code
def yX6_found : MethodName := ⟨RX6, "found", "(I)I"⟩
abbrev cX6_slotAt : ByteArray := prog_1_method_36_code
def yX6_slotAt : MethodName := ⟨RX6, "slotAt", "(I)LGridMender$Laying;"⟩
abbrev cX6_sheetAt : ByteArray := prog_1_method_37_code
def yX6_sheetAt : MethodName := ⟨RX6, "sheetAt", "(I)LGridMender$Sheet;"⟩
abbrev cX6_filledSlots : ByteArray := prog_1_method_38_code
def yX6_filledSlots : MethodName := ⟨RX6, "filledSlots", "()I"⟩
abbrev cX6_isForm : ByteArray := prog_1_method_39_code
def yX6_isForm : MethodName := ⟨RX6, "isForm", "(I)Z"⟩
abbrev cX6_bitOf : ByteArray := prog_1_method_40_code
def yX6_bitOf : MethodName := ⟨RX6, "bitOf", "(II)I"⟩
abbrev cX6_columnOf : ByteArray := prog_1_method_41_code
def yX6_columnOf : MethodName := ⟨RX6, "columnOf", "(II)I"⟩
abbrev cX6_taskAt : ByteArray := prog_1_method_42_code
def yX6_taskAt : MethodName := ⟨RX6, "taskAt", "(II)I"⟩
abbrev cX6_tasksMoved : ByteArray := prog_1_method_43_code
def yX6_tasksMoved : MethodName := ⟨RX6, "tasksMoved", "(III)I"⟩
def RX7 : String := "GridMenderModel"
def TX7 : u_T := fun k => match k with
  | 0 => ("GridMenderModel", "forms", "[I", true)
  | 1 => ("GridMenderModel", "sizes", "[I", true)
  | 2 => ("GridMenderModel", "items", "[I", true)
  | 3 => ("GridMenderModel", "moved", "[I", true)
  | 4 => ("GridMenderModel", "latest", "I", false)
  | 5 => ("GridMenderModel", "high", "I", false)
  | 6 => ("GridMenderModel", "wide", "I", false)
  | 7 => ("GridMenderModel", "wish", "I", false)
  | 8 => ("GridMenderModel", "far", "I", false)
  | 9 => ("GridMenderModel", "open", "I", false)
  | 10 => ("GridMenderModel", "bad", "[I", true)
  | 11 => ("GridMenderModel", "laid", "Z", false)
  | 12 => ("GridMenderModel", "seated", "[I", true)
  | 13 => ("GridMenderModel", "movedEver", "I", false)
  | 14 => ("GridMenderModel", "sets", "[I", true)
  | 15 => ("GridMenderModel", "columns", "[I", true)
  | 16 => ("GridMenderModel", "near", "[Z", true)
  | 17 => ("GridMenderModel", "mates", "[Z", true)
  | 18 => ("GridMenderModel", "all", "I", false)
  | 19 => ("GridMenderModel", "ends", "[Z", true)
  | 20 => ("GridMenderModel", "goes", "[Z", true)
  | 21 => ("GridMenderModel", "costs", "[I", true)
  | 22 => ("GridMenderModel", "chosen", "[I", true)
  | 23 => ("GridMenderModel", "passed", "[Z", true)
  | 24 => ("GridMenderModel", "leads", "[Z", true)
  | 25 => ("GridMenderModel", "cameFrom", "[I", true)
  | 26 => ("GridMenderModel", "queue", "[I", true)
  | 27 => ("GridMenderModel", "waiting", "I", false)
  | 28 => ("GridMenderModel", "full", "I", false)
  | 29 => ("GridMenderModel", "slotSeats", "[I", true)
  | 30 => ("GridMenderModel", "slotHighs", "[I", true)
  | 31 => ("GridMenderModel", "slotWides", "[I", true)
  | _ => ("GridMenderModel", "slotWishes", "[I", true)
def tyX7 : Nat → FieldType := fun k => match k with
  | 0 => .array .int
  | 1 => .array .int
  | 2 => .array .int
  | 3 => .array .int
  | 4 => .int
  | 5 => .int
  | 6 => .int
  | 7 => .int
  | 8 => .int
  | 9 => .int
  | 10 => .array .int
  | 11 => .boolean
  | 12 => .array .int
  | 13 => .int
  | 14 => .array .int
  | 15 => .array .int
  | 16 => .array .boolean
  | 17 => .array .boolean
  | 18 => .int
  | 19 => .array .boolean
  | 20 => .array .boolean
  | 21 => .array .int
  | 22 => .array .int
  | 23 => .array .boolean
  | 24 => .array .boolean
  | 25 => .array .int
  | 26 => .array .int
  | 27 => .int
  | 28 => .int
  | 29 => .array .int
  | 30 => .array .int
  | 31 => .array .int
  | _ => .array .int
abbrev wsX70 : List Cond := u_ws RX7 TX7 33
theorem nmX7 : ∀ a, a < 33 → ∀ b, b < 33 → a ≠ b → (TX7 a).2.1 ≠ (TX7 b).2.1 := by decide +kernel
theorem tyX7_ok : ∀ k, k < 33 → parseFieldDescriptor (TX7 k).2.2.1 = some (tyX7 k) := by decide +kernel
abbrev cX7_init : ByteArray := prog_9_method_1_code
def yX7_init : MethodName := ⟨RX7, "<init>", "()V"⟩
abbrev cX7_in : ByteArray := prog_9_method_3_code
def yX7_in : MethodName := ⟨RX7, "in", "(JJJ)Z"⟩
abbrev cX7_isTwo : ByteArray := prog_9_method_4_code
def yX7_isTwo : MethodName := ⟨RX7, "isTwo", "(I)Z"⟩
abbrev cX7_isIn : ByteArray := prog_9_method_5_code
def yX7_isIn : MethodName := ⟨RX7, "isIn", "(JI)Z"⟩
abbrev cX7_lesser : ByteArray := prog_9_method_6_code
def yX7_lesser : MethodName := ⟨RX7, "lesser", "(II)I"⟩
abbrev cX7_away : ByteArray := prog_9_method_7_code
def yX7_away : MethodName := ⟨RX7, "away", "(I)I"⟩
abbrev cX7_size : ByteArray := prog_9_method_8_code
def yX7_size : MethodName := ⟨RX7, "size", "(J)I"⟩
abbrev cX7_finding : ByteArray := prog_9_method_9_code
def yX7_finding : MethodName := ⟨RX7, "finding", "(I)I"⟩
abbrev cX7_isSheet : ByteArray := prog_9_method_10_code
def yX7_isSheet : MethodName := ⟨RX7, "isSheet", "(I)Z"⟩
abbrev cX7_sheet : ByteArray := prog_9_method_11_code
def yX7_sheet : MethodName := ⟨RX7, "sheet", "(III)I"⟩
abbrev cX7_lose : ByteArray := prog_9_method_12_code
def yX7_lose : MethodName := ⟨RX7, "lose", "(I)I"⟩
abbrev cX7_lacks : ByteArray := prog_9_method_13_code
def yX7_lacks : MethodName := ⟨RX7, "lacks", "(III)I"⟩
abbrev cX7_cutTo : ByteArray := prog_9_method_14_code
def yX7_cutTo : MethodName := ⟨RX7, "cutTo", "(II)I"⟩
abbrev cX7_lay : ByteArray := prog_9_method_15_code
def yX7_lay : MethodName := ⟨RX7, "lay", "(IIII)I"⟩
abbrev cX7_get : ByteArray := prog_9_method_16_code
def yX7_get : MethodName := ⟨RX7, "get", "(III)I"⟩
abbrev cX7_copy : ByteArray := prog_9_method_17_code
def yX7_copy : MethodName := ⟨RX7, "copy", "(IIIII)I"⟩
abbrev cX7_isRow : ByteArray := prog_9_method_18_code
def yX7_isRow : MethodName := ⟨RX7, "isRow", "(I)Z"⟩
abbrev cX7_isCell : ByteArray := prog_9_method_19_code
def yX7_isCell : MethodName := ⟨RX7, "isCell", "(II)Z"⟩
abbrev cX7_faulty : ByteArray := prog_9_method_20_code
def yX7_faulty : MethodName := ⟨RX7, "faulty", "()I"⟩
abbrev cX7_grid : ByteArray := prog_9_method_21_code
def yX7_grid : MethodName := ⟨RX7, "grid", "(II)I"⟩
abbrev cX7_wish : ByteArray := prog_9_method_22_code
def yX7_wish : MethodName := ⟨RX7, "wish", "(I)I"⟩
abbrev cX7_length : ByteArray := prog_9_method_23_code
def yX7_length : MethodName := ⟨RX7, "length", "(I)I"⟩
abbrev cX7_sides : ByteArray := prog_9_method_24_code
def yX7_sides : MethodName := ⟨RX7, "sides", "(I)I"⟩
abbrev cX7_fault : ByteArray := prog_9_method_25_code
def yX7_fault : MethodName := ⟨RX7, "fault", "(II)I"⟩
abbrev cX7_becomes : ByteArray := prog_9_method_26_code
def yX7_becomes : MethodName := ⟨RX7, "becomes", "(IIZ)V"⟩
abbrev cX7_lots : ByteArray := prog_9_method_27_code
def yX7_lots : MethodName := ⟨RX7, "lots", "(II)I"⟩
abbrev cX7_read : ByteArray := prog_9_method_28_code
def yX7_read : MethodName := ⟨RX7, "read", "(II)I"⟩
abbrev cX7_columnOf : ByteArray := prog_9_method_29_code
def yX7_columnOf : MethodName := ⟨RX7, "columnOf", "(II)I"⟩
abbrev cX7_seatsOf : ByteArray := prog_9_method_30_code
def yX7_seatsOf : MethodName := ⟨RX7, "seatsOf", "(II)V"⟩
abbrev cX7_seatsNow : ByteArray := prog_9_method_31_code
def yX7_seatsNow : MethodName := ⟨RX7, "seatsNow", "()V"⟩
abbrev cX7_fits : ByteArray := prog_9_method_32_code
def yX7_fits : MethodName := ⟨RX7, "fits", "(II)Z"⟩
abbrev cX7_isWhole : ByteArray := prog_9_method_33_code
def yX7_isWhole : MethodName := ⟨RX7, "isWhole", "(II)Z"⟩
abbrev cX7_isWholeNow : ByteArray := prog_9_method_34_code
def yX7_isWholeNow : MethodName := ⟨RX7, "isWholeNow", "()Z"⟩
abbrev cX7_whole : ByteArray := prog_9_method_35_code
def yX7_whole : MethodName := ⟨RX7, "whole", "()I"⟩
abbrev cX7_columnNow : ByteArray := prog_9_method_36_code
def yX7_columnNow : MethodName := ⟨RX7, "columnNow", "(II)I"⟩
abbrev cX7_movesTo : ByteArray := prog_9_method_37_code
def yX7_movesTo : MethodName := ⟨RX7, "movesTo", "(II)I"⟩
abbrev cX7_fewest : ByteArray := prog_9_method_38_code
def yX7_fewest : MethodName := ⟨RX7, "fewest", "()I"⟩
abbrev cX7_chooses : ByteArray := prog_9_method_39_code
def yX7_chooses : MethodName := ⟨RX7, "chooses", "(I)V"⟩
abbrev cX7_mend : ByteArray := prog_9_method_40_code
def yX7_mend : MethodName := ⟨RX7, "mend", "()I"⟩
abbrev cX7_movesNow : ByteArray := prog_9_method_41_code
def yX7_movesNow : MethodName := ⟨RX7, "movesNow", "()I"⟩
abbrev cX7_moves : ByteArray := prog_9_method_42_code
def yX7_moves : MethodName := ⟨RX7, "moves", "()I"⟩
abbrev cX7_seat : ByteArray := prog_9_method_43_code
def yX7_seat : MethodName := ⟨RX7, "seat", "(II)I"⟩
abbrev cX7_columnBy : ByteArray := prog_9_method_44_code
def yX7_columnBy : MethodName := ⟨RX7, "columnBy", "(II)I"⟩
abbrev cX7_column : ByteArray := prog_9_method_45_code
def yX7_column : MethodName := ⟨RX7, "column", "(II)I"⟩
abbrev cX7_seatsBy : ByteArray := prog_9_method_46_code
def yX7_seatsBy : MethodName := ⟨RX7, "seatsBy", "(I)I"⟩
abbrev cX7_seats : ByteArray := prog_9_method_47_code
def yX7_seats : MethodName := ⟨RX7, "seats", "(I)I"⟩
abbrev cX7_brokenNow : ByteArray := prog_9_method_48_code
def yX7_brokenNow : MethodName := ⟨RX7, "brokenNow", "()I"⟩
abbrev cX7_broken : ByteArray := prog_9_method_49_code
def yX7_broken : MethodName := ⟨RX7, "broken", "()I"⟩
abbrev cX7_witnessBy : ByteArray := prog_9_method_50_code
def yX7_witnessBy : MethodName := ⟨RX7, "witnessBy", "(I)I"⟩
abbrev cX7_witness : ByteArray := prog_9_method_51_code
def yX7_witness : MethodName := ⟨RX7, "witness", "(I)I"⟩
abbrev cX7_coreNow : ByteArray := prog_9_method_52_code
def yX7_coreNow : MethodName := ⟨RX7, "coreNow", "()J"⟩
abbrev cX7_criticalNow : ByteArray := prog_9_method_53_code
def yX7_criticalNow : MethodName := ⟨RX7, "criticalNow", "()J"⟩
abbrev cX7_core : ByteArray := prog_9_method_54_code
def yX7_core : MethodName := ⟨RX7, "core", "()I"⟩
abbrev cX7_critical : ByteArray := prog_9_method_55_code
def yX7_critical : MethodName := ⟨RX7, "critical", "()I"⟩
abbrev cX7_leastBy : ByteArray := prog_9_method_56_code
def yX7_leastBy : MethodName := ⟨RX7, "leastBy", "(I)I"⟩
abbrev cX7_least : ByteArray := prog_9_method_57_code
def yX7_least : MethodName := ⟨RX7, "least", "(I)I"⟩
abbrev cX7_isOut : ByteArray := prog_9_method_58_code
def yX7_isOut : MethodName := ⟨RX7, "isOut", "(I)Z"⟩
abbrev cX7_isBad : ByteArray := prog_9_method_59_code
def yX7_isBad : MethodName := ⟨RX7, "isBad", "(I)Z"⟩
abbrev cX7_beside : ByteArray := prog_9_method_60_code
def yX7_beside : MethodName := ⟨RX7, "beside", "(II)I"⟩
abbrev cX7_reaches : ByteArray := prog_9_method_61_code
def yX7_reaches : MethodName := ⟨RX7, "reaches", "(II)V"⟩
abbrev cX7_goesOn : ByteArray := prog_9_method_62_code
def yX7_goesOn : MethodName := ⟨RX7, "goesOn", "(I)V"⟩
abbrev cX7_finds : ByteArray := prog_9_method_63_code
def yX7_finds : MethodName := ⟨RX7, "finds", "()I"⟩
abbrev cX7_turns : ByteArray := prog_9_method_64_code
def yX7_turns : MethodName := ⟨RX7, "turns", "(II)V"⟩
abbrev cX7_chainsNow : ByteArray := prog_9_method_65_code
def yX7_chainsNow : MethodName := ⟨RX7, "chainsNow", "()I"⟩
abbrev cX7_chains : ByteArray := prog_9_method_66_code
def yX7_chains : MethodName := ⟨RX7, "chains", "()I"⟩
abbrev cX7_cutNow : ByteArray := prog_9_method_67_code
def yX7_cutNow : MethodName := ⟨RX7, "cutNow", "()J"⟩
abbrev cX7_cut : ByteArray := prog_9_method_68_code
def yX7_cut : MethodName := ⟨RX7, "cut", "()J"⟩
abbrev cX7_taskAt : ByteArray := prog_9_method_69_code
def yX7_taskAt : MethodName := ⟨RX7, "taskAt", "(II)I"⟩
abbrev cX7_cellBy : ByteArray := prog_9_method_70_code
def yX7_cellBy : MethodName := ⟨RX7, "cellBy", "(IIJ)I"⟩
abbrev cX7_cell : ByteArray := prog_9_method_71_code
def yX7_cell : MethodName := ⟨RX7, "cell", "(III)I"⟩
abbrev cX7_isSlot : ByteArray := prog_9_method_72_code
def yX7_isSlot : MethodName := ⟨RX7, "isSlot", "(I)Z"⟩
abbrev cX7_keep : ByteArray := prog_9_method_73_code
def yX7_keep : MethodName := ⟨RX7, "keep", "(I)I"⟩
abbrev cX7_lacksSlot : ByteArray := prog_9_method_74_code
def yX7_lacksSlot : MethodName := ⟨RX7, "lacksSlot", "(I)I"⟩
abbrev cX7_go : ByteArray := prog_9_method_75_code
def yX7_go : MethodName := ⟨RX7, "go", "(I)I"⟩
abbrev cX7_differ : ByteArray := prog_9_method_76_code
def yX7_differ : MethodName := ⟨RX7, "differ", "(I)I"⟩
abbrev cX7_drop : ByteArray := prog_9_method_77_code
def yX7_drop : MethodName := ⟨RX7, "drop", "(I)I"⟩
abbrev cX7_write : ByteArray := prog_9_method_78_code
def yX7_write : MethodName := ⟨RX7, "write", "(II)I"⟩
abbrev cX7_countBy : ByteArray := prog_9_method_79_code
def yX7_countBy : MethodName := ⟨RX7, "countBy", "(I)I"⟩
abbrev cX7_allSeats : ByteArray := prog_9_method_80_code
def yX7_allSeats : MethodName := ⟨RX7, "allSeats", "()I"⟩
abbrev cX7_count : ByteArray := prog_9_method_81_code
def yX7_count : MethodName := ⟨RX7, "count", "(I)I"⟩
abbrev cX7_digest : ByteArray := prog_9_method_82_code
def yX7_digest : MethodName := ⟨RX7, "digest", "()J"⟩
def RJ6 : String := "java/lang/Integer"


abbrev cJ6_bitCount_0f7a4 : ByteArray := prog_10_method_49_code
def yJ6_bitCount_0f7a4 : MethodName := ⟨RJ6, "bitCount", "(I)I"⟩
def RJ13 : String := "java/lang/Long"


abbrev cJ13_bitCount_95d88 : ByteArray := prog_11_method_50_code
def yJ13_bitCount_95d88 : MethodName := ⟨RJ13, "bitCount", "(J)I"⟩
def RJ9 : String := "java/lang/Math"


abbrev cJ9_abs_0f7a4 : ByteArray := prog_12_method_59_code
def yJ9_abs_0f7a4 : MethodName := ⟨RJ9, "abs", "(I)I"⟩
abbrev cJ9_min_7cf53 : ByteArray := prog_12_method_69_code
def yJ9_min_7cf53 : MethodName := ⟨RJ9, "min", "(II)I"⟩
def RJ10 : String := "java/lang/System"


def RJ7 : String := "java/util/Arrays"


abbrev cJ7_fill_53178 : ByteArray := prog_14_method_103_code
def yJ7_fill_53178 : MethodName := ⟨RJ7, "fill", "([II)V"⟩
def RL : String := "GridMenderLaw"
abbrev cL_law : ByteArray := code
def yL_law : MethodName := ⟨RL, "law", "([I)Z"⟩
abbrev gm_cl : List vw_C := [(RX0, TX0, 7), (RX1, TX1, 9), (RX2, TX2, 5), (RX3, TX3, 14), (RX4, TX4, 7), (RX5, TX5, 4), (RX6, TX6, 8), (RX7, TX7, 33)]
end
section
/-! the program as tables: field links, constants, class links, method links (by their places in lw_tbl), methods -/
abbrev gm_I : Type := Instr × Nat × Nat × Nat × Int
abbrev gm_M : Type := MethodName × ByteArray × Nat × Option FieldType × Nat × Nat × Nat × Nat × Nat × Nat × List (Nat × Nat × gm_I)
def gm_nm : List String := ["GridMender$Board", "GridMender$ChainFinder", "GridMender$Laying", "GridMender$Placer", "GridMender$SeatTable", "GridMender$Sheet", "GridMender", "GridMenderModel", "java/lang/Integer", "java/lang/Long", "java/lang/Math", "java/util/Arrays", "GridMenderLaw", "java/lang/Object", "java/lang/System"]
def gm_FT : List (Nat × Nat × Nat × Nat × Nat) := [(0, 9, 0, 0, 90), (3, 75, 0, 0, 91), (2, 35, 0, 0, 92), (1, 66, 0, 0, 93), (6, 99, 0, 0, 94), (0, 15, 0, 1, 95), (3, 54, 0, 1, 96), (6, 62, 0, 1, 97), (2, 38, 0, 1, 98), (1, 69, 0, 1, 99), (0, 18, 0, 2, 100), (3, 57, 0, 2, 101), (6, 66, 0, 2, 102), (2, 39, 0, 2, 103), (0, 21, 0, 3, 104), (3, 60, 0, 3, 105), (6, 73, 0, 3, 106), (2, 61, 0, 3, 107), (0, 24, 0, 4, 108), (6, 79, 0, 4, 109), (0, 27, 0, 5, 110), (3, 49, 0, 5, 111), (1, 42, 0, 5, 112), (0, 30, 0, 6, 113), (3, 78, 0, 6, 114), (1, 72, 0, 6, 115), (2, 40, 0, 6, 116), (6, 89, 0, 6, 117), (4, 32, 4, 0, 146), (3, 155, 4, 0, 147), (4, 9, 4, 1, 148), (3, 178, 4, 1, 149), (4, 15, 4, 2, 150), (4, 18, 4, 3, 151), (4, 22, 4, 4, 152), (4, 26, 4, 5, 153), (4, 29, 4, 6, 154), (3, 41, 3, 0, 171), (3, 12, 3, 1, 172), (3, 18, 3, 2, 173), (3, 22, 3, 3, 174), (3, 25, 3, 4, 175), (3, 28, 3, 5, 176), (3, 32, 3, 6, 177), (3, 35, 3, 7, 178), (3, 38, 3, 8, 179), (3, 71, 3, 9, 180), (3, 105, 3, 10, 181), (3, 108, 3, 11, 182), (3, 45, 3, 12, 183), (3, 111, 3, 13, 184), (1, 24, 1, 0, 220), (1, 11, 1, 1, 221), (1, 15, 1, 2, 222), (1, 18, 1, 3, 223), (1, 21, 1, 4, 224), (1, 86, 1, 5, 225), (1, 39, 1, 6, 226), (1, 31, 1, 7, 227), (1, 35, 1, 8, 228), (2, 15, 2, 0, 254), (6, 54, 2, 0, 255), (2, 19, 2, 1, 256), (2, 23, 2, 2, 257), (2, 26, 2, 3, 258), (2, 9, 2, 4, 259), (6, 133, 2, 4, 260), (3, 175, 2, 4, 261), (5, 9, 5, 0, 281), (6, 111, 5, 0, 282), (5, 19, 5, 1, 283), (6, 234, 5, 1, 284), (5, 23, 5, 2, 285), (6, 118, 5, 2, 286), (5, 15, 5, 3, 287), (6, 127, 5, 3, 288), (6, 12, 6, 0, 298), (6, 21, 6, 1, 299), (6, 28, 6, 2, 300), (6, 35, 6, 3, 301), (6, 39, 6, 4, 302), (6, 45, 6, 5, 303), (6, 164, 6, 6, 304), (6, 231, 6, 7, 305), (7, 7, 7, 0, 801), (7, 13, 7, 1, 802), (7, 16, 7, 2, 803), (7, 19, 7, 3, 804), (7, 101, 7, 4, 805), (7, 77, 7, 5, 806), (7, 81, 7, 6, 807), (7, 84, 7, 7, 808), (7, 87, 7, 8, 809), (7, 90, 7, 9, 810), (7, 22, 7, 10, 811), (7, 137, 7, 11, 812), (7, 25, 7, 12, 813), (7, 198, 7, 13, 814), (7, 28, 7, 14, 815), (7, 31, 7, 15, 816), (7, 34, 7, 16, 817), (7, 38, 7, 17, 818), (7, 158, 7, 18, 819), (7, 41, 7, 19, 820), (7, 44, 7, 20, 821), (7, 47, 7, 21, 822), (7, 50, 7, 22, 823), (7, 53, 7, 23, 824), (7, 56, 7, 24, 825), (7, 59, 7, 25, 826), (7, 62, 7, 26, 827), (7, 229, 7, 27, 828), (7, 273, 7, 28, 829), (7, 65, 7, 29, 830), (7, 68, 7, 30, 831), (7, 71, 7, 31, 832), (7, 74, 7, 32, 833)]
def gm_KT : List (Nat × Nat × Int × Nat) := [(8, 265, 1431655765, 388), (8, 266, 858993459, 389), (8, 267, 252645135, 390), (6, 102, 1103515245, 395), (5, 32, 65535, 750), (6, 230, -2147483648, 755), (7, 124, -2147483648, 937), (7, 153, 1103515245, 990), (7, 187, 1000000, 1037)]
def gm_LT : List (Nat × Nat × Int × Nat) := [(9, 314, 6148914691236517205, 622), (9, 316, 3689348814741910323, 623), (9, 318, 1085102592571150095, 624), (6, 249, 17, 781), (6, 251, 31, 782), (7, 104, 3, 909), (7, 110, 2, 913), (7, 132, 7, 946), (7, 141, 15, 962), (7, 151, 16, 989), (7, 262, 4, 1169), (7, 268, 5, 1185), (7, 285, 17, 1222), (7, 287, 31, 1223)]
def gm_CT : List (Nat × Nat × Nat × Nat) := [(12, 7, 6, 76), (6, 9, 0, 84), (6, 16, 3, 134), (3, 9, 4, 140), (6, 25, 1, 214), (6, 32, 2, 248), (6, 43, 5, 274), (12, 10, 7, 795)]
def gm_MT : List (Nat × Nat × Nat × Nat × Nat) := [(12, 9, 0, 70, 78), (6, 3, 3, 0, 81), (6, 11, 1, 0, 86), (0, 3, 3, 0, 89), (6, 18, 0, 32, 136), (3, 3, 3, 0, 139), (3, 11, 1, 55, 142), (4, 3, 3, 0, 145), (6, 27, 0, 12, 216), (1, 5, 3, 0, 219), (6, 34, 1, 24, 250), (2, 3, 3, 0, 253), (6, 49, 1, 65, 277), (5, 3, 3, 0, 280), (12, 13, 0, 71, 323), (6, 50, 0, 1, 327), (0, 34, 4, 197, 331), (0, 40, 0, 198, 334), (6, 58, 0, 10, 337), (12, 18, 0, 72, 341), (6, 69, 0, 2, 345), (12, 23, 0, 73, 349), (6, 76, 0, 3, 353), (12, 27, 0, 74, 357), (6, 82, 0, 4, 361), (12, 31, 0, 75, 365), (6, 85, 0, 7, 369), (0, 46, 0, 6, 373), (6, 93, 0, 5, 377), (6, 96, 0, 11, 381), (0, 50, 0, 194, 385), (12, 35, 0, 76, 391), (12, 39, 0, 77, 396), (6, 103, 0, 106, 400), (6, 107, 0, 6, 404), (6, 114, 0, 104, 405), (6, 121, 4, 197, 409), (12, 43, 0, 78, 410), (6, 130, 0, 109, 414), (6, 136, 0, 111, 417), (6, 167, 0, 194, 420), (6, 139, 0, 42, 421), (3, 93, 0, 33, 425), (3, 63, 0, 56, 429), (4, 35, 0, 194, 433), (4, 41, 0, 57, 434), (4, 48, 1, 109, 438), (4, 45, 0, 58, 439), (4, 52, 0, 59, 443), (3, 67, 0, 34, 447), (3, 81, 0, 62, 451), (3, 85, 0, 35, 455), (3, 89, 0, 63, 458), (3, 102, 0, 43, 462), (3, 114, 0, 198, 466), (3, 120, 0, 44, 467), (3, 129, 0, 64, 471), (3, 123, 0, 45, 475), (3, 126, 0, 46, 479), (3, 132, 2, 0, 483), (6, 142, 0, 41, 486), (6, 145, 0, 14, 490), (1, 28, 0, 15, 494), (1, 45, 0, 16, 498), (1, 48, 0, 198, 502), (1, 75, 1, 109, 503), (1, 79, 0, 23, 504), (1, 82, 0, 8, 507), (1, 54, 0, 17, 511), (1, 89, 0, 20, 515), (1, 93, 0, 18, 519), (1, 96, 0, 19, 523), (1, 58, 0, 21, 527), (1, 62, 0, 22, 531), (1, 99, 0, 9, 535), (6, 149, 0, 9, 539), (12, 48, 0, 79, 540), (6, 152, 0, 36, 544), (12, 53, 0, 80, 548), (6, 156, 0, 49, 552), (3, 138, 0, 28, 556), (3, 144, 0, 50, 560), (3, 152, 1, 110, 564), (3, 158, 0, 51, 567), (3, 165, 0, 60, 571), (3, 162, 0, 52, 575), (3, 168, 0, 61, 579), (3, 148, 0, 53, 583), (6, 160, 0, 54, 587), (3, 171, 0, 26, 591), (12, 57, 0, 81, 595), (12, 61, 0, 82, 599), (6, 172, 0, 112, 603), (6, 176, 0, 110, 606), (12, 65, 0, 83, 607), (12, 69, 0, 84, 611), (6, 179, 0, 37, 615), (3, 96, 0, 195, 619), (12, 73, 0, 85, 625), (6, 182, 0, 29, 629), (2, 43, 0, 194, 633), (2, 49, 0, 30, 634), (2, 57, 1, 110, 637), (2, 53, 0, 31, 638), (2, 64, 5, 196, 641), (12, 77, 0, 86, 644), (6, 186, 0, 39, 648), (6, 189, 0, 40, 652), (12, 81, 0, 87, 656), (12, 85, 0, 88, 660), (12, 89, 0, 89, 664), (6, 192, 0, 47, 668), (6, 195, 0, 48, 672), (12, 93, 0, 90, 676), (6, 198, 0, 13, 680), (12, 97, 0, 91, 684), (12, 102, 0, 92, 688), (6, 201, 0, 105, 692), (6, 205, 0, 25, 696), (2, 29, 2, 0, 700), (6, 208, 0, 107, 701), (12, 106, 0, 93, 705), (6, 211, 0, 27, 709), (12, 110, 0, 94, 713), (6, 215, 0, 28, 717), (12, 114, 0, 95, 718), (12, 118, 0, 96, 722), (6, 218, 0, 108, 726), (6, 221, 0, 66, 729), (5, 26, 0, 198, 733), (12, 122, 0, 97, 734), (12, 126, 0, 98, 738), (6, 224, 0, 67, 742), (6, 227, 0, 69, 746), (12, 131, 0, 99, 751), (12, 135, 0, 100, 756), (6, 237, 0, 68, 760), (6, 240, 2, 0, 764), (12, 140, 0, 101, 765), (12, 144, 0, 102, 769), (6, 246, 0, 38, 773), (12, 148, 0, 103, 777), (6, 253, 0, 102, 783), (6, 256, 0, 81, 784), (6, 259, 0, 85, 785), (6, 262, 0, 86, 786), (6, 265, 0, 87, 787), (6, 268, 0, 88, 788), (6, 271, 0, 89, 789), (6, 274, 0, 91, 790), (6, 277, 0, 84, 791), (6, 279, 0, 83, 792), (6, 282, 0, 78, 793), (6, 285, 0, 94, 794), (12, 12, 0, 113, 797), (7, 1, 3, 0, 800), (12, 121, 0, 122, 902), (7, 106, 0, 121, 906), (7, 93, 0, 114, 910), (7, 112, 0, 120, 914), (12, 125, 0, 123, 918), (12, 130, 0, 126, 922), (7, 116, 0, 124, 926), (7, 120, 0, 125, 930), (12, 134, 0, 127, 933), (12, 139, 0, 128, 938), (12, 17, 0, 132, 942), (7, 134, 0, 117, 947), (12, 22, 0, 133, 950), (12, 26, 0, 134, 954), (12, 30, 0, 135, 958), (12, 34, 0, 136, 963), (7, 143, 0, 130, 967), (7, 125, 0, 129, 971), (7, 147, 0, 131, 975), (7, 128, 0, 119, 979), (7, 97, 0, 116, 982), (12, 38, 0, 138, 985), (7, 154, 0, 137, 991), (12, 42, 0, 139, 995), (12, 52, 0, 146, 999), (7, 177, 0, 142, 1003), (7, 167, 0, 141, 1007), (7, 161, 0, 140, 1011), (7, 164, 0, 118, 1014), (7, 180, 0, 145, 1017), (7, 174, 0, 144, 1021), (7, 171, 0, 143, 1025), (12, 56, 0, 151, 1029), (7, 191, 0, 149, 1033), (7, 188, 0, 148, 1038), (7, 184, 0, 147, 1042), (7, 194, 0, 150, 1046), (12, 60, 0, 153, 1050), (7, 201, 0, 152, 1054), (12, 64, 0, 154, 1058), (12, 68, 0, 156, 1062), (7, 204, 0, 155, 1066), (12, 72, 0, 158, 1070), (7, 207, 0, 157, 1074), (12, 76, 0, 160, 1078), (7, 210, 0, 159, 1082), (12, 80, 0, 162, 1086), (7, 213, 0, 115, 1090), (7, 216, 0, 161, 1093), (12, 84, 0, 165, 1097), (7, 219, 0, 163, 1101), (12, 88, 0, 166, 1105), (7, 223, 0, 164, 1109), (12, 92, 0, 168, 1113), (7, 226, 0, 167, 1117), (12, 96, 0, 177, 1121), (7, 253, 0, 176, 1125), (7, 247, 0, 174, 1129), (7, 238, 0, 170, 1133), (7, 232, 0, 172, 1137), (7, 241, 0, 169, 1141), (7, 244, 0, 173, 1145), (7, 235, 0, 171, 1149), (7, 250, 0, 175, 1153), (12, 101, 0, 179, 1157), (7, 256, 0, 178, 1161), (12, 47, 0, 182, 1165), (7, 264, 0, 181, 1170), (7, 259, 0, 180, 1174), (12, 105, 0, 184, 1178), (7, 270, 0, 183, 1182), (12, 109, 0, 186, 1186), (7, 276, 0, 185, 1190), (12, 113, 0, 187, 1194), (12, 117, 0, 188, 1198), (12, 143, 0, 189, 1202), (12, 147, 0, 192, 1206), (7, 282, 0, 190, 1210), (7, 279, 0, 191, 1214), (12, 151, 0, 193, 1218), (7, 289, 0, 187, 1224)]
def cd_0 : List (Nat × Nat × gm_I) := [(0, 1, .aload_n 0, 0, 0, 0, 0), (1, 4, .invokespecial 3, 3, 0, 3, 0), (4, 5, .aload_n 0, 0, 0, 0, 0), (5, 6, .iconst 5, 0, 0, 0, 0), (6, 9, .putfield 9, 0, 0, 0, 0), (9, 10, .aload_n 0, 0, 0, 0, 0), (10, 12, .bipush 6, 0, 0, 0, 0), (12, 15, .putfield 15, 5, 0, 1, 0), (15, 16, .aload_n 0, 0, 0, 0, 0), (16, 17, .iconst 4, 0, 0, 0, 0), (17, 20, .putfield 18, 10, 0, 2, 0), (20, 21, .aload_n 0, 0, 0, 0, 0), (21, 22, .iconst 1, 0, 0, 0, 0), (22, 25, .putfield 21, 14, 0, 3, 0), (25, 26, .aload_n 0, 0, 0, 0, 0), (26, 27, .iconst 4, 0, 0, 0, 0), (27, 30, .putfield 24, 18, 0, 4, 0), (30, 31, .aload_n 0, 0, 0, 0, 0), (31, 32, .iconst 1, 0, 0, 0, 0), (32, 35, .putfield 27, 20, 0, 5, 0), (35, 36, .aload_n 0, 0, 0, 0, 0), (36, 38, .bipush 7, 0, 0, 0, 0), (38, 40, .newarray .int, 0, 0, 0, 0), (40, 43, .putfield 30, 23, 0, 6, 0), (43, 44, .return_, 0, 0, 0, 0)]
def cd_1 : List (Nat × Nat × gm_I) := [(0, 1, .aload_n 0, 0, 0, 0, 0), (1, 2, .iload_n 1, 0, 0, 0, 0), (2, 5, .putfield 9, 0, 0, 0, 0), (5, 6, .aload_n 0, 0, 0, 0, 0), (6, 7, .iload_n 2, 0, 0, 0, 0), (7, 10, .putfield 15, 5, 0, 1, 0), (10, 11, .aload_n 0, 0, 0, 0, 0), (11, 12, .aload_n 0, 0, 0, 0, 0), (12, 15, .getfield 18, 10, 0, 2, 0), (15, 16, .iload_n 2, 0, 0, 0, 0), (16, 19, .invokestatic 34, 16, 197, 4, 0), (19, 22, .putfield 18, 10, 0, 2, 0), (22, 23, .aload_n 0, 0, 0, 0, 0), (23, 26, .getfield 30, 23, 0, 6, 0), (26, 27, .iconst 0, 0, 0, 0, 0), (27, 30, .invokestatic 40, 17, 198, 0, 0), (30, 31, .aload_n 0, 0, 0, 0, 0), (31, 32, .dup, 0, 0, 0, 0), (32, 35, .getfield 27, 20, 0, 5, 0), (35, 36, .iconst 1, 0, 0, 0, 0), (36, 37, .iadd, 0, 0, 0, 0), (37, 40, .putfield 27, 20, 0, 5, 0), (40, 41, .return_, 0, 0, 0, 0)]
def cd_2 : List (Nat × Nat × gm_I) := [(0, 1, .aload_n 0, 0, 0, 0, 0), (1, 2, .iload_n 1, 0, 0, 0, 0), (2, 5, .putfield 18, 10, 0, 2, 0), (5, 6, .aload_n 0, 0, 0, 0, 0), (6, 7, .dup, 0, 0, 0, 0), (7, 10, .getfield 27, 20, 0, 5, 0), (10, 11, .iconst 1, 0, 0, 0, 0), (11, 12, .iadd, 0, 0, 0, 0), (12, 15, .putfield 27, 20, 0, 5, 0), (15, 16, .return_, 0, 0, 0, 0)]
def cd_3 : List (Nat × Nat × gm_I) := [(0, 1, .aload_n 0, 0, 0, 0, 0), (1, 2, .iload_n 1, 0, 0, 0, 0), (2, 5, .putfield 21, 14, 0, 3, 0), (5, 6, .aload_n 0, 0, 0, 0, 0), (6, 7, .dup, 0, 0, 0, 0), (7, 10, .getfield 27, 20, 0, 5, 0), (10, 11, .iconst 1, 0, 0, 0, 0), (11, 12, .iadd, 0, 0, 0, 0), (12, 15, .putfield 27, 20, 0, 5, 0), (15, 16, .return_, 0, 0, 0, 0)]
def cd_4 : List (Nat × Nat × gm_I) := [(0, 1, .aload_n 0, 0, 0, 0, 0), (1, 2, .iload_n 1, 0, 0, 0, 0), (2, 5, .putfield 24, 18, 0, 4, 0), (5, 6, .aload_n 0, 0, 0, 0, 0), (6, 7, .dup, 0, 0, 0, 0), (7, 10, .getfield 27, 20, 0, 5, 0), (10, 11, .iconst 1, 0, 0, 0, 0), (11, 12, .iadd, 0, 0, 0, 0), (12, 15, .putfield 27, 20, 0, 5, 0), (15, 16, .return_, 0, 0, 0, 0)]
def cd_5 : List (Nat × Nat × gm_I) := [(0, 1, .aload_n 0, 0, 0, 0, 0), (1, 4, .getfield 30, 23, 0, 6, 0), (4, 5, .iload_n 1, 0, 0, 0, 0), (5, 6, .iload_n 2, 0, 0, 0, 0), (6, 7, .iastore, 0, 0, 0, 0), (7, 8, .aload_n 0, 0, 0, 0, 0), (8, 9, .dup, 0, 0, 0, 0), (9, 12, .getfield 27, 20, 0, 5, 0), (12, 13, .iconst 1, 0, 0, 0, 0), (13, 14, .iadd, 0, 0, 0, 0), (14, 17, .putfield 27, 20, 0, 5, 0), (17, 18, .return_, 0, 0, 0, 0)]
def cd_6 : List (Nat × Nat × gm_I) := [(0, 1, .iload_n 1, 0, 0, 0, 0), (1, 4, .ifCond .lt 15, 0, 16, 0, 0), (4, 5, .iload_n 1, 0, 0, 0, 0), (5, 6, .aload_n 0, 0, 0, 0, 0), (6, 9, .getfield 9, 0, 0, 0, 0), (9, 12, .if_icmp .ge 7, 0, 16, 0, 0), (12, 13, .iconst 1, 0, 0, 0, 0), (13, 16, .goto 4, 0, 17, 0, 0), (16, 17, .iconst 0, 0, 0, 0, 0), (17, 18, .ireturn, 0, 0, 0, 0)]
def cd_7 : List (Nat × Nat × gm_I) := [(0, 1, .iload_n 1, 0, 0, 0, 0), (1, 4, .ifCond .lt 23, 0, 24, 0, 0), (4, 5, .iload_n 1, 0, 0, 0, 0), (5, 6, .aload_n 0, 0, 0, 0, 0), (6, 9, .getfield 15, 5, 0, 1, 0), (9, 12, .if_icmp .ge 15, 0, 24, 0, 0), (12, 13, .aload_n 0, 0, 0, 0, 0), (13, 14, .iload_n 2, 0, 0, 0, 0), (14, 17, .invokevirtual 46, 27, 6, 0, 0), (17, 20, .ifCond .eq 7, 0, 24, 0, 0), (20, 21, .iconst 1, 0, 0, 0, 0), (21, 24, .goto 4, 0, 25, 0, 0), (24, 25, .iconst 0, 0, 0, 0, 0), (25, 26, .ireturn, 0, 0, 0, 0)]
def cd_8 : List (Nat × Nat × gm_I) := [(0, 1, .iload_n 1, 0, 0, 0, 0), (1, 4, .ifCond .ne 12, 0, 13, 0, 0), (4, 5, .aload_n 0, 0, 0, 0, 0), (5, 8, .getfield 24, 18, 0, 4, 0), (8, 9, .iconst 1, 0, 0, 0, 0), (9, 10, .iand, 0, 0, 0, 0), (10, 13, .ifCond .ne 55, 0, 65, 0, 0), (13, 14, .iload_n 2, 0, 0, 0, 0), (14, 17, .ifCond .ne 12, 0, 26, 0, 0), (17, 18, .aload_n 0, 0, 0, 0, 0), (18, 21, .getfield 24, 18, 0, 4, 0), (21, 22, .iconst 2, 0, 0, 0, 0), (22, 23, .iand, 0, 0, 0, 0), (23, 26, .ifCond .ne 42, 0, 65, 0, 0), (26, 27, .iload_n 1, 0, 0, 0, 0), (27, 28, .aload_n 0, 0, 0, 0, 0), (28, 31, .getfield 15, 5, 0, 1, 0), (31, 32, .iconst 1, 0, 0, 0, 0), (32, 33, .isub, 0, 0, 0, 0), (33, 36, .if_icmp .ne 12, 0, 45, 0, 0), (36, 37, .aload_n 0, 0, 0, 0, 0), (37, 40, .getfield 24, 18, 0, 4, 0), (40, 41, .iconst 4, 0, 0, 0, 0), (41, 42, .iand, 0, 0, 0, 0), (42, 45, .ifCond .ne 23, 0, 65, 0, 0), (45, 46, .iload_n 2, 0, 0, 0, 0), (46, 47, .aload_n 0, 0, 0, 0, 0), (47, 50, .getfield 9, 0, 0, 0, 0), (50, 51, .iconst 1, 0, 0, 0, 0), (51, 52, .isub, 0, 0, 0, 0), (52, 55, .if_icmp .ne 17, 0, 69, 0, 0), (55, 56, .aload_n 0, 0, 0, 0, 0), (56, 59, .getfield 24, 18, 0, 4, 0), (59, 61, .bipush 8, 0, 0, 0, 0), (61, 62, .iand, 0, 0, 0, 0), (62, 65, .ifCond .eq 7, 0, 69, 0, 0), (65, 66, .iconst 1, 0, 0, 0, 0), (66, 69, .goto 4, 0, 70, 0, 0), (69, 70, .iconst 0, 0, 0, 0, 0), (70, 71, .ireturn, 0, 0, 0, 0)]
def cd_9 : List (Nat × Nat × gm_I) := [(0, 1, .iload_n 2, 0, 0, 0, 0), (1, 2, .aload_n 0, 0, 0, 0, 0), (2, 5, .getfield 15, 5, 0, 1, 0), (5, 6, .imul, 0, 0, 0, 0), (6, 7, .iload_n 1, 0, 0, 0, 0), (7, 8, .iadd, 0, 0, 0, 0), (8, 9, .ireturn, 0, 0, 0, 0)]
def cd_10 : List (Nat × Nat × gm_I) := [(0, 1, .aload_n 0, 0, 0, 0, 0), (1, 4, .getfield 9, 0, 0, 0, 0), (4, 5, .aload_n 0, 0, 0, 0, 0), (5, 8, .getfield 15, 5, 0, 1, 0), (8, 9, .imul, 0, 0, 0, 0), (9, 10, .ireturn, 0, 0, 0, 0)]
def cd_11 : List (Nat × Nat × gm_I) := [(0, 1, .iconst 0, 0, 0, 0, 0), (1, 2, .istore_n 1, 0, 0, 0, 0), (2, 3, .iconst 0, 0, 0, 0, 0), (3, 4, .istore_n 2, 0, 0, 0, 0), (4, 5, .iload_n 2, 0, 0, 0, 0), (5, 6, .aload_n 0, 0, 0, 0, 0), (6, 9, .getfield 9, 0, 0, 0, 0), (9, 12, .if_icmp .ge 21, 0, 30, 0, 0), (12, 13, .iload_n 1, 0, 0, 0, 0), (13, 14, .aload_n 0, 0, 0, 0, 0), (14, 17, .getfield 30, 23, 0, 6, 0), (17, 18, .iload_n 2, 0, 0, 0, 0), (18, 19, .iaload, 0, 0, 0, 0), (19, 22, .invokestatic 50, 30, 194, 0, 0), (22, 23, .iadd, 0, 0, 0, 0), (23, 24, .istore_n 1, 0, 0, 0, 0), (24, 27, .iinc 2 1, 0, 0, 0, 0), (27, 30, .goto (-23), 0, 4, 0, 0), (30, 31, .iload_n 1, 0, 0, 0, 0), (31, 32, .ireturn, 0, 0, 0, 0)]
def cd_12 : List (Nat × Nat × gm_I) := [(0, 1, .aload_n 0, 0, 0, 0, 0), (1, 4, .invokespecial 5, 9, 0, 3, 0), (4, 5, .aload_n 0, 0, 0, 0, 0), (5, 7, .bipush 81, 0, 0, 0, 0), (7, 9, .newarray .int, 0, 0, 0, 0), (9, 12, .putfield 11, 52, 1, 1, 0), (12, 13, .aload_n 0, 0, 0, 0, 0), (13, 15, .bipush 81, 0, 0, 0, 0), (15, 17, .newarray .int, 0, 0, 0, 0), (17, 20, .putfield 15, 53, 1, 2, 0), (20, 21, .aload_n 0, 0, 0, 0, 0), (21, 24, .sipush 162, 0, 0, 0, 0), (24, 26, .newarray .int, 0, 0, 0, 0), (26, 29, .putfield 18, 54, 1, 3, 0), (29, 30, .aload_n 0, 0, 0, 0, 0), (30, 33, .sipush 162, 0, 0, 0, 0), (33, 35, .newarray .int, 0, 0, 0, 0), (35, 38, .putfield 21, 55, 1, 4, 0), (38, 39, .aload_n 0, 0, 0, 0, 0), (39, 40, .aload_n 1, 0, 0, 0, 0), (40, 43, .putfield 24, 51, 1, 0, 0), (43, 44, .return_, 0, 0, 0, 0)]
def cd_13 : List (Nat × Nat × gm_I) := [(0, 1, .aload_n 0, 0, 0, 0, 0), (1, 4, .invokevirtual 28, 62, 15, 0, 0), (4, 5, .aload_n 0, 0, 0, 0, 0), (5, 8, .getfield 31, 58, 1, 7, 0), (8, 9, .ireturn, 0, 0, 0, 0)]
def cd_14 : List (Nat × Nat × gm_I) := [(0, 1, .aload_n 0, 0, 0, 0, 0), (1, 4, .invokevirtual 28, 62, 15, 0, 0), (4, 5, .aload_n 0, 0, 0, 0, 0), (5, 8, .getfield 35, 59, 1, 8, 0), (8, 9, .lreturn, 0, 0, 0, 0)]
def cd_15 : List (Nat × Nat × gm_I) := [(0, 1, .aload_n 0, 0, 0, 0, 0), (1, 4, .getfield 39, 57, 1, 6, 0), (4, 5, .aload_n 0, 0, 0, 0, 0), (5, 8, .getfield 24, 51, 1, 0, 0), (8, 11, .getfield 42, 22, 0, 5, 0), (11, 14, .if_icmp .ne 4, 0, 15, 0, 0), (14, 15, .return_, 0, 0, 0, 0), (15, 16, .aload_n 0, 0, 0, 0, 0), (16, 17, .aload_n 0, 0, 0, 0, 0), (17, 20, .getfield 24, 51, 1, 0, 0), (20, 23, .getfield 42, 22, 0, 5, 0), (23, 26, .putfield 39, 57, 1, 6, 0), (26, 27, .aload_n 0, 0, 0, 0, 0), (27, 30, .invokevirtual 45, 63, 16, 0, 0), (30, 31, .aload_n 0, 0, 0, 0, 0), (31, 34, .getfield 15, 53, 1, 2, 0), (34, 36, .bipush (-3), 0, 0, 0, 0), (36, 39, .invokestatic 48, 64, 198, 0, 0), (39, 40, .aload_n 0, 0, 0, 0, 0), (40, 41, .iconst 0, 0, 0, 0, 0), (41, 44, .putfield 31, 58, 1, 7, 0), (44, 45, .aload_n 0, 0, 0, 0, 0), (45, 48, .invokevirtual 54, 68, 17, 0, 0), (48, 49, .istore_n 1, 0, 0, 0, 0), (49, 50, .iconst 0, 0, 0, 0, 0), (50, 51, .istore_n 2, 0, 0, 0, 0), (51, 52, .iload_n 2, 0, 0, 0, 0), (52, 54, .bipush 49, 0, 0, 0, 0), (54, 57, .if_icmp .ge 34, 0, 88, 0, 0), (57, 58, .iload_n 1, 0, 0, 0, 0), (58, 59, .iconst (-1), 0, 0, 0, 0), (59, 62, .if_icmp .eq 29, 0, 88, 0, 0), (62, 63, .aload_n 0, 0, 0, 0, 0), (63, 64, .iload_n 1, 0, 0, 0, 0), (64, 67, .invokevirtual 58, 72, 21, 0, 0), (67, 68, .aload_n 0, 0, 0, 0, 0), (68, 69, .dup, 0, 0, 0, 0), (69, 72, .getfield 31, 58, 1, 7, 0), (72, 73, .iconst 1, 0, 0, 0, 0), (73, 74, .iadd, 0, 0, 0, 0), (74, 77, .putfield 31, 58, 1, 7, 0), (77, 78, .aload_n 0, 0, 0, 0, 0), (78, 81, .invokevirtual 54, 68, 17, 0, 0), (81, 82, .istore_n 1, 0, 0, 0, 0), (82, 85, .iinc 2 1, 0, 0, 0, 0), (85, 88, .goto (-34), 0, 51, 0, 0), (88, 89, .aload_n 0, 0, 0, 0, 0), (89, 90, .aload_n 0, 0, 0, 0, 0), (90, 93, .invokevirtual 62, 73, 22, 0, 0), (93, 96, .putfield 35, 59, 1, 8, 0), (96, 97, .return_, 0, 0, 0, 0)]
def cd_16 : List (Nat × Nat × gm_I) := [(0, 1, .aload_n 0, 0, 0, 0, 0), (1, 4, .getfield 11, 52, 1, 1, 0), (4, 5, .iconst 0, 0, 0, 0, 0), (5, 8, .invokestatic 48, 64, 198, 0, 0), (8, 9, .iconst 0, 0, 0, 0, 0), (9, 10, .istore_n 1, 0, 0, 0, 0), (10, 11, .iload_n 1, 0, 0, 0, 0), (11, 12, .aload_n 0, 0, 0, 0, 0), (12, 15, .getfield 24, 51, 1, 0, 0), (15, 18, .getfield 66, 3, 0, 0, 0), (18, 21, .if_icmp .ge 80, 0, 98, 0, 0), (21, 22, .iconst 0, 0, 0, 0, 0), (22, 23, .istore_n 2, 0, 0, 0, 0), (23, 24, .iload_n 2, 0, 0, 0, 0), (24, 25, .aload_n 0, 0, 0, 0, 0), (25, 28, .getfield 24, 51, 1, 0, 0), (28, 31, .getfield 69, 9, 0, 1, 0), (31, 34, .if_icmp .ge 61, 0, 92, 0, 0), (34, 35, .aload_n 0, 0, 0, 0, 0), (35, 38, .getfield 24, 51, 1, 0, 0), (38, 41, .getfield 72, 25, 0, 6, 0), (41, 42, .iload_n 1, 0, 0, 0, 0), (42, 43, .iaload, 0, 0, 0, 0), (43, 44, .iload_n 2, 0, 0, 0, 0), (44, 47, .invokestatic 75, 65, 109, 1, 0), (47, 48, .iconst 1, 0, 0, 0, 0), (48, 51, .if_icmp .ne 7, 0, 55, 0, 0), (51, 52, .iconst 2, 0, 0, 0, 0), (52, 55, .goto 4, 0, 56, 0, 0), (55, 56, .iconst 1, 0, 0, 0, 0), (56, 57, .istore_n 3, 0, 0, 0, 0), (57, 58, .aload_n 0, 0, 0, 0, 0), (58, 61, .getfield 11, 52, 1, 1, 0), (61, 62, .iload_n 2, 0, 0, 0, 0), (62, 63, .iload_n 1, 0, 0, 0, 0), (63, 66, .invokestatic 79, 66, 23, 0, 0), (66, 67, .aload_n 0, 0, 0, 0, 0), (67, 70, .getfield 24, 51, 1, 0, 0), (70, 71, .iload_n 2, 0, 0, 0, 0), (71, 72, .iload_n 1, 0, 0, 0, 0), (72, 75, .invokevirtual 82, 67, 8, 0, 0), (75, 78, .ifCond .eq 9, 0, 84, 0, 0), (78, 79, .iload_n 3, 0, 0, 0, 0), (79, 80, .iconst 4, 0, 0, 0, 0), (80, 81, .ior, 0, 0, 0, 0), (81, 84, .goto 4, 0, 85, 0, 0), (84, 85, .iload_n 3, 0, 0, 0, 0), (85, 86, .iastore, 0, 0, 0, 0), (86, 89, .iinc 2 1, 0, 0, 0, 0), (89, 92, .goto (-66), 0, 23, 0, 0), (92, 95, .iinc 1 1, 0, 0, 0, 0), (95, 98, .goto (-85), 0, 10, 0, 0), (98, 99, .return_, 0, 0, 0, 0)]
def cd_17 : List (Nat × Nat × gm_I) := [(0, 1, .aload_n 0, 0, 0, 0, 0), (1, 2, .iconst 0, 0, 0, 0, 0), (2, 5, .putfield 86, 56, 1, 5, 0), (5, 6, .iconst 0, 0, 0, 0, 0), (6, 7, .istore_n 1, 0, 0, 0, 0), (7, 8, .iload_n 1, 0, 0, 0, 0), (8, 10, .bipush 81, 0, 0, 0, 0), (10, 13, .if_icmp .ge 64, 0, 74, 0, 0), (13, 14, .aload_n 0, 0, 0, 0, 0), (14, 17, .getfield 18, 54, 1, 3, 0), (17, 18, .iconst 2, 0, 0, 0, 0), (18, 19, .iload_n 1, 0, 0, 0, 0), (19, 20, .imul, 0, 0, 0, 0), (20, 21, .aload_n 0, 0, 0, 0, 0), (21, 24, .getfield 11, 52, 1, 1, 0), (24, 25, .iload_n 1, 0, 0, 0, 0), (25, 26, .iaload, 0, 0, 0, 0), (26, 29, .ifCond .ne 8, 0, 34, 0, 0), (29, 31, .bipush (-4), 0, 0, 0, 0), (31, 34, .goto 5, 0, 36, 0, 0), (34, 36, .bipush (-2), 0, 0, 0, 0), (36, 37, .iastore, 0, 0, 0, 0), (37, 38, .aload_n 0, 0, 0, 0, 0), (38, 41, .getfield 18, 54, 1, 3, 0), (41, 42, .iconst 2, 0, 0, 0, 0), (42, 43, .iload_n 1, 0, 0, 0, 0), (43, 44, .imul, 0, 0, 0, 0), (44, 45, .iconst 1, 0, 0, 0, 0), (45, 46, .iadd, 0, 0, 0, 0), (46, 48, .bipush (-2), 0, 0, 0, 0), (48, 49, .iastore, 0, 0, 0, 0), (49, 50, .aload_n 0, 0, 0, 0, 0), (50, 53, .getfield 11, 52, 1, 1, 0), (53, 54, .iload_n 1, 0, 0, 0, 0), (54, 55, .iaload, 0, 0, 0, 0), (55, 56, .iconst 2, 0, 0, 0, 0), (56, 57, .iand, 0, 0, 0, 0), (57, 60, .ifCond .eq 11, 0, 68, 0, 0), (60, 61, .aload_n 0, 0, 0, 0, 0), (61, 62, .iconst 2, 0, 0, 0, 0), (62, 63, .iload_n 1, 0, 0, 0, 0), (63, 64, .imul, 0, 0, 0, 0), (64, 65, .iconst (-1), 0, 0, 0, 0), (65, 68, .invokevirtual 89, 69, 20, 0, 0), (68, 71, .iinc 1 1, 0, 0, 0, 0), (71, 74, .goto (-64), 0, 7, 0, 0), (74, 75, .iconst 0, 0, 0, 0, 0), (75, 76, .istore_n 1, 0, 0, 0, 0), (76, 77, .iload_n 1, 0, 0, 0, 0), (77, 78, .aload_n 0, 0, 0, 0, 0), (78, 81, .getfield 86, 56, 1, 5, 0), (81, 84, .if_icmp .ge 57, 0, 138, 0, 0), (84, 85, .iload_n 1, 0, 0, 0, 0), (85, 88, .sipush 162, 0, 0, 0, 0), (88, 91, .if_icmp .ge 50, 0, 138, 0, 0), (91, 92, .aload_n 0, 0, 0, 0, 0), (92, 95, .getfield 21, 55, 1, 4, 0), (95, 96, .iload_n 1, 0, 0, 0, 0), (96, 97, .iaload, 0, 0, 0, 0), (97, 98, .istore_n 2, 0, 0, 0, 0), (98, 99, .iload_n 2, 0, 0, 0, 0), (99, 100, .iconst 2, 0, 0, 0, 0), (100, 101, .irem, 0, 0, 0, 0), (101, 104, .ifCond .ne 11, 0, 112, 0, 0), (104, 105, .aload_n 0, 0, 0, 0, 0), (105, 106, .iload_n 2, 0, 0, 0, 0), (106, 109, .invokevirtual 93, 70, 18, 0, 0), (109, 112, .goto 23, 0, 132, 0, 0), (112, 113, .aload_n 0, 0, 0, 0, 0), (113, 116, .getfield 11, 52, 1, 1, 0), (116, 117, .iload_n 2, 0, 0, 0, 0), (117, 118, .iconst 2, 0, 0, 0, 0), (118, 119, .idiv, 0, 0, 0, 0), (119, 120, .iaload, 0, 0, 0, 0), (120, 121, .iconst 4, 0, 0, 0, 0), (121, 122, .iand, 0, 0, 0, 0), (122, 125, .ifCond .eq 5, 0, 127, 0, 0), (125, 126, .iload_n 2, 0, 0, 0, 0), (126, 127, .ireturn, 0, 0, 0, 0), (127, 128, .aload_n 0, 0, 0, 0, 0), (128, 129, .iload_n 2, 0, 0, 0, 0), (129, 132, .invokevirtual 96, 71, 19, 0, 0), (132, 135, .iinc 1 1, 0, 0, 0, 0), (135, 138, .goto (-59), 0, 76, 0, 0), (138, 139, .iconst (-1), 0, 0, 0, 0), (139, 140, .ireturn, 0, 0, 0, 0)]
def cd_18 : List (Nat × Nat × gm_I) := [(0, 1, .aload_n 0, 0, 0, 0, 0), (1, 4, .getfield 15, 53, 1, 2, 0), (4, 5, .iload_n 1, 0, 0, 0, 0), (5, 6, .iconst 2, 0, 0, 0, 0), (6, 7, .idiv, 0, 0, 0, 0), (7, 8, .iaload, 0, 0, 0, 0), (8, 9, .istore_n 2, 0, 0, 0, 0), (9, 10, .iload_n 2, 0, 0, 0, 0), (10, 12, .bipush (-3), 0, 0, 0, 0), (12, 15, .if_icmp .ne 14, 0, 26, 0, 0), (15, 16, .aload_n 0, 0, 0, 0, 0), (16, 17, .iload_n 1, 0, 0, 0, 0), (17, 18, .iconst 1, 0, 0, 0, 0), (18, 19, .iadd, 0, 0, 0, 0), (19, 20, .iload_n 1, 0, 0, 0, 0), (20, 23, .invokevirtual 89, 69, 20, 0, 0), (23, 26, .goto 18, 0, 41, 0, 0), (26, 27, .iload_n 2, 0, 0, 0, 0), (27, 28, .iconst (-1), 0, 0, 0, 0), (28, 31, .if_icmp .eq 13, 0, 41, 0, 0), (31, 32, .aload_n 0, 0, 0, 0, 0), (32, 33, .iconst 2, 0, 0, 0, 0), (33, 34, .iload_n 2, 0, 0, 0, 0), (34, 35, .imul, 0, 0, 0, 0), (35, 36, .iconst 1, 0, 0, 0, 0), (36, 37, .iadd, 0, 0, 0, 0), (37, 38, .iload_n 1, 0, 0, 0, 0), (38, 41, .invokevirtual 89, 69, 20, 0, 0), (41, 42, .return_, 0, 0, 0, 0)]
def cd_19 : List (Nat × Nat × gm_I) := [(0, 1, .iload_n 1, 0, 0, 0, 0), (1, 2, .iconst 2, 0, 0, 0, 0), (2, 3, .idiv, 0, 0, 0, 0), (3, 4, .istore_n 2, 0, 0, 0, 0), (4, 5, .aload_n 0, 0, 0, 0, 0), (5, 8, .getfield 15, 53, 1, 2, 0), (8, 9, .iload_n 2, 0, 0, 0, 0), (9, 10, .iaload, 0, 0, 0, 0), (10, 12, .bipush (-3), 0, 0, 0, 0), (12, 15, .if_icmp .eq 11, 0, 23, 0, 0), (15, 16, .aload_n 0, 0, 0, 0, 0), (16, 17, .iload_n 1, 0, 0, 0, 0), (17, 18, .iconst 1, 0, 0, 0, 0), (18, 19, .isub, 0, 0, 0, 0), (19, 20, .iload_n 1, 0, 0, 0, 0), (20, 23, .invokevirtual 89, 69, 20, 0, 0), (23, 24, .aload_n 0, 0, 0, 0, 0), (24, 25, .iconst 2, 0, 0, 0, 0), (25, 26, .iload_n 2, 0, 0, 0, 0), (26, 27, .iconst 1, 0, 0, 0, 0), (27, 28, .isub, 0, 0, 0, 0), (28, 29, .imul, 0, 0, 0, 0), (29, 30, .iload_n 1, 0, 0, 0, 0), (30, 33, .invokevirtual 89, 69, 20, 0, 0), (33, 34, .aload_n 0, 0, 0, 0, 0), (34, 35, .iconst 2, 0, 0, 0, 0), (35, 36, .iload_n 2, 0, 0, 0, 0), (36, 37, .iconst 1, 0, 0, 0, 0), (37, 38, .iadd, 0, 0, 0, 0), (38, 39, .imul, 0, 0, 0, 0), (39, 40, .iload_n 1, 0, 0, 0, 0), (40, 43, .invokevirtual 89, 69, 20, 0, 0), (43, 44, .aload_n 0, 0, 0, 0, 0), (44, 45, .iconst 2, 0, 0, 0, 0), (45, 46, .iload_n 2, 0, 0, 0, 0), (46, 48, .bipush 9, 0, 0, 0, 0), (48, 49, .isub, 0, 0, 0, 0), (49, 50, .imul, 0, 0, 0, 0), (50, 51, .iload_n 1, 0, 0, 0, 0), (51, 54, .invokevirtual 89, 69, 20, 0, 0), (54, 55, .aload_n 0, 0, 0, 0, 0), (55, 56, .iconst 2, 0, 0, 0, 0), (56, 57, .iload_n 2, 0, 0, 0, 0), (57, 59, .bipush 9, 0, 0, 0, 0), (59, 60, .iadd, 0, 0, 0, 0), (60, 61, .imul, 0, 0, 0, 0), (61, 62, .iload_n 1, 0, 0, 0, 0), (62, 65, .invokevirtual 89, 69, 20, 0, 0), (65, 66, .return_, 0, 0, 0, 0)]
def cd_20 : List (Nat × Nat × gm_I) := [(0, 1, .iload_n 1, 0, 0, 0, 0), (1, 4, .ifCond .lt 58, 0, 59, 0, 0), (4, 5, .iload_n 1, 0, 0, 0, 0), (5, 8, .sipush 162, 0, 0, 0, 0), (8, 11, .if_icmp .ge 51, 0, 59, 0, 0), (11, 12, .aload_n 0, 0, 0, 0, 0), (12, 15, .getfield 86, 56, 1, 5, 0), (15, 18, .sipush 162, 0, 0, 0, 0), (18, 21, .if_icmp .ge 41, 0, 59, 0, 0), (21, 22, .aload_n 0, 0, 0, 0, 0), (22, 25, .getfield 18, 54, 1, 3, 0), (25, 26, .iload_n 1, 0, 0, 0, 0), (26, 27, .iaload, 0, 0, 0, 0), (27, 29, .bipush (-2), 0, 0, 0, 0), (29, 32, .if_icmp .ne 30, 0, 59, 0, 0), (32, 33, .aload_n 0, 0, 0, 0, 0), (33, 36, .getfield 18, 54, 1, 3, 0), (36, 37, .iload_n 1, 0, 0, 0, 0), (37, 38, .iload_n 2, 0, 0, 0, 0), (38, 39, .iastore, 0, 0, 0, 0), (39, 40, .aload_n 0, 0, 0, 0, 0), (40, 43, .getfield 21, 55, 1, 4, 0), (43, 44, .aload_n 0, 0, 0, 0, 0), (44, 47, .getfield 86, 56, 1, 5, 0), (47, 48, .iload_n 1, 0, 0, 0, 0), (48, 49, .iastore, 0, 0, 0, 0), (49, 50, .aload_n 0, 0, 0, 0, 0), (50, 51, .dup, 0, 0, 0, 0), (51, 54, .getfield 86, 56, 1, 5, 0), (54, 55, .iconst 1, 0, 0, 0, 0), (55, 56, .iadd, 0, 0, 0, 0), (56, 59, .putfield 86, 56, 1, 5, 0), (59, 60, .return_, 0, 0, 0, 0)]
def cd_21 : List (Nat × Nat × gm_I) := [(0, 1, .iload_n 1, 0, 0, 0, 0), (1, 2, .istore_n 2, 0, 0, 0, 0), (2, 3, .iconst 0, 0, 0, 0, 0), (3, 4, .istore_n 3, 0, 0, 0, 0), (4, 5, .iload_n 3, 0, 0, 0, 0), (5, 8, .sipush 162, 0, 0, 0, 0), (8, 11, .if_icmp .ge 65, 0, 73, 0, 0), (11, 12, .iload_n 2, 0, 0, 0, 0), (12, 15, .ifCond .lt 61, 0, 73, 0, 0), (15, 16, .aload_n 0, 0, 0, 0, 0), (16, 19, .getfield 18, 54, 1, 3, 0), (19, 20, .iload_n 2, 0, 0, 0, 0), (20, 21, .iaload, 0, 0, 0, 0), (21, 23, .istore 4, 0, 0, 0, 0), (23, 24, .iload_n 2, 0, 0, 0, 0), (24, 25, .iconst 2, 0, 0, 0, 0), (25, 26, .irem, 0, 0, 0, 0), (26, 29, .ifCond .ne 38, 0, 64, 0, 0), (29, 30, .aload_n 0, 0, 0, 0, 0), (30, 33, .getfield 15, 53, 1, 2, 0), (33, 34, .iload_n 2, 0, 0, 0, 0), (34, 35, .iconst 2, 0, 0, 0, 0), (35, 36, .idiv, 0, 0, 0, 0), (36, 38, .iload 4, 0, 0, 0, 0), (38, 39, .iconst (-1), 0, 0, 0, 0), (39, 42, .if_icmp .ne 7, 0, 46, 0, 0), (42, 43, .iconst (-1), 0, 0, 0, 0), (43, 46, .goto 20, 0, 63, 0, 0), (46, 48, .iload 4, 0, 0, 0, 0), (48, 49, .iload_n 2, 0, 0, 0, 0), (49, 50, .iconst 1, 0, 0, 0, 0), (50, 51, .iadd, 0, 0, 0, 0), (51, 54, .if_icmp .ne 8, 0, 59, 0, 0), (54, 56, .bipush (-3), 0, 0, 0, 0), (56, 59, .goto 7, 0, 63, 0, 0), (59, 61, .iload 4, 0, 0, 0, 0), (61, 62, .iconst 2, 0, 0, 0, 0), (62, 63, .idiv, 0, 0, 0, 0), (63, 64, .iastore, 0, 0, 0, 0), (64, 66, .iload 4, 0, 0, 0, 0), (66, 67, .istore_n 2, 0, 0, 0, 0), (67, 70, .iinc 3 1, 0, 0, 0, 0), (70, 73, .goto (-66), 0, 4, 0, 0), (73, 74, .return_, 0, 0, 0, 0)]
def cd_22 : List (Nat × Nat × gm_I) := [(0, 1, .lconst 0, 0, 0, 0, 0), (1, 2, .lstore_n 1, 0, 0, 0, 0), (2, 3, .iconst 0, 0, 0, 0, 0), (3, 4, .istore_n 3, 0, 0, 0, 0), (4, 5, .iload_n 3, 0, 0, 0, 0), (5, 6, .aload_n 0, 0, 0, 0, 0), (6, 9, .getfield 24, 51, 1, 0, 0), (9, 12, .getfield 66, 3, 0, 0, 0), (12, 15, .if_icmp .ge 81, 0, 93, 0, 0), (15, 16, .iconst 0, 0, 0, 0, 0), (16, 18, .istore 4, 0, 0, 0, 0), (18, 20, .iload 4, 0, 0, 0, 0), (20, 21, .aload_n 0, 0, 0, 0, 0), (21, 24, .getfield 24, 51, 1, 0, 0), (24, 27, .getfield 69, 9, 0, 1, 0), (27, 30, .if_icmp .ge 60, 0, 87, 0, 0), (30, 31, .iconst 2, 0, 0, 0, 0), (31, 33, .iload 4, 0, 0, 0, 0), (33, 34, .iload_n 3, 0, 0, 0, 0), (34, 37, .invokestatic 79, 66, 23, 0, 0), (37, 38, .imul, 0, 0, 0, 0), (38, 40, .istore 5, 0, 0, 0, 0), (40, 41, .aload_n 0, 0, 0, 0, 0), (41, 44, .getfield 18, 54, 1, 3, 0), (44, 46, .iload 5, 0, 0, 0, 0), (46, 47, .iaload, 0, 0, 0, 0), (47, 49, .bipush (-2), 0, 0, 0, 0), (49, 52, .if_icmp .eq 32, 0, 81, 0, 0), (52, 53, .aload_n 0, 0, 0, 0, 0), (53, 56, .getfield 18, 54, 1, 3, 0), (56, 58, .iload 5, 0, 0, 0, 0), (58, 59, .iconst 1, 0, 0, 0, 0), (59, 60, .iadd, 0, 0, 0, 0), (60, 61, .iaload, 0, 0, 0, 0), (61, 63, .bipush (-2), 0, 0, 0, 0), (63, 66, .if_icmp .ne 18, 0, 81, 0, 0), (66, 67, .lload_n 1, 0, 0, 0, 0), (67, 68, .lconst 1, 0, 0, 0, 0), (68, 69, .aload_n 0, 0, 0, 0, 0), (69, 72, .getfield 24, 51, 1, 0, 0), (72, 74, .iload 4, 0, 0, 0, 0), (74, 75, .iload_n 3, 0, 0, 0, 0), (75, 78, .invokevirtual 99, 74, 9, 0, 0), (78, 79, .lshl, 0, 0, 0, 0), (79, 80, .lor, 0, 0, 0, 0), (80, 81, .lstore_n 1, 0, 0, 0, 0), (81, 84, .iinc 4 1, 0, 0, 0, 0), (84, 87, .goto (-66), 0, 18, 0, 0), (87, 90, .iinc 3 1, 0, 0, 0, 0), (90, 93, .goto (-86), 0, 4, 0, 0), (93, 94, .lload_n 1, 0, 0, 0, 0), (94, 95, .lreturn, 0, 0, 0, 0)]
def cd_23 : List (Nat × Nat × gm_I) := [(0, 1, .iload_n 1, 0, 0, 0, 0), (1, 2, .iconst 1, 0, 0, 0, 0), (2, 3, .iadd, 0, 0, 0, 0), (3, 5, .bipush 9, 0, 0, 0, 0), (5, 6, .imul, 0, 0, 0, 0), (6, 7, .iload_n 0, 0, 0, 0, 0), (7, 8, .iadd, 0, 0, 0, 0), (8, 9, .iconst 1, 0, 0, 0, 0), (9, 10, .iadd, 0, 0, 0, 0), (10, 11, .ireturn, 0, 0, 0, 0)]
def cd_24 : List (Nat × Nat × gm_I) := [(0, 1, .aload_n 0, 0, 0, 0, 0), (1, 4, .invokespecial 3, 11, 0, 3, 0), (4, 5, .aload_n 0, 0, 0, 0, 0), (5, 7, .bipush 7, 0, 0, 0, 0), (7, 9, .newarray .int, 0, 0, 0, 0), (9, 12, .putfield 9, 65, 2, 4, 0), (12, 13, .return_, 0, 0, 0, 0)]
def cd_25 : List (Nat × Nat × gm_I) := [(0, 1, .aload_n 0, 0, 0, 0, 0), (1, 2, .aload_n 1, 0, 0, 0, 0), (2, 5, .getfield 15, 60, 2, 0, 0), (5, 8, .putfield 15, 60, 2, 0, 0), (8, 9, .aload_n 0, 0, 0, 0, 0), (9, 10, .aload_n 1, 0, 0, 0, 0), (10, 13, .getfield 19, 62, 2, 1, 0), (13, 16, .putfield 19, 62, 2, 1, 0), (16, 17, .aload_n 0, 0, 0, 0, 0), (17, 18, .aload_n 1, 0, 0, 0, 0), (18, 21, .getfield 23, 63, 2, 2, 0), (21, 24, .putfield 23, 63, 2, 2, 0), (24, 25, .aload_n 0, 0, 0, 0, 0), (25, 26, .aload_n 1, 0, 0, 0, 0), (26, 29, .getfield 26, 64, 2, 3, 0), (29, 32, .putfield 26, 64, 2, 3, 0), (32, 33, .aload_n 1, 0, 0, 0, 0), (33, 36, .getfield 9, 65, 2, 4, 0), (36, 37, .iconst 0, 0, 0, 0, 0), (37, 38, .aload_n 0, 0, 0, 0, 0), (38, 41, .getfield 9, 65, 2, 4, 0), (41, 42, .iconst 0, 0, 0, 0, 0), (42, 44, .bipush 7, 0, 0, 0, 0), (44, 47, .invokestatic 29, 119, 0, 2, 0), (47, 48, .return_, 0, 0, 0, 0)]
def cd_26 : List (Nat × Nat × gm_I) := [(0, 1, .aload_n 0, 0, 0, 0, 0), (1, 2, .iconst 1, 0, 0, 0, 0), (2, 5, .putfield 15, 60, 2, 0, 0), (5, 6, .aload_n 0, 0, 0, 0, 0), (6, 7, .aload_n 1, 0, 0, 0, 0), (7, 10, .getfield 35, 2, 0, 0, 0), (10, 13, .putfield 19, 62, 2, 1, 0), (13, 14, .aload_n 0, 0, 0, 0, 0), (14, 15, .aload_n 1, 0, 0, 0, 0), (15, 18, .getfield 38, 8, 0, 1, 0), (18, 21, .putfield 23, 63, 2, 2, 0), (21, 22, .aload_n 0, 0, 0, 0, 0), (22, 23, .aload_n 1, 0, 0, 0, 0), (23, 26, .getfield 39, 13, 0, 2, 0), (26, 29, .putfield 26, 64, 2, 3, 0), (29, 30, .return_, 0, 0, 0, 0)]
def cd_27 : List (Nat × Nat × gm_I) := [(0, 1, .aload_n 0, 0, 0, 0, 0), (1, 4, .getfield 19, 62, 2, 1, 0), (4, 5, .aload_n 1, 0, 0, 0, 0), (5, 8, .getfield 35, 2, 0, 0, 0), (8, 11, .if_icmp .ne 29, 0, 37, 0, 0), (11, 12, .aload_n 0, 0, 0, 0, 0), (12, 15, .getfield 23, 63, 2, 2, 0), (15, 16, .aload_n 1, 0, 0, 0, 0), (16, 19, .getfield 38, 8, 0, 1, 0), (19, 22, .if_icmp .ne 18, 0, 37, 0, 0), (22, 23, .aload_n 0, 0, 0, 0, 0), (23, 26, .getfield 26, 64, 2, 3, 0), (26, 27, .aload_n 1, 0, 0, 0, 0), (27, 30, .getfield 39, 13, 0, 2, 0), (30, 33, .if_icmp .ne 7, 0, 37, 0, 0), (33, 34, .iconst 1, 0, 0, 0, 0), (34, 37, .goto 4, 0, 38, 0, 0), (37, 38, .iconst 0, 0, 0, 0, 0), (38, 39, .ireturn, 0, 0, 0, 0)]
def cd_28 : List (Nat × Nat × gm_I) := [(0, 1, .aload_n 0, 0, 0, 0, 0), (1, 4, .getfield 15, 60, 2, 0, 0), (4, 7, .ifCond .eq 12, 0, 16, 0, 0), (7, 8, .aload_n 0, 0, 0, 0, 0), (8, 11, .getfield 9, 65, 2, 4, 0), (11, 12, .iload_n 1, 0, 0, 0, 0), (12, 13, .iaload, 0, 0, 0, 0), (13, 16, .goto 8, 0, 21, 0, 0), (16, 17, .iconst 1, 0, 0, 0, 0), (17, 18, .iload_n 2, 0, 0, 0, 0), (18, 19, .ishl, 0, 0, 0, 0), (19, 20, .iconst 1, 0, 0, 0, 0), (20, 21, .isub, 0, 0, 0, 0), (21, 22, .ireturn, 0, 0, 0, 0)]
def cd_29 : List (Nat × Nat × gm_I) := [(0, 1, .iconst 0, 0, 0, 0, 0), (1, 2, .istore_n 2, 0, 0, 0, 0), (2, 3, .iconst 0, 0, 0, 0, 0), (3, 4, .istore_n 3, 0, 0, 0, 0), (4, 5, .iload_n 3, 0, 0, 0, 0), (5, 6, .aload_n 1, 0, 0, 0, 0), (6, 9, .getfield 35, 2, 0, 0, 0), (9, 12, .if_icmp .ge 66, 0, 75, 0, 0), (12, 13, .iload_n 2, 0, 0, 0, 0), (13, 14, .aload_n 0, 0, 0, 0, 0), (14, 17, .getfield 9, 65, 2, 4, 0), (17, 18, .iload_n 3, 0, 0, 0, 0), (18, 19, .iaload, 0, 0, 0, 0), (19, 20, .aload_n 1, 0, 0, 0, 0), (20, 23, .getfield 40, 26, 0, 6, 0), (23, 24, .iload_n 3, 0, 0, 0, 0), (24, 25, .iaload, 0, 0, 0, 0), (25, 26, .iand, 0, 0, 0, 0), (26, 29, .invokestatic 43, 100, 194, 0, 0), (29, 30, .iadd, 0, 0, 0, 0), (30, 31, .istore_n 2, 0, 0, 0, 0), (31, 32, .iload_n 2, 0, 0, 0, 0), (32, 33, .aload_n 0, 0, 0, 0, 0), (33, 36, .getfield 9, 65, 2, 4, 0), (36, 37, .iload_n 3, 0, 0, 0, 0), (37, 38, .iaload, 0, 0, 0, 0), (38, 39, .aload_n 1, 0, 0, 0, 0), (39, 42, .invokestatic 49, 101, 30, 0, 0), (42, 43, .iadd, 0, 0, 0, 0), (43, 44, .istore_n 2, 0, 0, 0, 0), (44, 45, .iload_n 3, 0, 0, 0, 0), (45, 48, .ifCond .le 24, 0, 69, 0, 0), (48, 49, .iload_n 2, 0, 0, 0, 0), (49, 50, .aload_n 0, 0, 0, 0, 0), (50, 53, .getfield 9, 65, 2, 4, 0), (53, 54, .iload_n 3, 0, 0, 0, 0), (54, 55, .iconst 1, 0, 0, 0, 0), (55, 56, .isub, 0, 0, 0, 0), (56, 57, .iaload, 0, 0, 0, 0), (57, 58, .aload_n 0, 0, 0, 0, 0), (58, 61, .getfield 9, 65, 2, 4, 0), (61, 62, .iload_n 3, 0, 0, 0, 0), (62, 63, .iaload, 0, 0, 0, 0), (63, 64, .aload_n 1, 0, 0, 0, 0), (64, 67, .invokestatic 53, 103, 31, 0, 0), (67, 68, .iadd, 0, 0, 0, 0), (68, 69, .istore_n 2, 0, 0, 0, 0), (69, 72, .iinc 3 1, 0, 0, 0, 0), (72, 75, .goto (-68), 0, 4, 0, 0), (75, 76, .iload_n 2, 0, 0, 0, 0), (76, 77, .ireturn, 0, 0, 0, 0)]
def cd_30 : List (Nat × Nat × gm_I) := [(0, 1, .iconst 0, 0, 0, 0, 0), (1, 2, .istore_n 2, 0, 0, 0, 0), (2, 3, .iconst 1, 0, 0, 0, 0), (3, 4, .istore_n 3, 0, 0, 0, 0), (4, 5, .iload_n 3, 0, 0, 0, 0), (5, 6, .aload_n 1, 0, 0, 0, 0), (6, 9, .getfield 39, 13, 0, 2, 0), (9, 12, .if_icmp .ge 34, 0, 43, 0, 0), (12, 13, .iload_n 0, 0, 0, 0, 0), (13, 14, .iload_n 3, 0, 0, 0, 0), (14, 17, .invokestatic 57, 102, 110, 1, 0), (17, 18, .iload_n 0, 0, 0, 0, 0), (18, 19, .iload_n 3, 0, 0, 0, 0), (19, 20, .iconst 1, 0, 0, 0, 0), (20, 21, .isub, 0, 0, 0, 0), (21, 24, .invokestatic 57, 102, 110, 1, 0), (24, 25, .isub, 0, 0, 0, 0), (25, 26, .iconst 1, 0, 0, 0, 0), (26, 27, .isub, 0, 0, 0, 0), (27, 28, .aload_n 1, 0, 0, 0, 0), (28, 31, .getfield 61, 17, 0, 3, 0), (31, 34, .if_icmp .le 6, 0, 37, 0, 0), (34, 37, .iinc 2 1, 0, 0, 0, 0), (37, 40, .iinc 3 1, 0, 0, 0, 0), (40, 43, .goto (-36), 0, 4, 0, 0), (43, 44, .iload_n 2, 0, 0, 0, 0), (44, 45, .ireturn, 0, 0, 0, 0)]
def cd_31 : List (Nat × Nat × gm_I) := [(0, 1, .iconst 0, 0, 0, 0, 0), (1, 2, .istore_n 3, 0, 0, 0, 0), (2, 3, .iconst 0, 0, 0, 0, 0), (3, 5, .istore 4, 0, 0, 0, 0), (5, 7, .iload 4, 0, 0, 0, 0), (7, 8, .aload_n 2, 0, 0, 0, 0), (8, 11, .getfield 39, 13, 0, 2, 0), (11, 14, .if_icmp .ge 35, 0, 46, 0, 0), (14, 15, .iload_n 0, 0, 0, 0, 0), (15, 17, .iload 4, 0, 0, 0, 0), (17, 20, .invokestatic 57, 102, 110, 1, 0), (20, 21, .iload_n 1, 0, 0, 0, 0), (21, 23, .iload 4, 0, 0, 0, 0), (23, 26, .invokestatic 57, 102, 110, 1, 0), (26, 27, .isub, 0, 0, 0, 0), (27, 30, .invokestatic 64, 104, 196, 5, 0), (30, 31, .aload_n 2, 0, 0, 0, 0), (31, 34, .getfield 61, 17, 0, 3, 0), (34, 37, .if_icmp .le 6, 0, 40, 0, 0), (37, 40, .iinc 3 1, 0, 0, 0, 0), (40, 43, .iinc 4 1, 0, 0, 0, 0), (43, 46, .goto (-38), 0, 5, 0, 0), (46, 47, .iload_n 3, 0, 0, 0, 0), (47, 48, .ireturn, 0, 0, 0, 0)]
def cd_32 : List (Nat × Nat × gm_I) := [(0, 1, .aload_n 0, 0, 0, 0, 0), (1, 4, .invokespecial 3, 5, 0, 3, 0), (4, 5, .aload_n 0, 0, 0, 0, 0), (5, 8, .new 9, 3, 4, 0, 0), (8, 9, .dup, 0, 0, 0, 0), (9, 12, .invokespecial 11, 6, 55, 1, 0), (12, 15, .putfield 12, 38, 3, 1, 0), (15, 16, .aload_n 0, 0, 0, 0, 0), (16, 18, .bipush 7, 0, 0, 0, 0), (18, 20, .newarray .long, 0, 0, 0, 0), (20, 23, .putfield 18, 39, 3, 2, 0), (23, 24, .aload_n 0, 0, 0, 0, 0), (24, 27, .new 9, 3, 4, 0, 0), (27, 28, .dup, 0, 0, 0, 0), (28, 31, .invokespecial 11, 6, 55, 1, 0), (31, 34, .putfield 22, 40, 3, 3, 0), (34, 35, .aload_n 0, 0, 0, 0, 0), (35, 37, .bipush 7, 0, 0, 0, 0), (37, 39, .newarray .long, 0, 0, 0, 0), (39, 42, .putfield 25, 41, 3, 4, 0), (42, 43, .aload_n 0, 0, 0, 0, 0), (43, 45, .bipush 7, 0, 0, 0, 0), (45, 47, .newarray .int, 0, 0, 0, 0), (47, 50, .putfield 28, 42, 3, 5, 0), (50, 51, .aload_n 0, 0, 0, 0, 0), (51, 53, .bipush 7, 0, 0, 0, 0), (53, 55, .newarray .int, 0, 0, 0, 0), (55, 58, .putfield 32, 43, 3, 6, 0), (58, 59, .aload_n 0, 0, 0, 0, 0), (59, 62, .sipush 245, 0, 0, 0, 0), (62, 64, .newarray .int, 0, 0, 0, 0), (64, 67, .putfield 35, 44, 3, 7, 0), (67, 68, .aload_n 0, 0, 0, 0, 0), (68, 70, .bipush 7, 0, 0, 0, 0), (70, 72, .newarray .int, 0, 0, 0, 0), (72, 75, .putfield 38, 45, 3, 8, 0), (75, 76, .aload_n 0, 0, 0, 0, 0), (76, 77, .aload_n 1, 0, 0, 0, 0), (77, 80, .putfield 41, 37, 3, 0, 0), (80, 81, .return_, 0, 0, 0, 0)]
def cd_33 : List (Nat × Nat × gm_I) := [(0, 1, .aload_n 0, 0, 0, 0, 0), (1, 4, .getfield 45, 49, 3, 12, 0), (4, 5, .aload_n 0, 0, 0, 0, 0), (5, 8, .getfield 41, 37, 3, 0, 0), (8, 11, .getfield 49, 21, 0, 5, 0), (11, 14, .if_icmp .ne 4, 0, 15, 0, 0), (14, 15, .return_, 0, 0, 0, 0), (15, 16, .aload_n 0, 0, 0, 0, 0), (16, 17, .aload_n 0, 0, 0, 0, 0), (17, 20, .getfield 41, 37, 3, 0, 0), (20, 23, .getfield 49, 21, 0, 5, 0), (23, 26, .putfield 45, 49, 3, 12, 0), (26, 27, .aload_n 0, 0, 0, 0, 0), (27, 30, .getfield 12, 38, 3, 1, 0), (30, 31, .aload_n 0, 0, 0, 0, 0), (31, 34, .getfield 41, 37, 3, 0, 0), (34, 37, .getfield 54, 6, 0, 1, 0), (37, 38, .aload_n 0, 0, 0, 0, 0), (38, 41, .getfield 41, 37, 3, 0, 0), (41, 44, .getfield 57, 11, 0, 2, 0), (44, 45, .aload_n 0, 0, 0, 0, 0), (45, 48, .getfield 41, 37, 3, 0, 0), (48, 51, .getfield 60, 15, 0, 3, 0), (51, 54, .invokevirtual 63, 43, 56, 0, 0), (54, 55, .aload_n 0, 0, 0, 0, 0), (55, 56, .aload_n 0, 0, 0, 0, 0), (56, 57, .aload_n 0, 0, 0, 0, 0), (57, 60, .getfield 12, 38, 3, 1, 0), (60, 61, .aload_n 0, 0, 0, 0, 0), (61, 64, .getfield 18, 39, 3, 2, 0), (64, 67, .invokevirtual 67, 49, 34, 0, 0), (67, 70, .putfield 71, 46, 3, 9, 0), (70, 71, .return_, 0, 0, 0, 0)]
def cd_34 : List (Nat × Nat × gm_I) := [(0, 1, .iconst 0, 0, 0, 0, 0), (1, 2, .istore_n 3, 0, 0, 0, 0), (2, 3, .iload_n 3, 0, 0, 0, 0), (3, 4, .aload_n 0, 0, 0, 0, 0), (4, 7, .getfield 41, 37, 3, 0, 0), (7, 10, .getfield 75, 1, 0, 0, 0), (10, 13, .if_icmp .ge 25, 0, 35, 0, 0), (13, 14, .aload_n 2, 0, 0, 0, 0), (14, 15, .iload_n 3, 0, 0, 0, 0), (15, 16, .aload_n 1, 0, 0, 0, 0), (16, 17, .aload_n 0, 0, 0, 0, 0), (17, 20, .getfield 41, 37, 3, 0, 0), (20, 23, .getfield 78, 24, 0, 6, 0), (23, 24, .iload_n 3, 0, 0, 0, 0), (24, 25, .iaload, 0, 0, 0, 0), (25, 28, .invokevirtual 81, 50, 62, 0, 0), (28, 29, .lastore, 0, 0, 0, 0), (29, 32, .iinc 3 1, 0, 0, 0, 0), (32, 35, .goto (-30), 0, 2, 0, 0), (35, 36, .aload_n 1, 0, 0, 0, 0), (36, 37, .aload_n 2, 0, 0, 0, 0), (37, 38, .iconst 0, 0, 0, 0, 0), (38, 39, .aload_n 0, 0, 0, 0, 0), (39, 42, .getfield 41, 37, 3, 0, 0), (42, 45, .getfield 75, 1, 0, 0, 0), (45, 46, .iconst 1, 0, 0, 0, 0), (46, 47, .isub, 0, 0, 0, 0), (47, 50, .invokestatic 85, 51, 35, 0, 0), (50, 51, .ireturn, 0, 0, 0, 0)]
def cd_35 : List (Nat × Nat × gm_I) := [(0, 1, .aload_n 1, 0, 0, 0, 0), (1, 2, .iload_n 2, 0, 0, 0, 0), (2, 3, .laload, 0, 0, 0, 0), (3, 5, .lstore 4, 0, 0, 0, 0), (5, 6, .iload_n 2, 0, 0, 0, 0), (6, 7, .iconst 1, 0, 0, 0, 0), (7, 8, .iadd, 0, 0, 0, 0), (8, 10, .istore 6, 0, 0, 0, 0), (10, 12, .iload 6, 0, 0, 0, 0), (12, 13, .iload_n 3, 0, 0, 0, 0), (13, 16, .if_icmp .gt 29, 0, 42, 0, 0), (16, 18, .lload 4, 0, 0, 0, 0), (18, 19, .lconst 0, 0, 0, 0, 0), (19, 20, .lcmp, 0, 0, 0, 0), (20, 23, .ifCond .eq 22, 0, 42, 0, 0), (23, 24, .aload_n 1, 0, 0, 0, 0), (24, 26, .iload 6, 0, 0, 0, 0), (26, 27, .laload, 0, 0, 0, 0), (27, 28, .aload_n 0, 0, 0, 0, 0), (28, 30, .lload 4, 0, 0, 0, 0), (30, 33, .invokevirtual 89, 52, 63, 0, 0), (33, 34, .land, 0, 0, 0, 0), (34, 36, .lstore 4, 0, 0, 0, 0), (36, 39, .iinc 6 1, 0, 0, 0, 0), (39, 42, .goto (-29), 0, 10, 0, 0), (42, 44, .lload 4, 0, 0, 0, 0), (44, 45, .lconst 0, 0, 0, 0, 0), (45, 46, .lcmp, 0, 0, 0, 0), (46, 49, .ifCond .eq 7, 0, 53, 0, 0), (49, 50, .iconst 1, 0, 0, 0, 0), (50, 53, .goto 4, 0, 54, 0, 0), (53, 54, .iconst 0, 0, 0, 0, 0), (54, 55, .ireturn, 0, 0, 0, 0)]
def cd_36 : List (Nat × Nat × gm_I) := [(0, 1, .aload_n 0, 0, 0, 0, 0), (1, 4, .invokevirtual 93, 42, 33, 0, 0), (4, 5, .aload_n 0, 0, 0, 0, 0), (5, 8, .getfield 71, 46, 3, 9, 0), (8, 9, .ireturn, 0, 0, 0, 0)]
def cd_37 : List (Nat × Nat × gm_I) := [(0, 1, .aload_n 0, 0, 0, 0, 0), (1, 4, .invokevirtual 93, 42, 33, 0, 0), (4, 5, .aload_n 0, 0, 0, 0, 0), (5, 8, .getfield 18, 39, 3, 2, 0), (8, 9, .iload_n 1, 0, 0, 0, 0), (9, 10, .laload, 0, 0, 0, 0), (10, 13, .invokestatic 96, 97, 195, 0, 0), (13, 14, .ireturn, 0, 0, 0, 0)]
def cd_38 : List (Nat × Nat × gm_I) := [(0, 1, .aload_n 0, 0, 0, 0, 0), (1, 4, .invokevirtual 93, 42, 33, 0, 0), (4, 5, .iconst 0, 0, 0, 0, 0), (5, 6, .istore_n 1, 0, 0, 0, 0), (6, 7, .iconst 0, 0, 0, 0, 0), (7, 8, .istore_n 2, 0, 0, 0, 0), (8, 9, .iload_n 2, 0, 0, 0, 0), (9, 10, .aload_n 0, 0, 0, 0, 0), (10, 13, .getfield 41, 37, 3, 0, 0), (13, 16, .getfield 75, 1, 0, 0, 0), (16, 19, .if_icmp .ge 21, 0, 37, 0, 0), (19, 20, .iload_n 1, 0, 0, 0, 0), (20, 21, .aload_n 0, 0, 0, 0, 0), (21, 24, .getfield 18, 39, 3, 2, 0), (24, 25, .iload_n 2, 0, 0, 0, 0), (25, 26, .laload, 0, 0, 0, 0), (26, 29, .invokestatic 96, 97, 195, 0, 0), (29, 30, .iadd, 0, 0, 0, 0), (30, 31, .istore_n 1, 0, 0, 0, 0), (31, 34, .iinc 2 1, 0, 0, 0, 0), (34, 37, .goto (-26), 0, 8, 0, 0), (37, 38, .iload_n 1, 0, 0, 0, 0), (38, 39, .ireturn, 0, 0, 0, 0)]
def cd_39 : List (Nat × Nat × gm_I) := [(0, 1, .aload_n 0, 0, 0, 0, 0), (1, 4, .invokevirtual 93, 42, 33, 0, 0), (4, 5, .aload_n 0, 0, 0, 0, 0), (5, 8, .invokevirtual 102, 53, 43, 0, 0), (8, 9, .aload_n 0, 0, 0, 0, 0), (9, 12, .getfield 105, 47, 3, 10, 0), (12, 13, .ireturn, 0, 0, 0, 0)]
def cd_40 : List (Nat × Nat × gm_I) := [(0, 1, .aload_n 0, 0, 0, 0, 0), (1, 4, .invokevirtual 93, 42, 33, 0, 0), (4, 5, .aload_n 0, 0, 0, 0, 0), (5, 8, .invokevirtual 102, 53, 43, 0, 0), (8, 9, .aload_n 0, 0, 0, 0, 0), (9, 12, .getfield 108, 48, 3, 11, 0), (12, 13, .ireturn, 0, 0, 0, 0)]
def cd_41 : List (Nat × Nat × gm_I) := [(0, 1, .aload_n 0, 0, 0, 0, 0), (1, 4, .invokevirtual 93, 42, 33, 0, 0), (4, 5, .aload_n 0, 0, 0, 0, 0), (5, 8, .invokevirtual 102, 53, 43, 0, 0), (8, 9, .aload_n 0, 0, 0, 0, 0), (9, 12, .getfield 28, 42, 3, 5, 0), (12, 13, .iload_n 1, 0, 0, 0, 0), (13, 14, .iaload, 0, 0, 0, 0), (14, 15, .ireturn, 0, 0, 0, 0)]
def cd_42 : List (Nat × Nat × gm_I) := [(0, 1, .aload_n 0, 0, 0, 0, 0), (1, 4, .invokevirtual 93, 42, 33, 0, 0), (4, 5, .aload_n 0, 0, 0, 0, 0), (5, 8, .invokevirtual 102, 53, 43, 0, 0), (8, 9, .aload_n 0, 0, 0, 0, 0), (9, 12, .getfield 32, 43, 3, 6, 0), (12, 13, .iload_n 1, 0, 0, 0, 0), (13, 14, .iaload, 0, 0, 0, 0), (14, 15, .ireturn, 0, 0, 0, 0)]
def cd_43 : List (Nat × Nat × gm_I) := [(0, 1, .aload_n 0, 0, 0, 0, 0), (1, 4, .getfield 111, 50, 3, 13, 0), (4, 5, .aload_n 0, 0, 0, 0, 0), (5, 8, .getfield 41, 37, 3, 0, 0), (8, 11, .getfield 49, 21, 0, 5, 0), (11, 14, .if_icmp .ne 4, 0, 15, 0, 0), (14, 15, .return_, 0, 0, 0, 0), (15, 16, .aload_n 0, 0, 0, 0, 0), (16, 17, .aload_n 0, 0, 0, 0, 0), (17, 20, .getfield 41, 37, 3, 0, 0), (20, 23, .getfield 49, 21, 0, 5, 0), (23, 26, .putfield 111, 50, 3, 13, 0), (26, 27, .aload_n 0, 0, 0, 0, 0), (27, 30, .getfield 28, 42, 3, 5, 0), (30, 31, .iconst 0, 0, 0, 0, 0), (31, 34, .invokestatic 114, 54, 198, 0, 0), (34, 35, .aload_n 0, 0, 0, 0, 0), (35, 38, .getfield 32, 43, 3, 6, 0), (38, 39, .iconst 0, 0, 0, 0, 0), (39, 42, .invokestatic 114, 54, 198, 0, 0), (42, 43, .aload_n 0, 0, 0, 0, 0), (43, 44, .iconst (-1), 0, 0, 0, 0), (44, 47, .putfield 105, 47, 3, 10, 0), (47, 48, .aload_n 0, 0, 0, 0, 0), (48, 49, .iconst (-1), 0, 0, 0, 0), (49, 52, .putfield 108, 48, 3, 11, 0), (52, 53, .aload_n 0, 0, 0, 0, 0), (53, 56, .getfield 71, 46, 3, 9, 0), (56, 59, .ifCond .eq 10, 0, 66, 0, 0), (59, 60, .aload_n 0, 0, 0, 0, 0), (60, 63, .invokevirtual 120, 55, 44, 0, 0), (63, 66, .goto 11, 0, 74, 0, 0), (66, 67, .aload_n 0, 0, 0, 0, 0), (67, 70, .invokevirtual 123, 57, 45, 0, 0), (70, 71, .aload_n 0, 0, 0, 0, 0), (71, 74, .invokevirtual 126, 58, 46, 0, 0), (74, 75, .return_, 0, 0, 0, 0)]
def cd_44 : List (Nat × Nat × gm_I) := [(0, 1, .aload_n 0, 0, 0, 0, 0), (1, 4, .getfield 41, 37, 3, 0, 0), (4, 7, .getfield 75, 1, 0, 0, 0), (7, 8, .iconst 1, 0, 0, 0, 0), (8, 9, .isub, 0, 0, 0, 0), (9, 10, .istore_n 1, 0, 0, 0, 0), (10, 11, .aload_n 0, 0, 0, 0, 0), (11, 14, .getfield 25, 41, 3, 4, 0), (14, 15, .iconst 0, 0, 0, 0, 0), (15, 16, .aload_n 0, 0, 0, 0, 0), (16, 19, .getfield 18, 39, 3, 2, 0), (19, 20, .iconst 0, 0, 0, 0, 0), (20, 21, .laload, 0, 0, 0, 0), (21, 22, .lastore, 0, 0, 0, 0), (22, 23, .iconst 1, 0, 0, 0, 0), (23, 24, .istore_n 2, 0, 0, 0, 0), (24, 25, .iload_n 2, 0, 0, 0, 0), (25, 26, .iload_n 1, 0, 0, 0, 0), (26, 29, .if_icmp .gt 37, 0, 63, 0, 0), (29, 30, .aload_n 0, 0, 0, 0, 0), (30, 33, .getfield 25, 41, 3, 4, 0), (33, 34, .iload_n 2, 0, 0, 0, 0), (34, 35, .aload_n 0, 0, 0, 0, 0), (35, 38, .getfield 18, 39, 3, 2, 0), (38, 39, .iload_n 2, 0, 0, 0, 0), (39, 40, .laload, 0, 0, 0, 0), (40, 41, .aload_n 0, 0, 0, 0, 0), (41, 44, .getfield 12, 38, 3, 1, 0), (44, 45, .aload_n 0, 0, 0, 0, 0), (45, 48, .getfield 25, 41, 3, 4, 0), (48, 49, .iload_n 2, 0, 0, 0, 0), (49, 50, .iconst 1, 0, 0, 0, 0), (50, 51, .isub, 0, 0, 0, 0), (51, 52, .laload, 0, 0, 0, 0), (52, 55, .invokevirtual 89, 52, 63, 0, 0), (55, 56, .land, 0, 0, 0, 0), (56, 57, .lastore, 0, 0, 0, 0), (57, 60, .iinc 2 1, 0, 0, 0, 0), (60, 63, .goto (-36), 0, 24, 0, 0), (63, 64, .iload_n 1, 0, 0, 0, 0), (64, 65, .iconst 1, 0, 0, 0, 0), (65, 66, .isub, 0, 0, 0, 0), (66, 67, .istore_n 2, 0, 0, 0, 0), (67, 68, .iload_n 2, 0, 0, 0, 0), (68, 71, .ifCond .lt 33, 0, 101, 0, 0), (71, 72, .aload_n 0, 0, 0, 0, 0), (72, 75, .getfield 25, 41, 3, 4, 0), (75, 76, .iload_n 2, 0, 0, 0, 0), (76, 77, .dup2, 0, 0, 0, 0), (77, 78, .laload, 0, 0, 0, 0), (78, 79, .aload_n 0, 0, 0, 0, 0), (79, 82, .getfield 12, 38, 3, 1, 0), (82, 83, .aload_n 0, 0, 0, 0, 0), (83, 86, .getfield 25, 41, 3, 4, 0), (86, 87, .iload_n 2, 0, 0, 0, 0), (87, 88, .iconst 1, 0, 0, 0, 0), (88, 89, .iadd, 0, 0, 0, 0), (89, 90, .laload, 0, 0, 0, 0), (90, 93, .invokevirtual 89, 52, 63, 0, 0), (93, 94, .land, 0, 0, 0, 0), (94, 95, .lastore, 0, 0, 0, 0), (95, 98, .iinc 2 (-1), 0, 0, 0, 0), (98, 101, .goto (-31), 0, 67, 0, 0), (101, 102, .iconst 0, 0, 0, 0, 0), (102, 103, .istore_n 2, 0, 0, 0, 0), (103, 104, .iload_n 2, 0, 0, 0, 0), (104, 105, .iload_n 1, 0, 0, 0, 0), (105, 108, .if_icmp .gt 28, 0, 133, 0, 0), (108, 109, .aload_n 0, 0, 0, 0, 0), (109, 112, .getfield 32, 43, 3, 6, 0), (112, 113, .iload_n 2, 0, 0, 0, 0), (113, 114, .aload_n 0, 0, 0, 0, 0), (114, 117, .getfield 12, 38, 3, 1, 0), (117, 118, .aload_n 0, 0, 0, 0, 0), (118, 121, .getfield 25, 41, 3, 4, 0), (121, 122, .iload_n 2, 0, 0, 0, 0), (122, 123, .laload, 0, 0, 0, 0), (123, 126, .invokevirtual 129, 56, 64, 0, 0), (126, 127, .iastore, 0, 0, 0, 0), (127, 130, .iinc 2 1, 0, 0, 0, 0), (130, 133, .goto (-27), 0, 103, 0, 0), (133, 134, .return_, 0, 0, 0, 0)]
def cd_45 : List (Nat × Nat × gm_I) := [(0, 1, .iconst 1, 0, 0, 0, 0), (1, 2, .istore_n 1, 0, 0, 0, 0), (2, 3, .iload_n 1, 0, 0, 0, 0), (3, 4, .aload_n 0, 0, 0, 0, 0), (4, 7, .getfield 41, 37, 3, 0, 0), (7, 10, .getfield 75, 1, 0, 0, 0), (10, 13, .if_icmp .gt 65, 0, 75, 0, 0), (13, 14, .iconst 0, 0, 0, 0, 0), (14, 15, .istore_n 2, 0, 0, 0, 0), (15, 16, .iload_n 2, 0, 0, 0, 0), (16, 17, .iload_n 1, 0, 0, 0, 0), (17, 18, .iadd, 0, 0, 0, 0), (18, 19, .aload_n 0, 0, 0, 0, 0), (19, 22, .getfield 41, 37, 3, 0, 0), (22, 25, .getfield 75, 1, 0, 0, 0), (25, 28, .if_icmp .gt 44, 0, 69, 0, 0), (28, 29, .aload_n 0, 0, 0, 0, 0), (29, 32, .getfield 12, 38, 3, 1, 0), (32, 33, .aload_n 0, 0, 0, 0, 0), (33, 36, .getfield 18, 39, 3, 2, 0), (36, 37, .iload_n 2, 0, 0, 0, 0), (37, 38, .iload_n 2, 0, 0, 0, 0), (38, 39, .iload_n 1, 0, 0, 0, 0), (39, 40, .iadd, 0, 0, 0, 0), (40, 41, .iconst 1, 0, 0, 0, 0), (41, 42, .isub, 0, 0, 0, 0), (42, 45, .invokestatic 85, 51, 35, 0, 0), (45, 48, .ifCond .ne 18, 0, 63, 0, 0), (48, 49, .aload_n 0, 0, 0, 0, 0), (49, 50, .iload_n 2, 0, 0, 0, 0), (50, 53, .putfield 105, 47, 3, 10, 0), (53, 54, .aload_n 0, 0, 0, 0, 0), (54, 55, .iload_n 2, 0, 0, 0, 0), (55, 56, .iload_n 1, 0, 0, 0, 0), (56, 57, .iadd, 0, 0, 0, 0), (57, 58, .iconst 1, 0, 0, 0, 0), (58, 59, .isub, 0, 0, 0, 0), (59, 62, .putfield 108, 48, 3, 11, 0), (62, 63, .return_, 0, 0, 0, 0), (63, 66, .iinc 2 1, 0, 0, 0, 0), (66, 69, .goto (-51), 0, 15, 0, 0), (69, 72, .iinc 1 1, 0, 0, 0, 0), (72, 75, .goto (-70), 0, 2, 0, 0), (75, 76, .return_, 0, 0, 0, 0)]
def cd_46 : List (Nat × Nat × gm_I) := [(0, 1, .aload_n 0, 0, 0, 0, 0), (1, 4, .getfield 18, 39, 3, 2, 0), (4, 5, .iconst 0, 0, 0, 0, 0), (5, 6, .aload_n 0, 0, 0, 0, 0), (6, 9, .getfield 25, 41, 3, 4, 0), (9, 10, .iconst 0, 0, 0, 0, 0), (10, 12, .bipush 7, 0, 0, 0, 0), (12, 15, .invokestatic 132, 59, 0, 2, 0), (15, 16, .iconst 0, 0, 0, 0, 0), (16, 17, .istore_n 1, 0, 0, 0, 0), (17, 18, .iload_n 1, 0, 0, 0, 0), (18, 19, .aload_n 0, 0, 0, 0, 0), (19, 22, .getfield 41, 37, 3, 0, 0), (22, 25, .getfield 75, 1, 0, 0, 0), (25, 28, .if_icmp .ge 133, 0, 158, 0, 0), (28, 29, .aload_n 0, 0, 0, 0, 0), (29, 32, .getfield 28, 42, 3, 5, 0), (32, 33, .iload_n 1, 0, 0, 0, 0), (33, 34, .aload_n 0, 0, 0, 0, 0), (34, 37, .getfield 41, 37, 3, 0, 0), (37, 40, .getfield 78, 24, 0, 6, 0), (40, 41, .iload_n 1, 0, 0, 0, 0), (41, 42, .iaload, 0, 0, 0, 0), (42, 43, .iastore, 0, 0, 0, 0), (43, 44, .iconst 0, 0, 0, 0, 0), (44, 45, .istore_n 2, 0, 0, 0, 0), (45, 46, .iload_n 2, 0, 0, 0, 0), (46, 47, .aload_n 0, 0, 0, 0, 0), (47, 50, .getfield 41, 37, 3, 0, 0), (50, 53, .getfield 54, 6, 0, 1, 0), (53, 56, .if_icmp .ge 99, 0, 152, 0, 0), (56, 57, .aload_n 0, 0, 0, 0, 0), (57, 60, .getfield 28, 42, 3, 5, 0), (60, 61, .iload_n 1, 0, 0, 0, 0), (61, 62, .iaload, 0, 0, 0, 0), (62, 63, .iconst 1, 0, 0, 0, 0), (63, 64, .iload_n 2, 0, 0, 0, 0), (64, 65, .ishl, 0, 0, 0, 0), (65, 66, .iconst (-1), 0, 0, 0, 0), (66, 67, .ixor, 0, 0, 0, 0), (67, 68, .iand, 0, 0, 0, 0), (68, 69, .istore_n 3, 0, 0, 0, 0), (69, 70, .iload_n 3, 0, 0, 0, 0), (70, 71, .aload_n 0, 0, 0, 0, 0), (71, 74, .getfield 28, 42, 3, 5, 0), (74, 75, .iload_n 1, 0, 0, 0, 0), (75, 76, .iaload, 0, 0, 0, 0), (76, 79, .if_icmp .ne 6, 0, 82, 0, 0), (79, 82, .goto 67, 0, 146, 0, 0), (82, 83, .aload_n 0, 0, 0, 0, 0), (83, 86, .getfield 25, 41, 3, 4, 0), (86, 87, .iload_n 1, 0, 0, 0, 0), (87, 88, .laload, 0, 0, 0, 0), (88, 90, .lstore 4, 0, 0, 0, 0), (90, 91, .aload_n 0, 0, 0, 0, 0), (91, 94, .getfield 25, 41, 3, 4, 0), (94, 95, .iload_n 1, 0, 0, 0, 0), (95, 96, .aload_n 0, 0, 0, 0, 0), (96, 99, .getfield 12, 38, 3, 1, 0), (99, 100, .iload_n 3, 0, 0, 0, 0), (100, 103, .invokevirtual 81, 50, 62, 0, 0), (103, 104, .lastore, 0, 0, 0, 0), (104, 105, .aload_n 0, 0, 0, 0, 0), (105, 108, .getfield 12, 38, 3, 1, 0), (108, 109, .aload_n 0, 0, 0, 0, 0), (109, 112, .getfield 25, 41, 3, 4, 0), (112, 113, .iconst 0, 0, 0, 0, 0), (113, 114, .aload_n 0, 0, 0, 0, 0), (114, 117, .getfield 41, 37, 3, 0, 0), (117, 120, .getfield 75, 1, 0, 0, 0), (120, 121, .iconst 1, 0, 0, 0, 0), (121, 122, .isub, 0, 0, 0, 0), (122, 125, .invokestatic 85, 51, 35, 0, 0), (125, 128, .ifCond .eq 14, 0, 139, 0, 0), (128, 129, .aload_n 0, 0, 0, 0, 0), (129, 132, .getfield 25, 41, 3, 4, 0), (132, 133, .iload_n 1, 0, 0, 0, 0), (133, 135, .lload 4, 0, 0, 0, 0), (135, 136, .lastore, 0, 0, 0, 0), (136, 139, .goto 10, 0, 146, 0, 0), (139, 140, .aload_n 0, 0, 0, 0, 0), (140, 143, .getfield 28, 42, 3, 5, 0), (143, 144, .iload_n 1, 0, 0, 0, 0), (144, 145, .iload_n 3, 0, 0, 0, 0), (145, 146, .iastore, 0, 0, 0, 0), (146, 149, .iinc 2 1, 0, 0, 0, 0), (149, 152, .goto (-104), 0, 45, 0, 0), (152, 155, .iinc 1 1, 0, 0, 0, 0), (155, 158, .goto (-138), 0, 17, 0, 0), (158, 159, .return_, 0, 0, 0, 0)]
def cd_47 : List (Nat × Nat × gm_I) := [(0, 1, .iconst 0, 0, 0, 0, 0), (1, 2, .istore_n 1, 0, 0, 0, 0), (2, 3, .iload_n 1, 0, 0, 0, 0), (3, 5, .bipush 6, 0, 0, 0, 0), (5, 8, .if_icmp .gt 48, 0, 53, 0, 0), (8, 9, .aload_n 0, 0, 0, 0, 0), (9, 12, .getfield 22, 40, 3, 3, 0), (12, 13, .aload_n 0, 0, 0, 0, 0), (13, 16, .getfield 41, 37, 3, 0, 0), (16, 19, .getfield 54, 6, 0, 1, 0), (19, 20, .aload_n 0, 0, 0, 0, 0), (20, 23, .getfield 41, 37, 3, 0, 0), (23, 26, .getfield 57, 11, 0, 2, 0), (26, 27, .iload_n 1, 0, 0, 0, 0), (27, 30, .invokevirtual 63, 43, 56, 0, 0), (30, 31, .aload_n 0, 0, 0, 0, 0), (31, 32, .aload_n 0, 0, 0, 0, 0), (32, 35, .getfield 22, 40, 3, 3, 0), (35, 36, .aload_n 0, 0, 0, 0, 0), (36, 39, .getfield 25, 41, 3, 4, 0), (39, 42, .invokevirtual 67, 49, 34, 0, 0), (42, 45, .ifCond .eq 5, 0, 47, 0, 0), (45, 46, .iload_n 1, 0, 0, 0, 0), (46, 47, .ireturn, 0, 0, 0, 0), (47, 50, .iinc 1 1, 0, 0, 0, 0), (50, 53, .goto (-48), 0, 2, 0, 0), (53, 54, .iconst (-1), 0, 0, 0, 0), (54, 55, .ireturn, 0, 0, 0, 0)]
def cd_48 : List (Nat × Nat × gm_I) := [(0, 1, .aload_n 0, 0, 0, 0, 0), (1, 4, .getfield 41, 37, 3, 0, 0), (4, 7, .getfield 54, 6, 0, 1, 0), (7, 8, .istore_n 1, 0, 0, 0, 0), (8, 9, .iload_n 1, 0, 0, 0, 0), (9, 10, .iconst 1, 0, 0, 0, 0), (10, 13, .if_icmp .lt 48, 0, 58, 0, 0), (13, 14, .aload_n 0, 0, 0, 0, 0), (14, 17, .getfield 22, 40, 3, 3, 0), (17, 18, .aload_n 0, 0, 0, 0, 0), (18, 21, .getfield 41, 37, 3, 0, 0), (21, 24, .getfield 54, 6, 0, 1, 0), (24, 25, .iload_n 1, 0, 0, 0, 0), (25, 26, .aload_n 0, 0, 0, 0, 0), (26, 29, .getfield 41, 37, 3, 0, 0), (29, 32, .getfield 60, 15, 0, 3, 0), (32, 35, .invokevirtual 63, 43, 56, 0, 0), (35, 36, .aload_n 0, 0, 0, 0, 0), (36, 37, .aload_n 0, 0, 0, 0, 0), (37, 40, .getfield 22, 40, 3, 3, 0), (40, 41, .aload_n 0, 0, 0, 0, 0), (41, 44, .getfield 25, 41, 3, 4, 0), (44, 47, .invokevirtual 67, 49, 34, 0, 0), (47, 50, .ifCond .eq 5, 0, 52, 0, 0), (50, 51, .iload_n 1, 0, 0, 0, 0), (51, 52, .ireturn, 0, 0, 0, 0), (52, 55, .iinc 1 (-1), 0, 0, 0, 0), (55, 58, .goto (-47), 0, 8, 0, 0), (58, 59, .iconst (-1), 0, 0, 0, 0), (59, 60, .ireturn, 0, 0, 0, 0)]
def cd_49 : List (Nat × Nat × gm_I) := [(0, 1, .aload_n 0, 0, 0, 0, 0), (1, 4, .invokevirtual 93, 42, 33, 0, 0), (4, 5, .aload_n 0, 0, 0, 0, 0), (5, 8, .getfield 71, 46, 3, 9, 0), (8, 11, .ifCond .ne 5, 0, 13, 0, 0), (11, 12, .iconst (-1), 0, 0, 0, 0), (12, 13, .ireturn, 0, 0, 0, 0), (13, 14, .aload_n 0, 0, 0, 0, 0), (14, 17, .getfield 41, 37, 3, 0, 0), (17, 20, .getfield 75, 1, 0, 0, 0), (20, 21, .iconst 1, 0, 0, 0, 0), (21, 22, .isub, 0, 0, 0, 0), (22, 23, .istore_n 2, 0, 0, 0, 0), (23, 24, .iload_n 2, 0, 0, 0, 0), (24, 27, .ifCond .lt 26, 0, 50, 0, 0), (27, 28, .aload_n 0, 0, 0, 0, 0), (28, 29, .iload_n 2, 0, 0, 0, 0), (29, 30, .aload_n 1, 0, 0, 0, 0), (30, 31, .iload_n 2, 0, 0, 0, 0), (31, 32, .aload_n 0, 0, 0, 0, 0), (32, 35, .getfield 41, 37, 3, 0, 0), (35, 38, .getfield 57, 11, 0, 2, 0), (38, 41, .invokevirtual 138, 80, 28, 0, 0), (41, 44, .invokevirtual 144, 81, 50, 0, 0), (44, 47, .iinc 2 (-1), 0, 0, 0, 0), (47, 50, .goto (-24), 0, 23, 0, 0), (50, 51, .aload_n 0, 0, 0, 0, 0), (51, 54, .getfield 35, 44, 3, 7, 0), (54, 55, .aload_n 0, 0, 0, 0, 0), (55, 56, .iconst 0, 0, 0, 0, 0), (56, 57, .aload_n 0, 0, 0, 0, 0), (57, 60, .getfield 18, 39, 3, 2, 0), (60, 61, .iconst 0, 0, 0, 0, 0), (61, 62, .laload, 0, 0, 0, 0), (62, 65, .invokevirtual 148, 87, 53, 0, 0), (65, 66, .iaload, 0, 0, 0, 0), (66, 67, .ireturn, 0, 0, 0, 0)]
def cd_50 : List (Nat × Nat × gm_I) := [(0, 1, .iconst 0, 0, 0, 0, 0), (1, 2, .istore_n 3, 0, 0, 0, 0), (2, 3, .iload_n 3, 0, 0, 0, 0), (3, 4, .aload_n 0, 0, 0, 0, 0), (4, 7, .getfield 41, 37, 3, 0, 0), (7, 10, .getfield 57, 11, 0, 2, 0), (10, 13, .if_icmp .ge 20, 0, 30, 0, 0), (13, 14, .aload_n 0, 0, 0, 0, 0), (14, 17, .getfield 38, 45, 3, 8, 0), (17, 18, .iload_n 3, 0, 0, 0, 0), (18, 19, .iload_n 2, 0, 0, 0, 0), (19, 20, .iload_n 3, 0, 0, 0, 0), (20, 23, .invokestatic 152, 82, 110, 1, 0), (23, 24, .iastore, 0, 0, 0, 0), (24, 27, .iinc 3 1, 0, 0, 0, 0), (27, 30, .goto (-25), 0, 2, 0, 0), (30, 31, .iconst 0, 0, 0, 0, 0), (31, 32, .istore_n 3, 0, 0, 0, 0), (32, 33, .iload_n 3, 0, 0, 0, 0), (33, 34, .aload_n 0, 0, 0, 0, 0), (34, 37, .getfield 12, 38, 3, 1, 0), (37, 40, .getfield 155, 29, 4, 0, 0), (40, 43, .if_icmp .ge 47, 0, 87, 0, 0), (43, 44, .aload_n 0, 0, 0, 0, 0), (44, 47, .getfield 18, 39, 3, 2, 0), (47, 48, .iload_n 1, 0, 0, 0, 0), (48, 49, .laload, 0, 0, 0, 0), (49, 50, .iload_n 3, 0, 0, 0, 0), (50, 51, .lushr, 0, 0, 0, 0), (51, 52, .lconst 1, 0, 0, 0, 0), (52, 53, .land, 0, 0, 0, 0), (53, 54, .lconst 1, 0, 0, 0, 0), (54, 55, .lcmp, 0, 0, 0, 0), (55, 58, .ifCond .ne 26, 0, 81, 0, 0), (58, 59, .aload_n 0, 0, 0, 0, 0), (59, 62, .getfield 35, 44, 3, 7, 0), (62, 63, .iload_n 1, 0, 0, 0, 0), (63, 65, .bipush 35, 0, 0, 0, 0), (65, 66, .imul, 0, 0, 0, 0), (66, 67, .iload_n 3, 0, 0, 0, 0), (67, 68, .iadd, 0, 0, 0, 0), (68, 69, .aload_n 0, 0, 0, 0, 0), (69, 70, .iload_n 3, 0, 0, 0, 0), (70, 73, .invokevirtual 158, 83, 51, 0, 0), (73, 74, .aload_n 0, 0, 0, 0, 0), (74, 75, .iload_n 1, 0, 0, 0, 0), (75, 76, .iload_n 3, 0, 0, 0, 0), (76, 79, .invokevirtual 162, 85, 52, 0, 0), (79, 80, .iadd, 0, 0, 0, 0), (80, 81, .iastore, 0, 0, 0, 0), (81, 84, .iinc 3 1, 0, 0, 0, 0), (84, 87, .goto (-52), 0, 32, 0, 0), (87, 88, .return_, 0, 0, 0, 0)]
def cd_51 : List (Nat × Nat × gm_I) := [(0, 1, .iconst 0, 0, 0, 0, 0), (1, 2, .istore_n 2, 0, 0, 0, 0), (2, 3, .iconst 0, 0, 0, 0, 0), (3, 4, .istore_n 3, 0, 0, 0, 0), (4, 5, .iload_n 3, 0, 0, 0, 0), (5, 6, .aload_n 0, 0, 0, 0, 0), (6, 9, .getfield 41, 37, 3, 0, 0), (9, 12, .getfield 57, 11, 0, 2, 0), (12, 15, .if_icmp .ge 30, 0, 42, 0, 0), (15, 16, .aload_n 0, 0, 0, 0, 0), (16, 19, .getfield 12, 38, 3, 1, 0), (19, 20, .iload_n 1, 0, 0, 0, 0), (20, 21, .iload_n 3, 0, 0, 0, 0), (21, 24, .invokevirtual 165, 84, 60, 0, 0), (24, 25, .aload_n 0, 0, 0, 0, 0), (25, 28, .getfield 38, 45, 3, 8, 0), (28, 29, .iload_n 3, 0, 0, 0, 0), (29, 30, .iaload, 0, 0, 0, 0), (30, 33, .if_icmp .eq 6, 0, 36, 0, 0), (33, 36, .iinc 2 1, 0, 0, 0, 0), (36, 39, .iinc 3 1, 0, 0, 0, 0), (39, 42, .goto (-35), 0, 4, 0, 0), (42, 43, .iload_n 2, 0, 0, 0, 0), (43, 44, .ireturn, 0, 0, 0, 0)]
def cd_52 : List (Nat × Nat × gm_I) := [(0, 1, .iload_n 1, 0, 0, 0, 0), (1, 2, .aload_n 0, 0, 0, 0, 0), (2, 5, .getfield 41, 37, 3, 0, 0), (5, 8, .getfield 75, 1, 0, 0, 0), (8, 9, .iconst 1, 0, 0, 0, 0), (9, 10, .isub, 0, 0, 0, 0), (10, 13, .if_icmp .ne 5, 0, 15, 0, 0), (13, 14, .iconst 0, 0, 0, 0, 0), (14, 15, .ireturn, 0, 0, 0, 0), (15, 16, .aload_n 0, 0, 0, 0, 0), (16, 17, .iload_n 1, 0, 0, 0, 0), (17, 18, .iconst 1, 0, 0, 0, 0), (18, 19, .iadd, 0, 0, 0, 0), (19, 20, .aload_n 0, 0, 0, 0, 0), (20, 23, .getfield 18, 39, 3, 2, 0), (23, 24, .iload_n 1, 0, 0, 0, 0), (24, 25, .iconst 1, 0, 0, 0, 0), (25, 26, .iadd, 0, 0, 0, 0), (26, 27, .laload, 0, 0, 0, 0), (27, 28, .aload_n 0, 0, 0, 0, 0), (28, 31, .getfield 12, 38, 3, 1, 0), (31, 32, .iload_n 2, 0, 0, 0, 0), (32, 35, .invokevirtual 168, 86, 61, 0, 0), (35, 36, .land, 0, 0, 0, 0), (36, 39, .invokevirtual 148, 87, 53, 0, 0), (39, 40, .istore_n 3, 0, 0, 0, 0), (40, 41, .iload_n 3, 0, 0, 0, 0), (41, 42, .iconst (-1), 0, 0, 0, 0), (42, 45, .if_icmp .ne 9, 0, 51, 0, 0), (45, 48, .sipush 1000, 0, 0, 0, 0), (48, 51, .goto 9, 0, 57, 0, 0), (51, 52, .aload_n 0, 0, 0, 0, 0), (52, 55, .getfield 35, 44, 3, 7, 0), (55, 56, .iload_n 3, 0, 0, 0, 0), (56, 57, .iaload, 0, 0, 0, 0), (57, 58, .ireturn, 0, 0, 0, 0)]
def cd_53 : List (Nat × Nat × gm_I) := [(0, 1, .iconst (-1), 0, 0, 0, 0), (1, 3, .istore 4, 0, 0, 0, 0), (3, 4, .iconst 0, 0, 0, 0, 0), (4, 6, .istore 5, 0, 0, 0, 0), (6, 8, .iload 5, 0, 0, 0, 0), (8, 9, .aload_n 0, 0, 0, 0, 0), (9, 12, .getfield 12, 38, 3, 1, 0), (12, 15, .getfield 155, 29, 4, 0, 0), (15, 18, .if_icmp .ge 56, 0, 71, 0, 0), (18, 19, .iload_n 1, 0, 0, 0, 0), (19, 21, .bipush 35, 0, 0, 0, 0), (21, 22, .imul, 0, 0, 0, 0), (22, 24, .iload 5, 0, 0, 0, 0), (24, 25, .iadd, 0, 0, 0, 0), (25, 27, .istore 6, 0, 0, 0, 0), (27, 28, .lload_n 2, 0, 0, 0, 0), (28, 30, .iload 5, 0, 0, 0, 0), (30, 31, .lushr, 0, 0, 0, 0), (31, 32, .lconst 1, 0, 0, 0, 0), (32, 33, .land, 0, 0, 0, 0), (33, 34, .lconst 1, 0, 0, 0, 0), (34, 35, .lcmp, 0, 0, 0, 0), (35, 38, .ifCond .ne 30, 0, 65, 0, 0), (38, 40, .iload 4, 0, 0, 0, 0), (40, 41, .iconst (-1), 0, 0, 0, 0), (41, 44, .if_icmp .eq 20, 0, 61, 0, 0), (44, 45, .aload_n 0, 0, 0, 0, 0), (45, 48, .getfield 35, 44, 3, 7, 0), (48, 50, .iload 6, 0, 0, 0, 0), (50, 51, .iaload, 0, 0, 0, 0), (51, 52, .aload_n 0, 0, 0, 0, 0), (52, 55, .getfield 35, 44, 3, 7, 0), (55, 57, .iload 4, 0, 0, 0, 0), (57, 58, .iaload, 0, 0, 0, 0), (58, 61, .if_icmp .ge 7, 0, 65, 0, 0), (61, 63, .iload 6, 0, 0, 0, 0), (63, 65, .istore 4, 0, 0, 0, 0), (65, 68, .iinc 5 1, 0, 0, 0, 0), (68, 71, .goto (-62), 0, 6, 0, 0), (71, 73, .iload 4, 0, 0, 0, 0), (73, 74, .ireturn, 0, 0, 0, 0)]
def cd_54 : List (Nat × Nat × gm_I) := [(0, 1, .aload_n 1, 0, 0, 0, 0), (1, 2, .aload_n 0, 0, 0, 0, 0), (2, 5, .getfield 41, 37, 3, 0, 0), (5, 8, .invokevirtual 171, 89, 26, 0, 0), (8, 9, .aload_n 0, 0, 0, 0, 0), (9, 12, .getfield 18, 39, 3, 2, 0), (12, 13, .iconst 0, 0, 0, 0, 0), (13, 14, .laload, 0, 0, 0, 0), (14, 15, .lstore_n 2, 0, 0, 0, 0), (15, 16, .iconst 0, 0, 0, 0, 0), (16, 18, .istore 4, 0, 0, 0, 0), (18, 20, .iload 4, 0, 0, 0, 0), (20, 21, .aload_n 0, 0, 0, 0, 0), (21, 24, .getfield 41, 37, 3, 0, 0), (24, 27, .getfield 75, 1, 0, 0, 0), (27, 30, .if_icmp .ge 70, 0, 97, 0, 0), (30, 31, .aload_n 0, 0, 0, 0, 0), (31, 33, .iload 4, 0, 0, 0, 0), (33, 34, .lload_n 2, 0, 0, 0, 0), (34, 35, .aload_n 0, 0, 0, 0, 0), (35, 38, .getfield 18, 39, 3, 2, 0), (38, 40, .iload 4, 0, 0, 0, 0), (40, 41, .laload, 0, 0, 0, 0), (41, 42, .land, 0, 0, 0, 0), (42, 45, .invokevirtual 148, 87, 53, 0, 0), (45, 47, .istore 5, 0, 0, 0, 0), (47, 49, .iload 5, 0, 0, 0, 0), (49, 50, .iconst (-1), 0, 0, 0, 0), (50, 53, .if_icmp .ne 4, 0, 54, 0, 0), (53, 54, .return_, 0, 0, 0, 0), (54, 56, .iload 5, 0, 0, 0, 0), (56, 58, .iload 4, 0, 0, 0, 0), (58, 60, .bipush 35, 0, 0, 0, 0), (60, 61, .imul, 0, 0, 0, 0), (61, 62, .isub, 0, 0, 0, 0), (62, 64, .istore 6, 0, 0, 0, 0), (64, 65, .aload_n 1, 0, 0, 0, 0), (65, 68, .getfield 175, 67, 2, 4, 0), (68, 70, .iload 4, 0, 0, 0, 0), (70, 71, .aload_n 0, 0, 0, 0, 0), (71, 74, .getfield 12, 38, 3, 1, 0), (74, 77, .getfield 178, 31, 4, 1, 0), (77, 79, .iload 6, 0, 0, 0, 0), (79, 80, .iaload, 0, 0, 0, 0), (80, 81, .iastore, 0, 0, 0, 0), (81, 82, .aload_n 0, 0, 0, 0, 0), (82, 85, .getfield 12, 38, 3, 1, 0), (85, 87, .iload 6, 0, 0, 0, 0), (87, 90, .invokevirtual 168, 86, 61, 0, 0), (90, 91, .lstore_n 2, 0, 0, 0, 0), (91, 94, .iinc 4 1, 0, 0, 0, 0), (94, 97, .goto (-76), 0, 18, 0, 0), (97, 98, .return_, 0, 0, 0, 0)]
def cd_55 : List (Nat × Nat × gm_I) := [(0, 1, .aload_n 0, 0, 0, 0, 0), (1, 4, .invokespecial 3, 7, 0, 3, 0), (4, 5, .aload_n 0, 0, 0, 0, 0), (5, 7, .bipush 35, 0, 0, 0, 0), (7, 9, .newarray .int, 0, 0, 0, 0), (9, 12, .putfield 9, 30, 4, 1, 0), (12, 13, .aload_n 0, 0, 0, 0, 0), (13, 16, .sipush 245, 0, 0, 0, 0), (16, 18, .newarray .int, 0, 0, 0, 0), (18, 21, .putfield 15, 32, 4, 2, 0), (21, 22, .aload_n 0, 0, 0, 0, 0), (22, 24, .bipush 35, 0, 0, 0, 0), (24, 26, .newarray .long, 0, 0, 0, 0), (26, 29, .putfield 18, 33, 4, 3, 0), (29, 30, .return_, 0, 0, 0, 0)]
def cd_56 : List (Nat × Nat × gm_I) := [(0, 1, .aload_n 0, 0, 0, 0, 0), (1, 4, .getfield 22, 34, 4, 4, 0), (4, 5, .iload_n 1, 0, 0, 0, 0), (5, 8, .if_icmp .ne 20, 0, 25, 0, 0), (8, 9, .aload_n 0, 0, 0, 0, 0), (9, 12, .getfield 26, 35, 4, 5, 0), (12, 13, .iload_n 2, 0, 0, 0, 0), (13, 16, .if_icmp .ne 12, 0, 25, 0, 0), (16, 17, .aload_n 0, 0, 0, 0, 0), (17, 20, .getfield 29, 36, 4, 6, 0), (20, 21, .iload_n 3, 0, 0, 0, 0), (21, 24, .if_icmp .ne 4, 0, 25, 0, 0), (24, 25, .return_, 0, 0, 0, 0), (25, 26, .aload_n 0, 0, 0, 0, 0), (26, 27, .iload_n 1, 0, 0, 0, 0), (27, 30, .putfield 22, 34, 4, 4, 0), (30, 31, .aload_n 0, 0, 0, 0, 0), (31, 32, .iload_n 2, 0, 0, 0, 0), (32, 35, .putfield 26, 35, 4, 5, 0), (35, 36, .aload_n 0, 0, 0, 0, 0), (36, 37, .iload_n 3, 0, 0, 0, 0), (37, 40, .putfield 29, 36, 4, 6, 0), (40, 41, .aload_n 0, 0, 0, 0, 0), (41, 42, .iconst 0, 0, 0, 0, 0), (42, 45, .putfield 32, 28, 4, 0, 0), (45, 46, .iconst 0, 0, 0, 0, 0), (46, 48, .istore 4, 0, 0, 0, 0), (48, 50, .iload 4, 0, 0, 0, 0), (50, 51, .iconst 1, 0, 0, 0, 0), (51, 52, .aload_n 0, 0, 0, 0, 0), (52, 55, .getfield 22, 34, 4, 4, 0), (55, 56, .ishl, 0, 0, 0, 0), (56, 59, .if_icmp .ge 36, 0, 92, 0, 0), (59, 61, .iload 4, 0, 0, 0, 0), (61, 64, .invokestatic 35, 44, 194, 0, 0), (64, 65, .aload_n 0, 0, 0, 0, 0), (65, 68, .getfield 26, 35, 4, 5, 0), (68, 71, .if_icmp .ne 18, 0, 86, 0, 0), (71, 72, .aload_n 0, 0, 0, 0, 0), (72, 75, .getfield 32, 28, 4, 0, 0), (75, 77, .bipush 35, 0, 0, 0, 0), (77, 80, .if_icmp .ge 9, 0, 86, 0, 0), (80, 81, .aload_n 0, 0, 0, 0, 0), (81, 83, .iload 4, 0, 0, 0, 0), (83, 86, .invokevirtual 41, 45, 57, 0, 0), (86, 89, .iinc 4 1, 0, 0, 0, 0), (89, 92, .goto (-41), 0, 48, 0, 0), (92, 93, .aload_n 0, 0, 0, 0, 0), (93, 96, .invokevirtual 45, 47, 58, 0, 0), (96, 97, .return_, 0, 0, 0, 0)]
def cd_57 : List (Nat × Nat × gm_I) := [(0, 1, .aload_n 0, 0, 0, 0, 0), (1, 4, .getfield 32, 28, 4, 0, 0), (4, 6, .bipush 7, 0, 0, 0, 0), (6, 7, .imul, 0, 0, 0, 0), (7, 8, .istore_n 2, 0, 0, 0, 0), (8, 9, .iconst 0, 0, 0, 0, 0), (9, 10, .istore_n 3, 0, 0, 0, 0), (10, 11, .iconst 0, 0, 0, 0, 0), (11, 13, .istore 4, 0, 0, 0, 0), (13, 15, .iload 4, 0, 0, 0, 0), (15, 16, .aload_n 0, 0, 0, 0, 0), (16, 19, .getfield 22, 34, 4, 4, 0), (19, 22, .if_icmp .ge 59, 0, 78, 0, 0), (22, 23, .iload_n 1, 0, 0, 0, 0), (23, 25, .iload 4, 0, 0, 0, 0), (25, 28, .invokestatic 48, 46, 109, 1, 0), (28, 29, .iconst 1, 0, 0, 0, 0), (29, 32, .if_icmp .ne 43, 0, 72, 0, 0), (32, 33, .iload_n 3, 0, 0, 0, 0), (33, 36, .ifCond .le 26, 0, 59, 0, 0), (36, 38, .iload 4, 0, 0, 0, 0), (38, 39, .aload_n 0, 0, 0, 0, 0), (39, 42, .getfield 15, 32, 4, 2, 0), (42, 43, .iload_n 2, 0, 0, 0, 0), (43, 44, .iload_n 3, 0, 0, 0, 0), (44, 45, .iadd, 0, 0, 0, 0), (45, 46, .iconst 1, 0, 0, 0, 0), (46, 47, .isub, 0, 0, 0, 0), (47, 48, .iaload, 0, 0, 0, 0), (48, 49, .isub, 0, 0, 0, 0), (49, 50, .iconst 1, 0, 0, 0, 0), (50, 51, .isub, 0, 0, 0, 0), (51, 52, .aload_n 0, 0, 0, 0, 0), (52, 55, .getfield 29, 36, 4, 6, 0), (55, 58, .if_icmp .le 4, 0, 59, 0, 0), (58, 59, .return_, 0, 0, 0, 0), (59, 60, .aload_n 0, 0, 0, 0, 0), (60, 63, .getfield 15, 32, 4, 2, 0), (63, 64, .iload_n 2, 0, 0, 0, 0), (64, 65, .iload_n 3, 0, 0, 0, 0), (65, 66, .iadd, 0, 0, 0, 0), (66, 68, .iload 4, 0, 0, 0, 0), (68, 69, .iastore, 0, 0, 0, 0), (69, 72, .iinc 3 1, 0, 0, 0, 0), (72, 75, .iinc 4 1, 0, 0, 0, 0), (75, 78, .goto (-62), 0, 13, 0, 0), (78, 79, .aload_n 0, 0, 0, 0, 0), (79, 82, .getfield 9, 30, 4, 1, 0), (82, 83, .aload_n 0, 0, 0, 0, 0), (83, 86, .getfield 32, 28, 4, 0, 0), (86, 87, .iload_n 1, 0, 0, 0, 0), (87, 88, .iastore, 0, 0, 0, 0), (88, 89, .aload_n 0, 0, 0, 0, 0), (89, 90, .dup, 0, 0, 0, 0), (90, 93, .getfield 32, 28, 4, 0, 0), (93, 94, .iconst 1, 0, 0, 0, 0), (94, 95, .iadd, 0, 0, 0, 0), (95, 98, .putfield 32, 28, 4, 0, 0), (98, 99, .return_, 0, 0, 0, 0)]
def cd_58 : List (Nat × Nat × gm_I) := [(0, 1, .iconst 0, 0, 0, 0, 0), (1, 2, .istore_n 1, 0, 0, 0, 0), (2, 3, .iload_n 1, 0, 0, 0, 0), (3, 4, .aload_n 0, 0, 0, 0, 0), (4, 7, .getfield 32, 28, 4, 0, 0), (7, 10, .if_icmp .ge 64, 0, 71, 0, 0), (10, 11, .aload_n 0, 0, 0, 0, 0), (11, 14, .getfield 18, 33, 4, 3, 0), (14, 15, .iload_n 1, 0, 0, 0, 0), (15, 16, .lconst 1, 0, 0, 0, 0), (16, 17, .iload_n 1, 0, 0, 0, 0), (17, 18, .lshl, 0, 0, 0, 0), (18, 19, .lastore, 0, 0, 0, 0), (19, 20, .iconst 0, 0, 0, 0, 0), (20, 21, .istore_n 2, 0, 0, 0, 0), (21, 22, .iload_n 2, 0, 0, 0, 0), (22, 23, .iload_n 1, 0, 0, 0, 0), (23, 26, .if_icmp .ge 42, 0, 65, 0, 0), (26, 27, .aload_n 0, 0, 0, 0, 0), (27, 28, .iload_n 1, 0, 0, 0, 0), (28, 29, .iload_n 2, 0, 0, 0, 0), (29, 32, .invokevirtual 52, 48, 59, 0, 0), (32, 35, .ifCond .eq 27, 0, 59, 0, 0), (35, 36, .aload_n 0, 0, 0, 0, 0), (36, 39, .getfield 18, 33, 4, 3, 0), (39, 40, .iload_n 1, 0, 0, 0, 0), (40, 41, .dup2, 0, 0, 0, 0), (41, 42, .laload, 0, 0, 0, 0), (42, 43, .lconst 1, 0, 0, 0, 0), (43, 44, .iload_n 2, 0, 0, 0, 0), (44, 45, .lshl, 0, 0, 0, 0), (45, 46, .lor, 0, 0, 0, 0), (46, 47, .lastore, 0, 0, 0, 0), (47, 48, .aload_n 0, 0, 0, 0, 0), (48, 51, .getfield 18, 33, 4, 3, 0), (51, 52, .iload_n 2, 0, 0, 0, 0), (52, 53, .dup2, 0, 0, 0, 0), (53, 54, .laload, 0, 0, 0, 0), (54, 55, .lconst 1, 0, 0, 0, 0), (55, 56, .iload_n 1, 0, 0, 0, 0), (56, 57, .lshl, 0, 0, 0, 0), (57, 58, .lor, 0, 0, 0, 0), (58, 59, .lastore, 0, 0, 0, 0), (59, 62, .iinc 2 1, 0, 0, 0, 0), (62, 65, .goto (-41), 0, 21, 0, 0), (65, 68, .iinc 1 1, 0, 0, 0, 0), (68, 71, .goto (-66), 0, 2, 0, 0), (71, 72, .return_, 0, 0, 0, 0)]
def cd_59 : List (Nat × Nat × gm_I) := [(0, 1, .iconst 0, 0, 0, 0, 0), (1, 2, .istore_n 3, 0, 0, 0, 0), (2, 3, .iload_n 3, 0, 0, 0, 0), (3, 4, .aload_n 0, 0, 0, 0, 0), (4, 7, .getfield 26, 35, 4, 5, 0), (7, 10, .if_icmp .ge 55, 0, 62, 0, 0), (10, 11, .aload_n 0, 0, 0, 0, 0), (11, 14, .getfield 15, 32, 4, 2, 0), (14, 15, .iload_n 1, 0, 0, 0, 0), (15, 17, .bipush 7, 0, 0, 0, 0), (17, 18, .imul, 0, 0, 0, 0), (18, 19, .iload_n 3, 0, 0, 0, 0), (19, 20, .iadd, 0, 0, 0, 0), (20, 21, .iaload, 0, 0, 0, 0), (21, 22, .aload_n 0, 0, 0, 0, 0), (22, 25, .getfield 15, 32, 4, 2, 0), (25, 26, .iload_n 2, 0, 0, 0, 0), (26, 28, .bipush 7, 0, 0, 0, 0), (28, 29, .imul, 0, 0, 0, 0), (29, 30, .iload_n 3, 0, 0, 0, 0), (30, 31, .iadd, 0, 0, 0, 0), (31, 32, .iaload, 0, 0, 0, 0), (32, 33, .isub, 0, 0, 0, 0), (33, 35, .istore 4, 0, 0, 0, 0), (35, 37, .iload 4, 0, 0, 0, 0), (37, 38, .aload_n 0, 0, 0, 0, 0), (38, 41, .getfield 29, 36, 4, 6, 0), (41, 44, .if_icmp .gt 13, 0, 54, 0, 0), (44, 46, .iload 4, 0, 0, 0, 0), (46, 47, .ineg, 0, 0, 0, 0), (47, 48, .aload_n 0, 0, 0, 0, 0), (48, 51, .getfield 29, 36, 4, 6, 0), (51, 54, .if_icmp .le 5, 0, 56, 0, 0), (54, 55, .iconst 0, 0, 0, 0, 0), (55, 56, .ireturn, 0, 0, 0, 0), (56, 59, .iinc 3 1, 0, 0, 0, 0), (59, 62, .goto (-57), 0, 2, 0, 0), (62, 63, .iconst 1, 0, 0, 0, 0), (63, 64, .ireturn, 0, 0, 0, 0)]
def cd_60 : List (Nat × Nat × gm_I) := [(0, 1, .aload_n 0, 0, 0, 0, 0), (1, 4, .getfield 15, 32, 4, 2, 0), (4, 5, .iload_n 1, 0, 0, 0, 0), (5, 7, .bipush 7, 0, 0, 0, 0), (7, 8, .imul, 0, 0, 0, 0), (8, 9, .iload_n 2, 0, 0, 0, 0), (9, 10, .iadd, 0, 0, 0, 0), (10, 11, .iaload, 0, 0, 0, 0), (11, 12, .ireturn, 0, 0, 0, 0)]
def cd_61 : List (Nat × Nat × gm_I) := [(0, 1, .aload_n 0, 0, 0, 0, 0), (1, 4, .getfield 18, 33, 4, 3, 0), (4, 5, .iload_n 1, 0, 0, 0, 0), (5, 6, .laload, 0, 0, 0, 0), (6, 7, .lreturn, 0, 0, 0, 0)]
def cd_62 : List (Nat × Nat × gm_I) := [(0, 1, .lconst 0, 0, 0, 0, 0), (1, 2, .lstore_n 2, 0, 0, 0, 0), (2, 3, .iconst 0, 0, 0, 0, 0), (3, 5, .istore 4, 0, 0, 0, 0), (5, 7, .iload 4, 0, 0, 0, 0), (7, 8, .aload_n 0, 0, 0, 0, 0), (8, 11, .getfield 32, 28, 4, 0, 0), (11, 14, .if_icmp .ge 28, 0, 39, 0, 0), (14, 15, .aload_n 0, 0, 0, 0, 0), (15, 18, .getfield 9, 30, 4, 1, 0), (18, 20, .iload 4, 0, 0, 0, 0), (20, 21, .iaload, 0, 0, 0, 0), (21, 22, .iload_n 1, 0, 0, 0, 0), (22, 23, .iand, 0, 0, 0, 0), (23, 26, .ifCond .ne 10, 0, 33, 0, 0), (26, 27, .lload_n 2, 0, 0, 0, 0), (27, 28, .lconst 1, 0, 0, 0, 0), (28, 30, .iload 4, 0, 0, 0, 0), (30, 31, .lshl, 0, 0, 0, 0), (31, 32, .lor, 0, 0, 0, 0), (32, 33, .lstore_n 2, 0, 0, 0, 0), (33, 36, .iinc 4 1, 0, 0, 0, 0), (36, 39, .goto (-31), 0, 5, 0, 0), (39, 40, .lload_n 2, 0, 0, 0, 0), (40, 41, .lreturn, 0, 0, 0, 0)]
def cd_63 : List (Nat × Nat × gm_I) := [(0, 1, .lconst 0, 0, 0, 0, 0), (1, 2, .lstore_n 3, 0, 0, 0, 0), (2, 3, .iconst 0, 0, 0, 0, 0), (3, 5, .istore 5, 0, 0, 0, 0), (5, 7, .iload 5, 0, 0, 0, 0), (7, 8, .aload_n 0, 0, 0, 0, 0), (8, 11, .getfield 32, 28, 4, 0, 0), (11, 14, .if_icmp .ge 30, 0, 41, 0, 0), (14, 15, .lload_n 1, 0, 0, 0, 0), (15, 17, .iload 5, 0, 0, 0, 0), (17, 18, .lushr, 0, 0, 0, 0), (18, 19, .lconst 1, 0, 0, 0, 0), (19, 20, .land, 0, 0, 0, 0), (20, 21, .lconst 1, 0, 0, 0, 0), (21, 22, .lcmp, 0, 0, 0, 0), (22, 25, .ifCond .ne 13, 0, 35, 0, 0), (25, 26, .lload_n 3, 0, 0, 0, 0), (26, 27, .aload_n 0, 0, 0, 0, 0), (27, 30, .getfield 18, 33, 4, 3, 0), (30, 32, .iload 5, 0, 0, 0, 0), (32, 33, .laload, 0, 0, 0, 0), (33, 34, .lor, 0, 0, 0, 0), (34, 35, .lstore_n 3, 0, 0, 0, 0), (35, 38, .iinc 5 1, 0, 0, 0, 0), (38, 41, .goto (-33), 0, 5, 0, 0), (41, 42, .lload_n 3, 0, 0, 0, 0), (42, 43, .lreturn, 0, 0, 0, 0)]
def cd_64 : List (Nat × Nat × gm_I) := [(0, 1, .iconst 1, 0, 0, 0, 0), (1, 2, .aload_n 0, 0, 0, 0, 0), (2, 5, .getfield 22, 34, 4, 4, 0), (5, 6, .ishl, 0, 0, 0, 0), (6, 7, .iconst 1, 0, 0, 0, 0), (7, 8, .isub, 0, 0, 0, 0), (8, 9, .istore_n 3, 0, 0, 0, 0), (9, 10, .iconst 0, 0, 0, 0, 0), (10, 12, .istore 4, 0, 0, 0, 0), (12, 14, .iload 4, 0, 0, 0, 0), (14, 15, .aload_n 0, 0, 0, 0, 0), (15, 18, .getfield 32, 28, 4, 0, 0), (18, 21, .if_icmp .ge 30, 0, 48, 0, 0), (21, 22, .lload_n 1, 0, 0, 0, 0), (22, 24, .iload 4, 0, 0, 0, 0), (24, 25, .lushr, 0, 0, 0, 0), (25, 26, .lconst 1, 0, 0, 0, 0), (26, 27, .land, 0, 0, 0, 0), (27, 28, .lconst 1, 0, 0, 0, 0), (28, 29, .lcmp, 0, 0, 0, 0), (29, 32, .ifCond .ne 13, 0, 42, 0, 0), (32, 33, .iload_n 3, 0, 0, 0, 0), (33, 34, .aload_n 0, 0, 0, 0, 0), (34, 37, .getfield 9, 30, 4, 1, 0), (37, 39, .iload 4, 0, 0, 0, 0), (39, 40, .iaload, 0, 0, 0, 0), (40, 41, .iand, 0, 0, 0, 0), (41, 42, .istore_n 3, 0, 0, 0, 0), (42, 45, .iinc 4 1, 0, 0, 0, 0), (45, 48, .goto (-33), 0, 12, 0, 0), (48, 49, .iload_n 3, 0, 0, 0, 0), (49, 50, .ireturn, 0, 0, 0, 0)]
def cd_65 : List (Nat × Nat × gm_I) := [(0, 1, .aload_n 0, 0, 0, 0, 0), (1, 4, .invokespecial 3, 13, 0, 3, 0), (4, 5, .aload_n 0, 0, 0, 0, 0), (5, 6, .iconst 1, 0, 0, 0, 0), (6, 9, .putfield 9, 68, 5, 0, 0), (9, 10, .aload_n 0, 0, 0, 0, 0), (10, 12, .bipush 60, 0, 0, 0, 0), (12, 14, .newarray .int, 0, 0, 0, 0), (14, 17, .putfield 15, 74, 5, 3, 0), (17, 18, .return_, 0, 0, 0, 0)]
def cd_66 : List (Nat × Nat × gm_I) := [(0, 1, .aload_n 0, 0, 0, 0, 0), (1, 2, .iconst 0, 0, 0, 0, 0), (2, 5, .putfield 9, 68, 5, 0, 0), (5, 6, .aload_n 0, 0, 0, 0, 0), (6, 7, .iload_n 1, 0, 0, 0, 0), (7, 10, .putfield 19, 70, 5, 1, 0), (10, 11, .aload_n 0, 0, 0, 0, 0), (11, 12, .iload_n 2, 0, 0, 0, 0), (12, 15, .putfield 23, 72, 5, 2, 0), (15, 16, .aload_n 0, 0, 0, 0, 0), (16, 19, .getfield 15, 74, 5, 3, 0), (19, 20, .iconst 0, 0, 0, 0, 0), (20, 23, .invokestatic 26, 129, 198, 0, 0), (23, 24, .return_, 0, 0, 0, 0)]
def cd_67 : List (Nat × Nat × gm_I) := [(0, 1, .aload_n 0, 0, 0, 0, 0), (1, 4, .getfield 9, 68, 5, 0, 0), (4, 7, .ifCond .eq 5, 0, 9, 0, 0), (7, 8, .iconst 1, 0, 0, 0, 0), (8, 9, .ireturn, 0, 0, 0, 0), (9, 10, .aload_n 0, 0, 0, 0, 0), (10, 13, .getfield 19, 70, 5, 1, 0), (13, 14, .iload_n 1, 0, 0, 0, 0), (14, 17, .if_icmp .eq 5, 0, 19, 0, 0), (17, 18, .iconst 3, 0, 0, 0, 0), (18, 19, .ireturn, 0, 0, 0, 0), (19, 20, .iload_n 2, 0, 0, 0, 0), (20, 23, .ifCond .lt 11, 0, 31, 0, 0), (23, 24, .iload_n 2, 0, 0, 0, 0), (24, 25, .aload_n 0, 0, 0, 0, 0), (25, 28, .getfield 23, 72, 5, 2, 0), (28, 31, .if_icmp .lt 7, 0, 35, 0, 0), (31, 32, .iconst 2, 0, 0, 0, 0), (32, 35, .goto 4, 0, 36, 0, 0), (35, 36, .iconst 0, 0, 0, 0, 0), (36, 37, .ireturn, 0, 0, 0, 0)]
def cd_68 : List (Nat × Nat × gm_I) := [(0, 1, .iload_n 1, 0, 0, 0, 0), (1, 4, .ifCond .lt 29, 0, 30, 0, 0), (4, 5, .iload_n 2, 0, 0, 0, 0), (5, 8, .ifCond .lt 25, 0, 30, 0, 0), (8, 9, .iload_n 1, 0, 0, 0, 0), (9, 10, .aload_n 0, 0, 0, 0, 0), (10, 13, .getfield 23, 72, 5, 2, 0), (13, 16, .if_icmp .gt 17, 0, 30, 0, 0), (16, 17, .iload_n 2, 0, 0, 0, 0), (17, 18, .aload_n 0, 0, 0, 0, 0), (18, 21, .getfield 23, 72, 5, 2, 0), (21, 22, .iload_n 1, 0, 0, 0, 0), (22, 23, .isub, 0, 0, 0, 0), (23, 26, .if_icmp .gt 7, 0, 30, 0, 0), (26, 27, .iconst 1, 0, 0, 0, 0), (27, 30, .goto 4, 0, 31, 0, 0), (30, 31, .iconst 0, 0, 0, 0, 0), (31, 32, .ireturn, 0, 0, 0, 0)]
def cd_69 : List (Nat × Nat × gm_I) := [(0, 1, .aload_n 0, 0, 0, 0, 0), (1, 4, .getfield 15, 74, 5, 3, 0), (4, 5, .iload_n 1, 0, 0, 0, 0), (5, 6, .aload_n 0, 0, 0, 0, 0), (6, 9, .getfield 19, 70, 5, 1, 0), (9, 12, .ifCond .ne 9, 0, 18, 0, 0), (12, 13, .iload_n 2, 0, 0, 0, 0), (13, 14, .iconst 1, 0, 0, 0, 0), (14, 15, .iand, 0, 0, 0, 0), (15, 18, .goto 19, 0, 34, 0, 0), (18, 19, .aload_n 0, 0, 0, 0, 0), (19, 22, .getfield 19, 70, 5, 1, 0), (22, 23, .iconst 1, 0, 0, 0, 0), (23, 26, .if_icmp .ne 10, 0, 33, 0, 0), (26, 27, .iload_n 2, 0, 0, 0, 0), (27, 29, .ldc 32, 4, 0, 0, 65535), (29, 30, .iand, 0, 0, 0, 0), (30, 33, .goto 4, 0, 34, 0, 0), (33, 34, .iload_n 2, 0, 0, 0, 0), (34, 35, .iastore, 0, 0, 0, 0), (35, 36, .return_, 0, 0, 0, 0)]
def cd_70 : List (Nat × Nat × gm_I) := [(0, 1, .aload_n 0, 0, 0, 0, 0), (1, 4, .invokespecial 3, 1, 0, 3, 0), (4, 5, .aload_n 0, 0, 0, 0, 0), (5, 8, .new 9, 1, 0, 0, 0), (8, 9, .dup, 0, 0, 0, 0), (9, 12, .invokespecial 11, 2, 0, 1, 0), (12, 15, .putfield 12, 76, 6, 0, 0), (15, 16, .aload_n 0, 0, 0, 0, 0), (16, 19, .new 16, 2, 3, 0, 0), (19, 20, .dup, 0, 0, 0, 0), (20, 21, .aload_n 0, 0, 0, 0, 0), (21, 24, .getfield 12, 76, 6, 0, 0), (24, 27, .invokespecial 18, 4, 32, 0, 0), (27, 30, .putfield 21, 77, 6, 1, 0), (30, 31, .aload_n 0, 0, 0, 0, 0), (31, 34, .new 25, 4, 1, 0, 0), (34, 35, .dup, 0, 0, 0, 0), (35, 36, .aload_n 0, 0, 0, 0, 0), (36, 39, .getfield 12, 76, 6, 0, 0), (39, 42, .invokespecial 27, 8, 12, 0, 0), (42, 45, .putfield 28, 78, 6, 2, 0), (45, 46, .aload_n 0, 0, 0, 0, 0), (46, 49, .new 32, 5, 2, 0, 0), (49, 50, .dup, 0, 0, 0, 0), (50, 53, .invokespecial 34, 10, 24, 1, 0), (53, 56, .putfield 35, 79, 6, 3, 0), (56, 57, .aload_n 0, 0, 0, 0, 0), (57, 59, .bipush 6, 0, 0, 0, 0), (59, 62, .anewarray 32, 5, 2, 0, 0), (62, 65, .putfield 39, 80, 6, 4, 0), (65, 66, .aload_n 0, 0, 0, 0, 0), (66, 67, .iconst 4, 0, 0, 0, 0), (67, 70, .anewarray 43, 6, 5, 0, 0), (70, 73, .putfield 45, 81, 6, 5, 0), (73, 74, .iconst 0, 0, 0, 0, 0), (74, 75, .istore_n 1, 0, 0, 0, 0), (75, 76, .iload_n 1, 0, 0, 0, 0), (76, 78, .bipush 6, 0, 0, 0, 0), (78, 81, .if_icmp .ge 22, 0, 100, 0, 0), (81, 82, .aload_n 0, 0, 0, 0, 0), (82, 85, .getfield 39, 80, 6, 4, 0), (85, 86, .iload_n 1, 0, 0, 0, 0), (86, 89, .new 32, 5, 2, 0, 0), (89, 90, .dup, 0, 0, 0, 0), (90, 93, .invokespecial 34, 10, 24, 1, 0), (93, 94, .aastore, 0, 0, 0, 0), (94, 97, .iinc 1 1, 0, 0, 0, 0), (97, 100, .goto (-22), 0, 75, 0, 0), (100, 101, .iconst 0, 0, 0, 0, 0), (101, 102, .istore_n 1, 0, 0, 0, 0), (102, 103, .iload_n 1, 0, 0, 0, 0), (103, 104, .iconst 4, 0, 0, 0, 0), (104, 107, .if_icmp .ge 22, 0, 126, 0, 0), (107, 108, .aload_n 0, 0, 0, 0, 0), (108, 111, .getfield 45, 81, 6, 5, 0), (111, 112, .iload_n 1, 0, 0, 0, 0), (112, 115, .new 43, 6, 5, 0, 0), (115, 116, .dup, 0, 0, 0, 0), (116, 119, .invokespecial 49, 12, 65, 1, 0), (119, 120, .aastore, 0, 0, 0, 0), (120, 123, .iinc 1 1, 0, 0, 0, 0), (123, 126, .goto (-21), 0, 102, 0, 0), (126, 127, .return_, 0, 0, 0, 0)]
def cd_71 : List (Nat × Nat × gm_I) := [(0, 1, .iload_n 1, 0, 0, 0, 0), (1, 2, .iconst 1, 0, 0, 0, 0), (2, 5, .if_icmp .lt 20, 0, 22, 0, 0), (5, 6, .iload_n 1, 0, 0, 0, 0), (6, 8, .bipush 7, 0, 0, 0, 0), (8, 11, .if_icmp .gt 14, 0, 22, 0, 0), (11, 12, .iload_n 2, 0, 0, 0, 0), (12, 13, .iconst 1, 0, 0, 0, 0), (13, 16, .if_icmp .lt 9, 0, 22, 0, 0), (16, 17, .iload_n 2, 0, 0, 0, 0), (17, 19, .bipush 7, 0, 0, 0, 0), (19, 22, .if_icmp .le 6, 0, 25, 0, 0), (22, 24, .bipush (-2), 0, 0, 0, 0), (24, 25, .ireturn, 0, 0, 0, 0), (25, 26, .aload_n 0, 0, 0, 0, 0), (26, 29, .getfield 12, 76, 6, 0, 0), (29, 30, .iload_n 1, 0, 0, 0, 0), (30, 31, .iload_n 2, 0, 0, 0, 0), (31, 34, .invokevirtual 50, 15, 1, 0, 0), (34, 35, .aload_n 0, 0, 0, 0, 0), (35, 38, .getfield 35, 79, 6, 3, 0), (38, 39, .iconst 0, 0, 0, 0, 0), (39, 42, .putfield 54, 61, 2, 0, 0), (42, 43, .aload_n 0, 0, 0, 0, 0), (43, 46, .getfield 12, 76, 6, 0, 0), (46, 49, .invokevirtual 58, 18, 10, 0, 0), (49, 50, .ireturn, 0, 0, 0, 0)]
def cd_72 : List (Nat × Nat × gm_I) := [(0, 1, .iload_n 1, 0, 0, 0, 0), (1, 2, .iconst 1, 0, 0, 0, 0), (2, 5, .if_icmp .lt 14, 0, 16, 0, 0), (5, 6, .iload_n 1, 0, 0, 0, 0), (6, 7, .aload_n 0, 0, 0, 0, 0), (7, 10, .getfield 12, 76, 6, 0, 0), (10, 13, .getfield 62, 7, 0, 1, 0), (13, 16, .if_icmp .le 6, 0, 19, 0, 0), (16, 18, .bipush (-2), 0, 0, 0, 0), (18, 19, .ireturn, 0, 0, 0, 0), (19, 20, .aload_n 0, 0, 0, 0, 0), (20, 23, .getfield 12, 76, 6, 0, 0), (23, 26, .getfield 66, 12, 0, 2, 0), (26, 27, .istore_n 2, 0, 0, 0, 0), (27, 28, .aload_n 0, 0, 0, 0, 0), (28, 31, .getfield 12, 76, 6, 0, 0), (31, 32, .iload_n 1, 0, 0, 0, 0), (32, 35, .invokevirtual 69, 20, 2, 0, 0), (35, 36, .aload_n 0, 0, 0, 0, 0), (36, 39, .getfield 35, 79, 6, 3, 0), (39, 40, .iconst 0, 0, 0, 0, 0), (40, 43, .putfield 54, 61, 2, 0, 0), (43, 44, .iload_n 2, 0, 0, 0, 0), (44, 45, .ireturn, 0, 0, 0, 0)]
def cd_73 : List (Nat × Nat × gm_I) := [(0, 1, .iload_n 1, 0, 0, 0, 0), (1, 4, .ifCond .lt 8, 0, 9, 0, 0), (4, 5, .iload_n 1, 0, 0, 0, 0), (5, 6, .iconst 3, 0, 0, 0, 0), (6, 9, .if_icmp .le 6, 0, 12, 0, 0), (9, 11, .bipush (-2), 0, 0, 0, 0), (11, 12, .ireturn, 0, 0, 0, 0), (12, 13, .aload_n 0, 0, 0, 0, 0), (13, 16, .getfield 12, 76, 6, 0, 0), (16, 19, .getfield 73, 16, 0, 3, 0), (19, 20, .istore_n 2, 0, 0, 0, 0), (20, 21, .aload_n 0, 0, 0, 0, 0), (21, 24, .getfield 12, 76, 6, 0, 0), (24, 25, .iload_n 1, 0, 0, 0, 0), (25, 28, .invokevirtual 76, 22, 3, 0, 0), (28, 29, .iload_n 2, 0, 0, 0, 0), (29, 30, .ireturn, 0, 0, 0, 0)]
def cd_74 : List (Nat × Nat × gm_I) := [(0, 1, .iload_n 1, 0, 0, 0, 0), (1, 4, .ifCond .lt 9, 0, 10, 0, 0), (4, 5, .iload_n 1, 0, 0, 0, 0), (5, 7, .bipush 15, 0, 0, 0, 0), (7, 10, .if_icmp .le 6, 0, 13, 0, 0), (10, 12, .bipush (-2), 0, 0, 0, 0), (12, 13, .ireturn, 0, 0, 0, 0), (13, 14, .aload_n 0, 0, 0, 0, 0), (14, 17, .getfield 12, 76, 6, 0, 0), (17, 20, .getfield 79, 19, 0, 4, 0), (20, 21, .istore_n 2, 0, 0, 0, 0), (21, 22, .aload_n 0, 0, 0, 0, 0), (22, 25, .getfield 12, 76, 6, 0, 0), (25, 26, .iload_n 1, 0, 0, 0, 0), (26, 29, .invokevirtual 82, 24, 4, 0, 0), (29, 30, .iload_n 2, 0, 0, 0, 0), (30, 31, .ireturn, 0, 0, 0, 0)]
def cd_75 : List (Nat × Nat × gm_I) := [(0, 1, .aload_n 0, 0, 0, 0, 0), (1, 4, .getfield 12, 76, 6, 0, 0), (4, 5, .iload_n 1, 0, 0, 0, 0), (5, 6, .iload_n 2, 0, 0, 0, 0), (6, 9, .invokevirtual 85, 26, 7, 0, 0), (9, 12, .ifCond .ne 6, 0, 15, 0, 0), (12, 14, .bipush (-2), 0, 0, 0, 0), (14, 15, .ireturn, 0, 0, 0, 0), (15, 16, .aload_n 0, 0, 0, 0, 0), (16, 19, .getfield 12, 76, 6, 0, 0), (19, 20, .iload_n 2, 0, 0, 0, 0), (20, 21, .aload_n 0, 0, 0, 0, 0), (21, 24, .getfield 12, 76, 6, 0, 0), (24, 27, .getfield 89, 27, 0, 6, 0), (27, 28, .iload_n 2, 0, 0, 0, 0), (28, 29, .iaload, 0, 0, 0, 0), (29, 30, .iconst 1, 0, 0, 0, 0), (30, 31, .iload_n 1, 0, 0, 0, 0), (31, 32, .ishl, 0, 0, 0, 0), (32, 33, .ixor, 0, 0, 0, 0), (33, 36, .invokevirtual 93, 28, 5, 0, 0), (36, 37, .aload_n 0, 0, 0, 0, 0), (37, 40, .getfield 12, 76, 6, 0, 0), (40, 43, .invokevirtual 96, 29, 11, 0, 0), (43, 44, .ireturn, 0, 0, 0, 0)]
def cd_76 : List (Nat × Nat × gm_I) := [(0, 1, .iload_n 2, 0, 0, 0, 0), (1, 4, .ifCond .lt 9, 0, 10, 0, 0), (4, 5, .iload_n 2, 0, 0, 0, 0), (5, 7, .bipush 16, 0, 0, 0, 0), (7, 10, .if_icmp .le 6, 0, 13, 0, 0), (10, 12, .bipush (-2), 0, 0, 0, 0), (12, 13, .ireturn, 0, 0, 0, 0), (13, 14, .iload_n 1, 0, 0, 0, 0), (14, 15, .istore_n 3, 0, 0, 0, 0), (15, 16, .iconst 0, 0, 0, 0, 0), (16, 18, .istore 4, 0, 0, 0, 0), (18, 20, .iload 4, 0, 0, 0, 0), (20, 21, .aload_n 0, 0, 0, 0, 0), (21, 24, .getfield 12, 76, 6, 0, 0), (24, 27, .getfield 99, 4, 0, 0, 0), (27, 30, .if_icmp .ge 73, 0, 100, 0, 0), (30, 31, .iconst 0, 0, 0, 0, 0), (31, 33, .istore 5, 0, 0, 0, 0), (33, 34, .iconst 0, 0, 0, 0, 0), (34, 36, .istore 6, 0, 0, 0, 0), (36, 38, .iload 6, 0, 0, 0, 0), (38, 39, .aload_n 0, 0, 0, 0, 0), (39, 42, .getfield 12, 76, 6, 0, 0), (42, 45, .getfield 62, 7, 0, 1, 0), (45, 48, .if_icmp .ge 38, 0, 83, 0, 0), (48, 50, .ldc 102, 3, 0, 0, 1103515245), (50, 51, .iload_n 3, 0, 0, 0, 0), (51, 52, .imul, 0, 0, 0, 0), (52, 55, .sipush 12345, 0, 0, 0, 0), (55, 56, .iadd, 0, 0, 0, 0), (56, 57, .istore_n 3, 0, 0, 0, 0), (57, 58, .iload_n 3, 0, 0, 0, 0), (58, 60, .bipush 16, 0, 0, 0, 0), (60, 61, .iushr, 0, 0, 0, 0), (61, 63, .bipush 16, 0, 0, 0, 0), (63, 64, .irem, 0, 0, 0, 0), (64, 65, .iload_n 2, 0, 0, 0, 0), (65, 68, .if_icmp .ge 12, 0, 77, 0, 0), (68, 70, .iload 5, 0, 0, 0, 0), (70, 71, .iconst 1, 0, 0, 0, 0), (71, 73, .iload 6, 0, 0, 0, 0), (73, 74, .ishl, 0, 0, 0, 0), (74, 75, .ior, 0, 0, 0, 0), (75, 77, .istore 5, 0, 0, 0, 0), (77, 80, .iinc 6 1, 0, 0, 0, 0), (80, 83, .goto (-44), 0, 36, 0, 0), (83, 84, .aload_n 0, 0, 0, 0, 0), (84, 87, .getfield 12, 76, 6, 0, 0), (87, 89, .iload 4, 0, 0, 0, 0), (89, 91, .iload 5, 0, 0, 0, 0), (91, 94, .invokevirtual 93, 28, 5, 0, 0), (94, 97, .iinc 4 1, 0, 0, 0, 0), (97, 100, .goto (-79), 0, 18, 0, 0), (100, 101, .aload_n 0, 0, 0, 0, 0), (101, 104, .getfield 12, 76, 6, 0, 0), (104, 107, .invokevirtual 96, 29, 11, 0, 0), (107, 108, .ireturn, 0, 0, 0, 0)]
def cd_77 : List (Nat × Nat × gm_I) := [(0, 1, .aload_n 0, 0, 0, 0, 0), (1, 2, .iload_n 2, 0, 0, 0, 0), (2, 5, .invokevirtual 103, 33, 106, 0, 0), (5, 6, .astore_n 3, 0, 0, 0, 0), (6, 7, .aload_n 0, 0, 0, 0, 0), (7, 10, .getfield 12, 76, 6, 0, 0), (10, 11, .iload_n 1, 0, 0, 0, 0), (11, 14, .invokevirtual 107, 34, 6, 0, 0), (14, 17, .ifCond .eq 7, 0, 21, 0, 0), (17, 18, .aload_n 3, 0, 0, 0, 0), (18, 21, .ifnonnull 6, 0, 24, 0, 0), (21, 23, .bipush (-2), 0, 0, 0, 0), (23, 24, .ireturn, 0, 0, 0, 0), (24, 25, .aload_n 3, 0, 0, 0, 0), (25, 28, .getfield 111, 69, 5, 0, 0), (28, 31, .ifCond .eq 9, 0, 37, 0, 0), (31, 32, .aload_n 0, 0, 0, 0, 0), (32, 33, .iconst 1, 0, 0, 0, 0), (33, 36, .invokevirtual 114, 35, 104, 0, 0), (36, 37, .ireturn, 0, 0, 0, 0), (37, 38, .aload_n 3, 0, 0, 0, 0), (38, 41, .getfield 118, 73, 5, 2, 0), (41, 42, .aload_n 0, 0, 0, 0, 0), (42, 45, .getfield 12, 76, 6, 0, 0), (45, 48, .getfield 62, 7, 0, 1, 0), (48, 51, .invokestatic 121, 36, 197, 4, 0), (51, 53, .istore 4, 0, 0, 0, 0), (53, 54, .aload_n 0, 0, 0, 0, 0), (54, 57, .getfield 12, 76, 6, 0, 0), (57, 60, .getfield 89, 27, 0, 6, 0), (60, 61, .iload_n 1, 0, 0, 0, 0), (61, 62, .iaload, 0, 0, 0, 0), (62, 64, .istore 5, 0, 0, 0, 0), (64, 65, .iconst 0, 0, 0, 0, 0), (65, 67, .istore 6, 0, 0, 0, 0), (67, 69, .iload 6, 0, 0, 0, 0), (69, 71, .iload 4, 0, 0, 0, 0), (71, 74, .if_icmp .ge 40, 0, 111, 0, 0), (74, 75, .aload_n 3, 0, 0, 0, 0), (75, 78, .getfield 127, 75, 5, 3, 0), (78, 80, .iload 6, 0, 0, 0, 0), (80, 81, .iaload, 0, 0, 0, 0), (81, 84, .ifCond .eq 13, 0, 94, 0, 0), (84, 86, .iload 5, 0, 0, 0, 0), (86, 87, .iconst 1, 0, 0, 0, 0), (87, 89, .iload 6, 0, 0, 0, 0), (89, 90, .ishl, 0, 0, 0, 0), (90, 91, .ior, 0, 0, 0, 0), (91, 94, .goto 12, 0, 103, 0, 0), (94, 96, .iload 5, 0, 0, 0, 0), (96, 97, .iconst 1, 0, 0, 0, 0), (97, 99, .iload 6, 0, 0, 0, 0), (99, 100, .ishl, 0, 0, 0, 0), (100, 101, .iconst (-1), 0, 0, 0, 0), (101, 102, .ixor, 0, 0, 0, 0), (102, 103, .iand, 0, 0, 0, 0), (103, 105, .istore 5, 0, 0, 0, 0), (105, 108, .iinc 6 1, 0, 0, 0, 0), (108, 111, .goto (-41), 0, 67, 0, 0), (111, 112, .aload_n 0, 0, 0, 0, 0), (112, 115, .getfield 12, 76, 6, 0, 0), (115, 116, .iload_n 1, 0, 0, 0, 0), (116, 118, .iload 5, 0, 0, 0, 0), (118, 121, .invokevirtual 93, 28, 5, 0, 0), (121, 123, .iload 4, 0, 0, 0, 0), (123, 124, .ireturn, 0, 0, 0, 0)]
def cd_78 : List (Nat × Nat × gm_I) := [(0, 1, .aload_n 0, 0, 0, 0, 0), (1, 4, .getfield 12, 76, 6, 0, 0), (4, 5, .iload_n 1, 0, 0, 0, 0), (5, 6, .iload_n 2, 0, 0, 0, 0), (6, 9, .invokevirtual 85, 26, 7, 0, 0), (9, 12, .ifCond .ne 6, 0, 15, 0, 0), (12, 14, .bipush (-2), 0, 0, 0, 0), (14, 15, .ireturn, 0, 0, 0, 0), (15, 16, .iload_n 3, 0, 0, 0, 0), (16, 52, .tableswitch 125 0 4 #[36, 50, 78, 91, 104], 0, 0, 0, 0), (52, 53, .aload_n 0, 0, 0, 0, 0), (53, 56, .getfield 12, 76, 6, 0, 0), (56, 59, .getfield 89, 27, 0, 6, 0), (59, 60, .iload_n 2, 0, 0, 0, 0), (60, 61, .iaload, 0, 0, 0, 0), (61, 62, .iload_n 1, 0, 0, 0, 0), (62, 65, .invokestatic 130, 38, 109, 0, 0), (65, 66, .ireturn, 0, 0, 0, 0), (66, 67, .aload_n 0, 0, 0, 0, 0), (67, 70, .getfield 35, 79, 6, 3, 0), (70, 73, .getfield 54, 61, 2, 0, 0), (73, 76, .ifCond .eq 19, 0, 92, 0, 0), (76, 77, .aload_n 0, 0, 0, 0, 0), (77, 80, .getfield 35, 79, 6, 3, 0), (80, 83, .getfield 133, 66, 2, 4, 0), (83, 84, .iload_n 2, 0, 0, 0, 0), (84, 85, .iaload, 0, 0, 0, 0), (85, 86, .iload_n 1, 0, 0, 0, 0), (86, 89, .invokestatic 136, 39, 111, 0, 0), (89, 92, .goto 4, 0, 93, 0, 0), (92, 93, .iconst (-1), 0, 0, 0, 0), (93, 94, .ireturn, 0, 0, 0, 0), (94, 95, .aload_n 0, 0, 0, 0, 0), (95, 98, .getfield 21, 77, 6, 1, 0), (98, 99, .iload_n 2, 0, 0, 0, 0), (99, 102, .invokevirtual 139, 41, 42, 0, 0), (102, 103, .iload_n 1, 0, 0, 0, 0), (103, 106, .invokestatic 130, 38, 109, 0, 0), (106, 107, .ireturn, 0, 0, 0, 0), (107, 108, .aload_n 0, 0, 0, 0, 0), (108, 111, .getfield 21, 77, 6, 1, 0), (111, 112, .iload_n 2, 0, 0, 0, 0), (112, 115, .invokevirtual 142, 60, 41, 0, 0), (115, 116, .iload_n 1, 0, 0, 0, 0), (116, 119, .invokestatic 130, 38, 109, 0, 0), (119, 120, .ireturn, 0, 0, 0, 0), (120, 121, .aload_n 0, 0, 0, 0, 0), (121, 124, .getfield 28, 78, 6, 2, 0), (124, 127, .invokevirtual 145, 61, 14, 0, 0), (127, 128, .aload_n 0, 0, 0, 0, 0), (128, 131, .getfield 12, 76, 6, 0, 0), (131, 132, .iload_n 1, 0, 0, 0, 0), (132, 133, .iload_n 2, 0, 0, 0, 0), (133, 136, .invokevirtual 149, 75, 9, 0, 0), (136, 137, .lushr, 0, 0, 0, 0), (137, 138, .l2i, 0, 0, 0, 0), (138, 139, .iconst 1, 0, 0, 0, 0), (139, 140, .iand, 0, 0, 0, 0), (140, 141, .ireturn, 0, 0, 0, 0), (141, 143, .bipush (-2), 0, 0, 0, 0), (143, 144, .ireturn, 0, 0, 0, 0)]
def cd_79 : List (Nat × Nat × gm_I) := [(0, 1, .aload_n 0, 0, 0, 0, 0), (1, 4, .getfield 21, 77, 6, 1, 0), (4, 7, .invokevirtual 152, 77, 36, 0, 0), (7, 10, .ifCond .eq 7, 0, 14, 0, 0), (10, 11, .iconst 1, 0, 0, 0, 0), (11, 14, .goto 4, 0, 15, 0, 0), (14, 15, .iconst 0, 0, 0, 0, 0), (15, 16, .ireturn, 0, 0, 0, 0)]
def cd_80 : List (Nat × Nat × gm_I) := [(0, 1, .aload_n 0, 0, 0, 0, 0), (1, 4, .getfield 21, 77, 6, 1, 0), (4, 5, .aload_n 0, 0, 0, 0, 0), (5, 8, .getfield 35, 79, 6, 3, 0), (8, 11, .invokevirtual 156, 79, 49, 0, 0), (11, 12, .istore_n 1, 0, 0, 0, 0), (12, 13, .iload_n 1, 0, 0, 0, 0), (13, 14, .iconst (-1), 0, 0, 0, 0), (14, 17, .if_icmp .ne 6, 0, 20, 0, 0), (17, 19, .bipush (-3), 0, 0, 0, 0), (19, 20, .ireturn, 0, 0, 0, 0), (20, 21, .aload_n 0, 0, 0, 0, 0), (21, 24, .getfield 21, 77, 6, 1, 0), (24, 25, .aload_n 0, 0, 0, 0, 0), (25, 28, .getfield 35, 79, 6, 3, 0), (28, 31, .invokevirtual 160, 88, 54, 0, 0), (31, 32, .aload_n 0, 0, 0, 0, 0), (32, 33, .dup, 0, 0, 0, 0), (33, 36, .getfield 164, 82, 6, 6, 0), (36, 37, .iload_n 1, 0, 0, 0, 0), (37, 38, .iadd, 0, 0, 0, 0), (38, 41, .putfield 164, 82, 6, 6, 0), (41, 42, .iload_n 1, 0, 0, 0, 0), (42, 43, .ireturn, 0, 0, 0, 0)]
def cd_81 : List (Nat × Nat × gm_I) := [(0, 1, .aload_n 0, 0, 0, 0, 0), (1, 4, .getfield 21, 77, 6, 1, 0), (4, 5, .aload_n 0, 0, 0, 0, 0), (5, 8, .getfield 35, 79, 6, 3, 0), (8, 11, .invokevirtual 156, 79, 49, 0, 0), (11, 12, .ireturn, 0, 0, 0, 0)]
def cd_82 : List (Nat × Nat × gm_I) := [(0, 1, .aload_n 0, 0, 0, 0, 0), (1, 4, .getfield 12, 76, 6, 0, 0), (4, 5, .iload_n 1, 0, 0, 0, 0), (5, 8, .invokevirtual 107, 34, 6, 0, 0), (8, 11, .ifCond .eq 34, 0, 42, 0, 0), (11, 12, .iload_n 2, 0, 0, 0, 0), (12, 15, .ifCond .lt 30, 0, 42, 0, 0), (15, 16, .iload_n 2, 0, 0, 0, 0), (16, 17, .iconst 1, 0, 0, 0, 0), (17, 18, .aload_n 0, 0, 0, 0, 0), (18, 21, .getfield 12, 76, 6, 0, 0), (21, 24, .getfield 62, 7, 0, 1, 0), (24, 25, .ishl, 0, 0, 0, 0), (25, 28, .if_icmp .ge 17, 0, 42, 0, 0), (28, 29, .iload_n 2, 0, 0, 0, 0), (29, 32, .invokestatic 167, 40, 194, 0, 0), (32, 33, .aload_n 0, 0, 0, 0, 0), (33, 36, .getfield 12, 76, 6, 0, 0), (36, 39, .getfield 66, 12, 0, 2, 0), (39, 42, .if_icmp .eq 6, 0, 45, 0, 0), (42, 44, .bipush (-2), 0, 0, 0, 0), (44, 45, .ireturn, 0, 0, 0, 0), (45, 46, .aload_n 0, 0, 0, 0, 0), (46, 49, .getfield 35, 79, 6, 3, 0), (49, 52, .getfield 54, 61, 2, 0, 0), (52, 55, .ifCond .ne 6, 0, 58, 0, 0), (55, 57, .bipush (-3), 0, 0, 0, 0), (57, 58, .ireturn, 0, 0, 0, 0), (58, 59, .aload_n 0, 0, 0, 0, 0), (59, 62, .getfield 35, 79, 6, 3, 0), (62, 65, .getfield 133, 66, 2, 4, 0), (65, 66, .iload_n 1, 0, 0, 0, 0), (66, 67, .iaload, 0, 0, 0, 0), (67, 68, .iload_n 2, 0, 0, 0, 0), (68, 69, .aload_n 0, 0, 0, 0, 0), (69, 72, .getfield 12, 76, 6, 0, 0), (72, 75, .getfield 66, 12, 0, 2, 0), (75, 78, .invokestatic 172, 92, 112, 0, 0), (78, 79, .istore_n 3, 0, 0, 0, 0), (79, 80, .aload_n 0, 0, 0, 0, 0), (80, 83, .getfield 35, 79, 6, 3, 0), (83, 86, .getfield 133, 66, 2, 4, 0), (86, 87, .iload_n 1, 0, 0, 0, 0), (87, 88, .iload_n 2, 0, 0, 0, 0), (88, 89, .iastore, 0, 0, 0, 0), (89, 90, .iload_n 3, 0, 0, 0, 0), (90, 91, .ireturn, 0, 0, 0, 0)]
def cd_83 : List (Nat × Nat × gm_I) := [(0, 1, .aload_n 0, 0, 0, 0, 0), (1, 4, .getfield 12, 76, 6, 0, 0), (4, 5, .iload_n 1, 0, 0, 0, 0), (5, 8, .invokevirtual 107, 34, 6, 0, 0), (8, 11, .ifCond .eq 18, 0, 26, 0, 0), (11, 12, .iload_n 2, 0, 0, 0, 0), (12, 15, .ifCond .lt 14, 0, 26, 0, 0), (15, 16, .iload_n 2, 0, 0, 0, 0), (16, 17, .aload_n 0, 0, 0, 0, 0), (17, 20, .getfield 12, 76, 6, 0, 0), (20, 23, .getfield 66, 12, 0, 2, 0), (23, 26, .if_icmp .lt 6, 0, 29, 0, 0), (26, 28, .bipush (-2), 0, 0, 0, 0), (28, 29, .ireturn, 0, 0, 0, 0), (29, 30, .aload_n 0, 0, 0, 0, 0), (30, 33, .getfield 35, 79, 6, 3, 0), (33, 36, .getfield 54, 61, 2, 0, 0), (36, 39, .ifCond .eq 19, 0, 55, 0, 0), (39, 40, .aload_n 0, 0, 0, 0, 0), (40, 43, .getfield 35, 79, 6, 3, 0), (43, 46, .getfield 133, 66, 2, 4, 0), (46, 47, .iload_n 1, 0, 0, 0, 0), (47, 48, .iaload, 0, 0, 0, 0), (48, 49, .iload_n 2, 0, 0, 0, 0), (49, 52, .invokestatic 176, 93, 110, 0, 0), (52, 55, .goto 4, 0, 56, 0, 0), (55, 56, .iconst (-1), 0, 0, 0, 0), (56, 57, .ireturn, 0, 0, 0, 0)]
def cd_84 : List (Nat × Nat × gm_I) := [(0, 1, .aload_n 0, 0, 0, 0, 0), (1, 4, .getfield 12, 76, 6, 0, 0), (4, 5, .iload_n 1, 0, 0, 0, 0), (5, 8, .invokevirtual 107, 34, 6, 0, 0), (8, 11, .ifCond .eq 14, 0, 22, 0, 0), (11, 12, .aload_n 0, 0, 0, 0, 0), (12, 15, .getfield 21, 77, 6, 1, 0), (15, 16, .iload_n 1, 0, 0, 0, 0), (16, 19, .invokevirtual 179, 96, 37, 0, 0), (19, 22, .goto 5, 0, 24, 0, 0), (22, 24, .bipush (-2), 0, 0, 0, 0), (24, 25, .ireturn, 0, 0, 0, 0)]
def cd_85 : List (Nat × Nat × gm_I) := [(0, 1, .aload_n 0, 0, 0, 0, 0), (1, 4, .getfield 35, 79, 6, 3, 0), (4, 7, .getfield 54, 61, 2, 0, 0), (7, 10, .ifCond .eq 17, 0, 24, 0, 0), (10, 11, .aload_n 0, 0, 0, 0, 0), (11, 14, .getfield 35, 79, 6, 3, 0), (14, 15, .aload_n 0, 0, 0, 0, 0), (15, 18, .getfield 12, 76, 6, 0, 0), (18, 21, .invokevirtual 182, 99, 29, 0, 0), (21, 24, .goto 4, 0, 25, 0, 0), (24, 25, .iconst (-1), 0, 0, 0, 0), (25, 26, .ireturn, 0, 0, 0, 0)]
def cd_86 : List (Nat × Nat × gm_I) := [(0, 1, .iload_n 1, 0, 0, 0, 0), (1, 4, .ifCond .lt 8, 0, 9, 0, 0), (4, 5, .iload_n 1, 0, 0, 0, 0), (5, 6, .iconst 1, 0, 0, 0, 0), (6, 9, .if_icmp .le 6, 0, 12, 0, 0), (9, 11, .bipush (-2), 0, 0, 0, 0), (11, 12, .ireturn, 0, 0, 0, 0), (12, 13, .iload_n 1, 0, 0, 0, 0), (13, 16, .ifCond .ne 13, 0, 26, 0, 0), (16, 17, .aload_n 0, 0, 0, 0, 0), (17, 20, .getfield 21, 77, 6, 1, 0), (20, 23, .invokevirtual 186, 106, 39, 0, 0), (23, 26, .goto 10, 0, 33, 0, 0), (26, 27, .aload_n 0, 0, 0, 0, 0), (27, 30, .getfield 21, 77, 6, 1, 0), (30, 33, .invokevirtual 189, 107, 40, 0, 0), (33, 34, .ireturn, 0, 0, 0, 0)]
def cd_87 : List (Nat × Nat × gm_I) := [(0, 1, .iconst 0, 0, 0, 0, 0), (1, 2, .istore_n 1, 0, 0, 0, 0), (2, 3, .iconst 0, 0, 0, 0, 0), (3, 4, .istore_n 2, 0, 0, 0, 0), (4, 5, .iload_n 2, 0, 0, 0, 0), (5, 6, .aload_n 0, 0, 0, 0, 0), (6, 9, .getfield 12, 76, 6, 0, 0), (9, 12, .getfield 99, 4, 0, 0, 0), (12, 15, .if_icmp .ge 23, 0, 35, 0, 0), (15, 16, .iload_n 1, 0, 0, 0, 0), (16, 17, .aload_n 0, 0, 0, 0, 0), (17, 20, .getfield 21, 77, 6, 1, 0), (20, 21, .iload_n 2, 0, 0, 0, 0), (21, 24, .invokevirtual 142, 60, 41, 0, 0), (24, 27, .invokestatic 167, 40, 194, 0, 0), (27, 28, .iadd, 0, 0, 0, 0), (28, 29, .istore_n 1, 0, 0, 0, 0), (29, 32, .iinc 2 1, 0, 0, 0, 0), (32, 35, .goto (-28), 0, 4, 0, 0), (35, 36, .iload_n 1, 0, 0, 0, 0), (36, 37, .ireturn, 0, 0, 0, 0)]
def cd_88 : List (Nat × Nat × gm_I) := [(0, 1, .iconst 0, 0, 0, 0, 0), (1, 2, .istore_n 1, 0, 0, 0, 0), (2, 3, .iconst 0, 0, 0, 0, 0), (3, 4, .istore_n 2, 0, 0, 0, 0), (4, 5, .iload_n 2, 0, 0, 0, 0), (5, 6, .aload_n 0, 0, 0, 0, 0), (6, 9, .getfield 12, 76, 6, 0, 0), (9, 12, .getfield 99, 4, 0, 0, 0), (12, 15, .if_icmp .ge 23, 0, 35, 0, 0), (15, 16, .iload_n 1, 0, 0, 0, 0), (16, 17, .aload_n 0, 0, 0, 0, 0), (17, 20, .getfield 21, 77, 6, 1, 0), (20, 21, .iload_n 2, 0, 0, 0, 0), (21, 24, .invokevirtual 139, 41, 42, 0, 0), (24, 27, .invokestatic 167, 40, 194, 0, 0), (27, 28, .iadd, 0, 0, 0, 0), (28, 29, .istore_n 1, 0, 0, 0, 0), (29, 32, .iinc 2 1, 0, 0, 0, 0), (32, 35, .goto (-28), 0, 4, 0, 0), (35, 36, .iload_n 1, 0, 0, 0, 0), (36, 37, .ireturn, 0, 0, 0, 0)]
def cd_89 : List (Nat × Nat × gm_I) := [(0, 1, .iload_n 1, 0, 0, 0, 0), (1, 4, .ifCond .lt 8, 0, 9, 0, 0), (4, 5, .iload_n 1, 0, 0, 0, 0), (5, 6, .iconst 1, 0, 0, 0, 0), (6, 9, .if_icmp .le 6, 0, 12, 0, 0), (9, 11, .bipush (-2), 0, 0, 0, 0), (11, 12, .ireturn, 0, 0, 0, 0), (12, 13, .iload_n 1, 0, 0, 0, 0), (13, 16, .ifCond .ne 13, 0, 26, 0, 0), (16, 17, .aload_n 0, 0, 0, 0, 0), (17, 20, .getfield 21, 77, 6, 1, 0), (20, 23, .invokevirtual 192, 111, 47, 0, 0), (23, 26, .goto 10, 0, 33, 0, 0), (26, 27, .aload_n 0, 0, 0, 0, 0), (27, 30, .getfield 21, 77, 6, 1, 0), (30, 33, .invokevirtual 195, 112, 48, 0, 0), (33, 34, .ireturn, 0, 0, 0, 0)]
def cd_90 : List (Nat × Nat × gm_I) := [(0, 1, .aload_n 0, 0, 0, 0, 0), (1, 4, .getfield 28, 78, 6, 2, 0), (4, 7, .invokevirtual 198, 114, 13, 0, 0), (7, 8, .ireturn, 0, 0, 0, 0)]
def cd_91 : List (Nat × Nat × gm_I) := [(0, 1, .aload_n 0, 0, 0, 0, 0), (1, 4, .getfield 28, 78, 6, 2, 0), (4, 7, .invokevirtual 145, 61, 14, 0, 0), (7, 8, .lreturn, 0, 0, 0, 0)]
def cd_92 : List (Nat × Nat × gm_I) := [(0, 1, .aload_n 0, 0, 0, 0, 0), (1, 2, .iload_n 1, 0, 0, 0, 0), (2, 5, .invokevirtual 201, 117, 105, 0, 0), (5, 6, .astore_n 2, 0, 0, 0, 0), (6, 7, .aload_n 2, 0, 0, 0, 0), (7, 10, .ifnonnull 9, 0, 16, 0, 0), (10, 11, .aload_n 0, 0, 0, 0, 0), (11, 12, .iconst 2, 0, 0, 0, 0), (12, 15, .invokevirtual 114, 35, 104, 0, 0), (15, 16, .ireturn, 0, 0, 0, 0), (16, 17, .aload_n 0, 0, 0, 0, 0), (17, 20, .getfield 35, 79, 6, 3, 0), (20, 23, .getfield 54, 61, 2, 0, 0), (23, 26, .ifCond .ne 6, 0, 29, 0, 0), (26, 28, .bipush (-3), 0, 0, 0, 0), (28, 29, .ireturn, 0, 0, 0, 0), (29, 30, .aload_n 2, 0, 0, 0, 0), (30, 31, .aload_n 0, 0, 0, 0, 0), (31, 34, .getfield 35, 79, 6, 3, 0), (34, 37, .invokevirtual 205, 118, 25, 0, 0), (37, 38, .aload_n 0, 0, 0, 0, 0), (38, 41, .invokevirtual 208, 120, 107, 0, 0), (41, 42, .ireturn, 0, 0, 0, 0)]
def cd_93 : List (Nat × Nat × gm_I) := [(0, 1, .aload_n 0, 0, 0, 0, 0), (1, 2, .iload_n 1, 0, 0, 0, 0), (2, 5, .invokevirtual 201, 117, 105, 0, 0), (5, 6, .astore_n 2, 0, 0, 0, 0), (6, 7, .aload_n 2, 0, 0, 0, 0), (7, 10, .ifnonnull 9, 0, 16, 0, 0), (10, 11, .aload_n 0, 0, 0, 0, 0), (11, 12, .iconst 2, 0, 0, 0, 0), (12, 15, .invokevirtual 114, 35, 104, 0, 0), (15, 16, .ireturn, 0, 0, 0, 0), (16, 17, .aload_n 2, 0, 0, 0, 0), (17, 20, .getfield 54, 61, 2, 0, 0), (20, 23, .ifCond .ne 9, 0, 29, 0, 0), (23, 24, .aload_n 0, 0, 0, 0, 0), (24, 25, .iconst 1, 0, 0, 0, 0), (25, 28, .invokevirtual 114, 35, 104, 0, 0), (28, 29, .ireturn, 0, 0, 0, 0), (29, 30, .aload_n 2, 0, 0, 0, 0), (30, 31, .aload_n 0, 0, 0, 0, 0), (31, 34, .getfield 12, 76, 6, 0, 0), (34, 37, .invokevirtual 211, 122, 27, 0, 0), (37, 40, .ifCond .ne 6, 0, 43, 0, 0), (40, 42, .bipush (-3), 0, 0, 0, 0), (42, 43, .ireturn, 0, 0, 0, 0), (43, 44, .aload_n 0, 0, 0, 0, 0), (44, 47, .getfield 35, 79, 6, 3, 0), (47, 48, .aload_n 2, 0, 0, 0, 0), (48, 51, .invokevirtual 205, 118, 25, 0, 0), (51, 52, .aload_n 0, 0, 0, 0, 0), (52, 55, .getfield 35, 79, 6, 3, 0), (55, 56, .aload_n 0, 0, 0, 0, 0), (56, 59, .getfield 12, 76, 6, 0, 0), (59, 62, .invokevirtual 182, 99, 29, 0, 0), (62, 63, .ireturn, 0, 0, 0, 0)]
def cd_94 : List (Nat × Nat × gm_I) := [(0, 1, .aload_n 0, 0, 0, 0, 0), (1, 2, .iload_n 1, 0, 0, 0, 0), (2, 5, .invokevirtual 201, 117, 105, 0, 0), (5, 6, .astore_n 2, 0, 0, 0, 0), (6, 7, .aload_n 2, 0, 0, 0, 0), (7, 10, .ifnonnull 9, 0, 16, 0, 0), (10, 11, .aload_n 0, 0, 0, 0, 0), (11, 12, .iconst 2, 0, 0, 0, 0), (12, 15, .invokevirtual 114, 35, 104, 0, 0), (15, 16, .ireturn, 0, 0, 0, 0), (16, 17, .aload_n 2, 0, 0, 0, 0), (17, 20, .getfield 54, 61, 2, 0, 0), (20, 23, .ifCond .ne 9, 0, 29, 0, 0), (23, 24, .aload_n 0, 0, 0, 0, 0), (24, 25, .iconst 1, 0, 0, 0, 0), (25, 28, .invokevirtual 114, 35, 104, 0, 0), (28, 29, .ireturn, 0, 0, 0, 0), (29, 30, .aload_n 2, 0, 0, 0, 0), (30, 31, .aload_n 0, 0, 0, 0, 0), (31, 34, .getfield 12, 76, 6, 0, 0), (34, 37, .invokevirtual 211, 122, 27, 0, 0), (37, 40, .ifCond .ne 6, 0, 43, 0, 0), (40, 42, .bipush (-3), 0, 0, 0, 0), (42, 43, .ireturn, 0, 0, 0, 0), (43, 44, .iconst 0, 0, 0, 0, 0), (44, 45, .istore_n 3, 0, 0, 0, 0), (45, 46, .iconst 0, 0, 0, 0, 0), (46, 48, .istore 4, 0, 0, 0, 0), (48, 50, .iload 4, 0, 0, 0, 0), (50, 51, .aload_n 0, 0, 0, 0, 0), (51, 54, .getfield 12, 76, 6, 0, 0), (54, 57, .getfield 99, 4, 0, 0, 0), (57, 60, .if_icmp .ge 45, 0, 102, 0, 0), (60, 61, .iload_n 3, 0, 0, 0, 0), (61, 62, .aload_n 0, 0, 0, 0, 0), (62, 65, .getfield 35, 79, 6, 3, 0), (65, 67, .iload 4, 0, 0, 0, 0), (67, 68, .aload_n 0, 0, 0, 0, 0), (68, 71, .getfield 12, 76, 6, 0, 0), (71, 74, .getfield 66, 12, 0, 2, 0), (74, 77, .invokevirtual 215, 124, 28, 0, 0), (77, 78, .aload_n 2, 0, 0, 0, 0), (78, 81, .getfield 133, 66, 2, 4, 0), (81, 83, .iload 4, 0, 0, 0, 0), (83, 84, .iaload, 0, 0, 0, 0), (84, 85, .aload_n 0, 0, 0, 0, 0), (85, 88, .getfield 12, 76, 6, 0, 0), (88, 91, .getfield 66, 12, 0, 2, 0), (91, 94, .invokestatic 172, 92, 112, 0, 0), (94, 95, .iadd, 0, 0, 0, 0), (95, 96, .istore_n 3, 0, 0, 0, 0), (96, 99, .iinc 4 1, 0, 0, 0, 0), (99, 102, .goto (-51), 0, 48, 0, 0), (102, 103, .iload_n 3, 0, 0, 0, 0), (103, 104, .ireturn, 0, 0, 0, 0)]
def cd_95 : List (Nat × Nat × gm_I) := [(0, 1, .aload_n 0, 0, 0, 0, 0), (1, 2, .iload_n 1, 0, 0, 0, 0), (2, 5, .invokevirtual 201, 117, 105, 0, 0), (5, 6, .astore_n 2, 0, 0, 0, 0), (6, 7, .aload_n 2, 0, 0, 0, 0), (7, 10, .ifnonnull 9, 0, 16, 0, 0), (10, 11, .aload_n 0, 0, 0, 0, 0), (11, 12, .iconst 2, 0, 0, 0, 0), (12, 15, .invokevirtual 114, 35, 104, 0, 0), (15, 16, .ireturn, 0, 0, 0, 0), (16, 17, .aload_n 2, 0, 0, 0, 0), (17, 20, .getfield 54, 61, 2, 0, 0), (20, 23, .ifCond .ne 9, 0, 29, 0, 0), (23, 24, .aload_n 0, 0, 0, 0, 0), (24, 25, .iconst 1, 0, 0, 0, 0), (25, 28, .invokevirtual 114, 35, 104, 0, 0), (28, 29, .ireturn, 0, 0, 0, 0), (29, 30, .aload_n 2, 0, 0, 0, 0), (30, 31, .iconst 0, 0, 0, 0, 0), (31, 34, .putfield 54, 61, 2, 0, 0), (34, 35, .aload_n 0, 0, 0, 0, 0), (35, 38, .invokevirtual 208, 120, 107, 0, 0), (38, 39, .ireturn, 0, 0, 0, 0)]
def cd_96 : List (Nat × Nat × gm_I) := [(0, 1, .aload_n 0, 0, 0, 0, 0), (1, 2, .iload_n 1, 0, 0, 0, 0), (2, 5, .invokevirtual 103, 33, 106, 0, 0), (5, 7, .astore 4, 0, 0, 0, 0), (7, 9, .aload 4, 0, 0, 0, 0), (9, 12, .ifnull 16, 0, 25, 0, 0), (12, 13, .iload_n 2, 0, 0, 0, 0), (13, 16, .invokestatic 218, 127, 108, 0, 0), (16, 19, .ifCond .eq 9, 0, 25, 0, 0), (19, 20, .iload_n 3, 0, 0, 0, 0), (20, 22, .bipush 60, 0, 0, 0, 0), (22, 25, .if_icmp .le 6, 0, 28, 0, 0), (25, 27, .bipush (-2), 0, 0, 0, 0), (27, 28, .ireturn, 0, 0, 0, 0), (28, 29, .iload_n 3, 0, 0, 0, 0), (29, 32, .ifCond .ge 9, 0, 38, 0, 0), (32, 33, .aload_n 0, 0, 0, 0, 0), (33, 34, .iconst 5, 0, 0, 0, 0), (34, 37, .invokevirtual 114, 35, 104, 0, 0), (37, 38, .ireturn, 0, 0, 0, 0), (38, 40, .aload 4, 0, 0, 0, 0), (40, 41, .iload_n 2, 0, 0, 0, 0), (41, 42, .iload_n 3, 0, 0, 0, 0), (42, 45, .invokevirtual 221, 128, 66, 0, 0), (45, 46, .iload_n 3, 0, 0, 0, 0), (46, 47, .ireturn, 0, 0, 0, 0)]
def cd_97 : List (Nat × Nat × gm_I) := [(0, 1, .aload_n 0, 0, 0, 0, 0), (1, 2, .iload_n 1, 0, 0, 0, 0), (2, 5, .invokevirtual 103, 33, 106, 0, 0), (5, 6, .astore_n 2, 0, 0, 0, 0), (6, 7, .aload_n 2, 0, 0, 0, 0), (7, 10, .ifnonnull 6, 0, 13, 0, 0), (10, 12, .bipush (-2), 0, 0, 0, 0), (12, 13, .ireturn, 0, 0, 0, 0), (13, 14, .aload_n 2, 0, 0, 0, 0), (14, 17, .getfield 111, 69, 5, 0, 0), (17, 20, .ifCond .eq 9, 0, 26, 0, 0), (20, 21, .aload_n 0, 0, 0, 0, 0), (21, 22, .iconst 1, 0, 0, 0, 0), (22, 25, .invokevirtual 114, 35, 104, 0, 0), (25, 26, .ireturn, 0, 0, 0, 0), (26, 27, .aload_n 2, 0, 0, 0, 0), (27, 28, .iconst 1, 0, 0, 0, 0), (28, 31, .putfield 111, 69, 5, 0, 0), (31, 32, .aload_n 2, 0, 0, 0, 0), (32, 35, .getfield 118, 73, 5, 2, 0), (35, 36, .ireturn, 0, 0, 0, 0)]
def cd_98 : List (Nat × Nat × gm_I) := [(0, 1, .aload_n 0, 0, 0, 0, 0), (1, 2, .iload_n 1, 0, 0, 0, 0), (2, 5, .invokevirtual 103, 33, 106, 0, 0), (5, 7, .astore 5, 0, 0, 0, 0), (7, 9, .aload 5, 0, 0, 0, 0), (9, 12, .ifnull 10, 0, 19, 0, 0), (12, 13, .iload_n 2, 0, 0, 0, 0), (13, 16, .invokestatic 218, 127, 108, 0, 0), (16, 19, .ifCond .ne 6, 0, 22, 0, 0), (19, 21, .bipush (-2), 0, 0, 0, 0), (21, 22, .ireturn, 0, 0, 0, 0), (22, 24, .aload 5, 0, 0, 0, 0), (24, 25, .iload_n 2, 0, 0, 0, 0), (25, 26, .iload_n 3, 0, 0, 0, 0), (26, 29, .invokevirtual 224, 132, 67, 0, 0), (29, 31, .istore 6, 0, 0, 0, 0), (31, 33, .iload 6, 0, 0, 0, 0), (33, 36, .ifCond .eq 10, 0, 43, 0, 0), (36, 37, .aload_n 0, 0, 0, 0, 0), (37, 39, .iload 6, 0, 0, 0, 0), (39, 42, .invokevirtual 114, 35, 104, 0, 0), (42, 43, .ireturn, 0, 0, 0, 0), (43, 45, .aload 5, 0, 0, 0, 0), (45, 46, .iload_n 3, 0, 0, 0, 0), (46, 48, .iload 4, 0, 0, 0, 0), (48, 51, .invokevirtual 227, 133, 69, 0, 0), (51, 52, .iconst 1, 0, 0, 0, 0), (52, 53, .ireturn, 0, 0, 0, 0)]
def cd_99 : List (Nat × Nat × gm_I) := [(0, 1, .aload_n 0, 0, 0, 0, 0), (1, 2, .iload_n 1, 0, 0, 0, 0), (2, 5, .invokevirtual 103, 33, 106, 0, 0), (5, 7, .astore 4, 0, 0, 0, 0), (7, 9, .aload 4, 0, 0, 0, 0), (9, 12, .ifnull 10, 0, 19, 0, 0), (12, 13, .iload_n 2, 0, 0, 0, 0), (13, 16, .invokestatic 218, 127, 108, 0, 0), (16, 19, .ifCond .ne 6, 0, 22, 0, 0), (19, 21, .ldc 230, 5, 0, 0, -2147483648), (21, 22, .ireturn, 0, 0, 0, 0), (22, 24, .aload 4, 0, 0, 0, 0), (24, 25, .iload_n 2, 0, 0, 0, 0), (25, 26, .iload_n 3, 0, 0, 0, 0), (26, 29, .invokevirtual 224, 132, 67, 0, 0), (29, 31, .istore 5, 0, 0, 0, 0), (31, 33, .iload 5, 0, 0, 0, 0), (33, 36, .ifCond .eq 12, 0, 45, 0, 0), (36, 37, .aload_n 0, 0, 0, 0, 0), (37, 39, .iload 5, 0, 0, 0, 0), (39, 42, .putfield 231, 83, 6, 7, 0), (42, 44, .ldc 230, 5, 0, 0, -2147483648), (44, 45, .ireturn, 0, 0, 0, 0), (45, 47, .aload 4, 0, 0, 0, 0), (47, 50, .getfield 127, 75, 5, 3, 0), (50, 51, .iload_n 3, 0, 0, 0, 0), (51, 52, .iaload, 0, 0, 0, 0), (52, 53, .ireturn, 0, 0, 0, 0)]
def cd_100 : List (Nat × Nat × gm_I) := [(0, 1, .aload_n 0, 0, 0, 0, 0), (1, 2, .iload_n 1, 0, 0, 0, 0), (2, 5, .invokevirtual 103, 33, 106, 0, 0), (5, 7, .astore 6, 0, 0, 0, 0), (7, 8, .aload_n 0, 0, 0, 0, 0), (8, 9, .iload_n 3, 0, 0, 0, 0), (9, 12, .invokevirtual 103, 33, 106, 0, 0), (12, 14, .astore 7, 0, 0, 0, 0), (14, 16, .aload 6, 0, 0, 0, 0), (16, 19, .ifnull 8, 0, 24, 0, 0), (19, 21, .aload 7, 0, 0, 0, 0), (21, 24, .ifnonnull 6, 0, 27, 0, 0), (24, 26, .bipush (-2), 0, 0, 0, 0), (26, 27, .ireturn, 0, 0, 0, 0), (27, 29, .aload 6, 0, 0, 0, 0), (29, 32, .getfield 111, 69, 5, 0, 0), (32, 35, .ifCond .ne 11, 0, 43, 0, 0), (35, 37, .aload 7, 0, 0, 0, 0), (37, 40, .getfield 111, 69, 5, 0, 0), (40, 43, .ifCond .eq 9, 0, 49, 0, 0), (43, 44, .aload_n 0, 0, 0, 0, 0), (44, 45, .iconst 1, 0, 0, 0, 0), (45, 48, .invokevirtual 114, 35, 104, 0, 0), (48, 49, .ireturn, 0, 0, 0, 0), (49, 51, .aload 6, 0, 0, 0, 0), (51, 54, .getfield 234, 71, 5, 1, 0), (54, 56, .aload 7, 0, 0, 0, 0), (56, 59, .getfield 234, 71, 5, 1, 0), (59, 62, .if_icmp .eq 9, 0, 68, 0, 0), (62, 63, .aload_n 0, 0, 0, 0, 0), (63, 64, .iconst 4, 0, 0, 0, 0), (64, 67, .invokevirtual 114, 35, 104, 0, 0), (67, 68, .ireturn, 0, 0, 0, 0), (68, 70, .aload 6, 0, 0, 0, 0), (70, 71, .iload_n 2, 0, 0, 0, 0), (71, 73, .iload 5, 0, 0, 0, 0), (73, 76, .invokevirtual 237, 136, 68, 0, 0), (76, 79, .ifCond .eq 15, 0, 91, 0, 0), (79, 81, .aload 7, 0, 0, 0, 0), (81, 83, .iload 4, 0, 0, 0, 0), (83, 85, .iload 5, 0, 0, 0, 0), (85, 88, .invokevirtual 237, 136, 68, 0, 0), (88, 91, .ifCond .ne 9, 0, 97, 0, 0), (91, 92, .aload_n 0, 0, 0, 0, 0), (92, 93, .iconst 2, 0, 0, 0, 0), (93, 96, .invokevirtual 114, 35, 104, 0, 0), (96, 97, .ireturn, 0, 0, 0, 0), (97, 99, .aload 6, 0, 0, 0, 0), (99, 102, .getfield 127, 75, 5, 3, 0), (102, 103, .iload_n 2, 0, 0, 0, 0), (103, 105, .aload 7, 0, 0, 0, 0), (105, 108, .getfield 127, 75, 5, 3, 0), (108, 110, .iload 4, 0, 0, 0, 0), (110, 112, .iload 5, 0, 0, 0, 0), (112, 115, .invokestatic 240, 137, 0, 2, 0), (115, 116, .iconst 1, 0, 0, 0, 0), (116, 117, .ireturn, 0, 0, 0, 0)]
def cd_101 : List (Nat × Nat × gm_I) := [(0, 1, .aload_n 0, 0, 0, 0, 0), (1, 2, .iload_n 2, 0, 0, 0, 0), (2, 5, .invokevirtual 103, 33, 106, 0, 0), (5, 6, .astore_n 3, 0, 0, 0, 0), (6, 7, .aload_n 0, 0, 0, 0, 0), (7, 10, .getfield 12, 76, 6, 0, 0), (10, 11, .iload_n 1, 0, 0, 0, 0), (11, 14, .invokevirtual 107, 34, 6, 0, 0), (14, 17, .ifCond .eq 7, 0, 21, 0, 0), (17, 18, .aload_n 3, 0, 0, 0, 0), (18, 21, .ifnonnull 6, 0, 24, 0, 0), (21, 23, .bipush (-2), 0, 0, 0, 0), (23, 24, .ireturn, 0, 0, 0, 0), (24, 25, .aload_n 3, 0, 0, 0, 0), (25, 28, .getfield 111, 69, 5, 0, 0), (28, 31, .ifCond .eq 9, 0, 37, 0, 0), (31, 32, .aload_n 0, 0, 0, 0, 0), (32, 33, .iconst 1, 0, 0, 0, 0), (33, 36, .invokevirtual 114, 35, 104, 0, 0), (36, 37, .ireturn, 0, 0, 0, 0), (37, 38, .aload_n 0, 0, 0, 0, 0), (38, 41, .getfield 35, 79, 6, 3, 0), (41, 44, .getfield 54, 61, 2, 0, 0), (44, 47, .ifCond .ne 5, 0, 49, 0, 0), (47, 48, .iconst 0, 0, 0, 0, 0), (48, 49, .ireturn, 0, 0, 0, 0), (49, 50, .aload_n 3, 0, 0, 0, 0), (50, 53, .getfield 118, 73, 5, 2, 0), (53, 54, .aload_n 0, 0, 0, 0, 0), (54, 57, .getfield 12, 76, 6, 0, 0), (57, 60, .getfield 66, 12, 0, 2, 0), (60, 63, .invokestatic 121, 36, 197, 4, 0), (63, 65, .istore 4, 0, 0, 0, 0), (65, 66, .iconst 0, 0, 0, 0, 0), (66, 68, .istore 5, 0, 0, 0, 0), (68, 70, .iload 5, 0, 0, 0, 0), (70, 72, .iload 4, 0, 0, 0, 0), (72, 75, .if_icmp .ge 29, 0, 101, 0, 0), (75, 76, .aload_n 3, 0, 0, 0, 0), (76, 78, .iload 5, 0, 0, 0, 0), (78, 79, .aload_n 0, 0, 0, 0, 0), (79, 82, .getfield 35, 79, 6, 3, 0), (82, 85, .getfield 133, 66, 2, 4, 0), (85, 86, .iload_n 1, 0, 0, 0, 0), (86, 87, .iaload, 0, 0, 0, 0), (87, 89, .iload 5, 0, 0, 0, 0), (89, 92, .invokestatic 176, 93, 110, 0, 0), (92, 95, .invokevirtual 227, 133, 69, 0, 0), (95, 98, .iinc 5 1, 0, 0, 0, 0), (98, 101, .goto (-30), 0, 68, 0, 0), (101, 103, .iload 4, 0, 0, 0, 0), (103, 104, .ireturn, 0, 0, 0, 0)]
def cd_102 : List (Nat × Nat × gm_I) := [(0, 1, .iload_n 1, 0, 0, 0, 0), (1, 52, .tableswitch 130 0 8 #[51, 59, 67, 83, 88, 93, 109, 117, 125], 0, 0, 0, 0), (52, 53, .aload_n 0, 0, 0, 0, 0), (53, 56, .getfield 12, 76, 6, 0, 0), (56, 59, .invokevirtual 58, 18, 10, 0, 0), (59, 60, .ireturn, 0, 0, 0, 0), (60, 61, .aload_n 0, 0, 0, 0, 0), (61, 64, .getfield 12, 76, 6, 0, 0), (64, 67, .invokevirtual 96, 29, 11, 0, 0), (67, 68, .ireturn, 0, 0, 0, 0), (68, 69, .aload_n 0, 0, 0, 0, 0), (69, 72, .getfield 21, 77, 6, 1, 0), (72, 75, .invokevirtual 152, 77, 36, 0, 0), (75, 78, .ifCond .eq 7, 0, 82, 0, 0), (78, 79, .iconst 1, 0, 0, 0, 0), (79, 82, .goto 4, 0, 83, 0, 0), (82, 83, .iconst 0, 0, 0, 0, 0), (83, 84, .ireturn, 0, 0, 0, 0), (84, 85, .aload_n 0, 0, 0, 0, 0), (85, 88, .getfield 164, 82, 6, 6, 0), (88, 89, .ireturn, 0, 0, 0, 0), (89, 90, .aload_n 0, 0, 0, 0, 0), (90, 93, .invokevirtual 208, 120, 107, 0, 0), (93, 94, .ireturn, 0, 0, 0, 0), (94, 95, .aload_n 0, 0, 0, 0, 0), (95, 98, .getfield 35, 79, 6, 3, 0), (98, 101, .getfield 54, 61, 2, 0, 0), (101, 104, .ifCond .eq 7, 0, 108, 0, 0), (104, 105, .iconst 1, 0, 0, 0, 0), (105, 108, .goto 4, 0, 109, 0, 0), (108, 109, .iconst 0, 0, 0, 0, 0), (109, 110, .ireturn, 0, 0, 0, 0), (110, 111, .aload_n 0, 0, 0, 0, 0), (111, 114, .getfield 28, 78, 6, 2, 0), (114, 117, .invokevirtual 198, 114, 13, 0, 0), (117, 118, .ireturn, 0, 0, 0, 0), (118, 119, .aload_n 0, 0, 0, 0, 0), (119, 122, .getfield 21, 77, 6, 1, 0), (122, 125, .invokevirtual 246, 140, 38, 0, 0), (125, 126, .ireturn, 0, 0, 0, 0), (126, 127, .aload_n 0, 0, 0, 0, 0), (127, 130, .getfield 231, 83, 6, 7, 0), (130, 131, .ireturn, 0, 0, 0, 0), (131, 133, .bipush (-2), 0, 0, 0, 0), (133, 134, .ireturn, 0, 0, 0, 0)]
def cd_103 : List (Nat × Nat × gm_I) := [(0, 3, .ldc2_w 249, 3, 0, 0, 17), (3, 4, .lstore_n 1, 0, 0, 0, 0), (4, 5, .iconst 0, 0, 0, 0, 0), (5, 6, .istore_n 3, 0, 0, 0, 0), (6, 7, .iload_n 3, 0, 0, 0, 0), (7, 9, .bipush 7, 0, 0, 0, 0), (9, 12, .if_icmp .gt 22, 0, 31, 0, 0), (12, 15, .ldc2_w 251, 4, 0, 0, 31), (15, 16, .lload_n 1, 0, 0, 0, 0), (16, 17, .lmul, 0, 0, 0, 0), (17, 18, .aload_n 0, 0, 0, 0, 0), (18, 19, .iload_n 3, 0, 0, 0, 0), (19, 22, .invokevirtual 253, 142, 102, 0, 0), (22, 23, .i2l, 0, 0, 0, 0), (23, 24, .ladd, 0, 0, 0, 0), (24, 25, .lstore_n 1, 0, 0, 0, 0), (25, 28, .iinc 3 1, 0, 0, 0, 0), (28, 31, .goto (-22), 0, 6, 0, 0), (31, 34, .ldc2_w 251, 4, 0, 0, 31), (34, 35, .lload_n 1, 0, 0, 0, 0), (35, 36, .lmul, 0, 0, 0, 0), (36, 37, .aload_n 0, 0, 0, 0, 0), (37, 40, .invokevirtual 256, 143, 81, 0, 0), (40, 41, .i2l, 0, 0, 0, 0), (41, 42, .ladd, 0, 0, 0, 0), (42, 43, .lstore_n 1, 0, 0, 0, 0), (43, 46, .ldc2_w 251, 4, 0, 0, 31), (46, 47, .lload_n 1, 0, 0, 0, 0), (47, 48, .lmul, 0, 0, 0, 0), (48, 49, .aload_n 0, 0, 0, 0, 0), (49, 52, .invokevirtual 259, 144, 85, 0, 0), (52, 53, .i2l, 0, 0, 0, 0), (53, 54, .ladd, 0, 0, 0, 0), (54, 55, .lstore_n 1, 0, 0, 0, 0), (55, 58, .ldc2_w 251, 4, 0, 0, 31), (58, 59, .lload_n 1, 0, 0, 0, 0), (59, 60, .lmul, 0, 0, 0, 0), (60, 61, .aload_n 0, 0, 0, 0, 0), (61, 62, .iconst 0, 0, 0, 0, 0), (62, 65, .invokevirtual 262, 145, 86, 0, 0), (65, 66, .i2l, 0, 0, 0, 0), (66, 67, .ladd, 0, 0, 0, 0), (67, 68, .lstore_n 1, 0, 0, 0, 0), (68, 71, .ldc2_w 251, 4, 0, 0, 31), (71, 72, .lload_n 1, 0, 0, 0, 0), (72, 73, .lmul, 0, 0, 0, 0), (73, 74, .aload_n 0, 0, 0, 0, 0), (74, 75, .iconst 1, 0, 0, 0, 0), (75, 78, .invokevirtual 262, 145, 86, 0, 0), (78, 79, .i2l, 0, 0, 0, 0), (79, 80, .ladd, 0, 0, 0, 0), (80, 81, .lstore_n 1, 0, 0, 0, 0), (81, 84, .ldc2_w 251, 4, 0, 0, 31), (84, 85, .lload_n 1, 0, 0, 0, 0), (85, 86, .lmul, 0, 0, 0, 0), (86, 87, .aload_n 0, 0, 0, 0, 0), (87, 90, .invokevirtual 265, 146, 87, 0, 0), (90, 91, .i2l, 0, 0, 0, 0), (91, 92, .ladd, 0, 0, 0, 0), (92, 93, .lstore_n 1, 0, 0, 0, 0), (93, 96, .ldc2_w 251, 4, 0, 0, 31), (96, 97, .lload_n 1, 0, 0, 0, 0), (97, 98, .lmul, 0, 0, 0, 0), (98, 99, .aload_n 0, 0, 0, 0, 0), (99, 102, .invokevirtual 268, 147, 88, 0, 0), (102, 103, .i2l, 0, 0, 0, 0), (103, 104, .ladd, 0, 0, 0, 0), (104, 105, .lstore_n 1, 0, 0, 0, 0), (105, 108, .ldc2_w 251, 4, 0, 0, 31), (108, 109, .lload_n 1, 0, 0, 0, 0), (109, 110, .lmul, 0, 0, 0, 0), (110, 111, .aload_n 0, 0, 0, 0, 0), (111, 112, .iconst 0, 0, 0, 0, 0), (112, 115, .invokevirtual 271, 148, 89, 0, 0), (115, 116, .i2l, 0, 0, 0, 0), (116, 117, .ladd, 0, 0, 0, 0), (117, 118, .lstore_n 1, 0, 0, 0, 0), (118, 121, .ldc2_w 251, 4, 0, 0, 31), (121, 122, .lload_n 1, 0, 0, 0, 0), (122, 123, .lmul, 0, 0, 0, 0), (123, 124, .aload_n 0, 0, 0, 0, 0), (124, 125, .iconst 1, 0, 0, 0, 0), (125, 128, .invokevirtual 271, 148, 89, 0, 0), (128, 129, .i2l, 0, 0, 0, 0), (129, 130, .ladd, 0, 0, 0, 0), (130, 131, .lstore_n 1, 0, 0, 0, 0), (131, 134, .ldc2_w 251, 4, 0, 0, 31), (134, 135, .lload_n 1, 0, 0, 0, 0), (135, 136, .lmul, 0, 0, 0, 0), (136, 137, .aload_n 0, 0, 0, 0, 0), (137, 140, .invokevirtual 274, 149, 91, 0, 0), (140, 141, .ladd, 0, 0, 0, 0), (141, 142, .lstore_n 1, 0, 0, 0, 0), (142, 143, .iconst 0, 0, 0, 0, 0), (143, 144, .istore_n 3, 0, 0, 0, 0), (144, 145, .iload_n 3, 0, 0, 0, 0), (145, 146, .aload_n 0, 0, 0, 0, 0), (146, 149, .getfield 12, 76, 6, 0, 0), (149, 152, .getfield 99, 4, 0, 0, 0), (152, 155, .if_icmp .ge 58, 0, 210, 0, 0), (155, 158, .ldc2_w 251, 4, 0, 0, 31), (158, 159, .lload_n 1, 0, 0, 0, 0), (159, 160, .lmul, 0, 0, 0, 0), (160, 161, .aload_n 0, 0, 0, 0, 0), (161, 162, .iload_n 3, 0, 0, 0, 0), (162, 165, .invokevirtual 277, 150, 84, 0, 0), (165, 166, .i2l, 0, 0, 0, 0), (166, 167, .ladd, 0, 0, 0, 0), (167, 168, .lstore_n 1, 0, 0, 0, 0), (168, 169, .iconst 0, 0, 0, 0, 0), (169, 171, .istore 4, 0, 0, 0, 0), (171, 173, .iload 4, 0, 0, 0, 0), (173, 174, .aload_n 0, 0, 0, 0, 0), (174, 177, .getfield 12, 76, 6, 0, 0), (177, 180, .getfield 66, 12, 0, 2, 0), (180, 183, .if_icmp .ge 24, 0, 204, 0, 0), (183, 186, .ldc2_w 251, 4, 0, 0, 31), (186, 187, .lload_n 1, 0, 0, 0, 0), (187, 188, .lmul, 0, 0, 0, 0), (188, 189, .aload_n 0, 0, 0, 0, 0), (189, 190, .iload_n 3, 0, 0, 0, 0), (190, 192, .iload 4, 0, 0, 0, 0), (192, 195, .invokevirtual 279, 151, 83, 0, 0), (195, 196, .i2l, 0, 0, 0, 0), (196, 197, .ladd, 0, 0, 0, 0), (197, 198, .lstore_n 1, 0, 0, 0, 0), (198, 201, .iinc 4 1, 0, 0, 0, 0), (201, 204, .goto (-30), 0, 171, 0, 0), (204, 207, .iinc 3 1, 0, 0, 0, 0), (207, 210, .goto (-63), 0, 144, 0, 0), (210, 211, .iconst 0, 0, 0, 0, 0), (211, 212, .istore_n 3, 0, 0, 0, 0), (212, 213, .iload_n 3, 0, 0, 0, 0), (213, 214, .aload_n 0, 0, 0, 0, 0), (214, 217, .getfield 12, 76, 6, 0, 0), (217, 220, .getfield 99, 4, 0, 0, 0), (220, 223, .if_icmp .ge 62, 0, 282, 0, 0), (223, 224, .iconst 0, 0, 0, 0, 0), (224, 226, .istore 4, 0, 0, 0, 0), (226, 228, .iload 4, 0, 0, 0, 0), (228, 229, .aload_n 0, 0, 0, 0, 0), (229, 232, .getfield 12, 76, 6, 0, 0), (232, 235, .getfield 62, 7, 0, 1, 0), (235, 238, .if_icmp .ge 41, 0, 276, 0, 0), (238, 239, .iconst 0, 0, 0, 0, 0), (239, 241, .istore 5, 0, 0, 0, 0), (241, 243, .iload 5, 0, 0, 0, 0), (243, 244, .iconst 4, 0, 0, 0, 0), (244, 247, .if_icmp .gt 26, 0, 270, 0, 0), (247, 250, .ldc2_w 251, 4, 0, 0, 31), (250, 251, .lload_n 1, 0, 0, 0, 0), (251, 252, .lmul, 0, 0, 0, 0), (252, 253, .aload_n 0, 0, 0, 0, 0), (253, 255, .iload 4, 0, 0, 0, 0), (255, 256, .iload_n 3, 0, 0, 0, 0), (256, 258, .iload 5, 0, 0, 0, 0), (258, 261, .invokevirtual 282, 152, 78, 0, 0), (261, 262, .i2l, 0, 0, 0, 0), (262, 263, .ladd, 0, 0, 0, 0), (263, 264, .lstore_n 1, 0, 0, 0, 0), (264, 267, .iinc 5 1, 0, 0, 0, 0), (267, 270, .goto (-26), 0, 241, 0, 0), (270, 273, .iinc 4 1, 0, 0, 0, 0), (273, 276, .goto (-47), 0, 226, 0, 0), (276, 279, .iinc 3 1, 0, 0, 0, 0), (279, 282, .goto (-67), 0, 212, 0, 0), (282, 283, .iconst 0, 0, 0, 0, 0), (283, 284, .istore_n 3, 0, 0, 0, 0), (284, 285, .iload_n 3, 0, 0, 0, 0), (285, 287, .bipush 6, 0, 0, 0, 0), (287, 290, .if_icmp .ge 34, 0, 321, 0, 0), (290, 291, .aload_n 0, 0, 0, 0, 0), (291, 294, .getfield 39, 80, 6, 4, 0), (294, 295, .iload_n 3, 0, 0, 0, 0), (295, 296, .aaload, 0, 0, 0, 0), (296, 299, .getfield 54, 61, 2, 0, 0), (299, 302, .ifCond .eq 16, 0, 315, 0, 0), (302, 305, .ldc2_w 251, 4, 0, 0, 31), (305, 306, .lload_n 1, 0, 0, 0, 0), (306, 307, .lmul, 0, 0, 0, 0), (307, 308, .aload_n 0, 0, 0, 0, 0), (308, 309, .iload_n 3, 0, 0, 0, 0), (309, 312, .invokevirtual 285, 153, 94, 0, 0), (312, 313, .i2l, 0, 0, 0, 0), (313, 314, .ladd, 0, 0, 0, 0), (314, 315, .lstore_n 1, 0, 0, 0, 0), (315, 318, .iinc 3 1, 0, 0, 0, 0), (318, 321, .goto (-34), 0, 284, 0, 0), (321, 322, .lload_n 1, 0, 0, 0, 0), (322, 323, .lreturn, 0, 0, 0, 0)]
def cd_104 : List (Nat × Nat × gm_I) := [(0, 1, .aload_n 0, 0, 0, 0, 0), (1, 2, .iload_n 1, 0, 0, 0, 0), (2, 5, .putfield 231, 83, 6, 7, 0), (5, 7, .bipush (-10), 0, 0, 0, 0), (7, 8, .iload_n 1, 0, 0, 0, 0), (8, 9, .isub, 0, 0, 0, 0), (9, 10, .ireturn, 0, 0, 0, 0)]
def cd_105 : List (Nat × Nat × gm_I) := [(0, 1, .iload_n 1, 0, 0, 0, 0), (1, 4, .ifCond .lt 18, 0, 19, 0, 0), (4, 5, .iload_n 1, 0, 0, 0, 0), (5, 7, .bipush 6, 0, 0, 0, 0), (7, 10, .if_icmp .ge 12, 0, 19, 0, 0), (10, 11, .aload_n 0, 0, 0, 0, 0), (11, 14, .getfield 39, 80, 6, 4, 0), (14, 15, .iload_n 1, 0, 0, 0, 0), (15, 16, .aaload, 0, 0, 0, 0), (16, 19, .goto 4, 0, 20, 0, 0), (19, 20, .aconst_null, 0, 0, 0, 0), (20, 21, .areturn, 0, 0, 0, 0)]
def cd_106 : List (Nat × Nat × gm_I) := [(0, 1, .iload_n 1, 0, 0, 0, 0), (1, 4, .ifCond .lt 17, 0, 18, 0, 0), (4, 5, .iload_n 1, 0, 0, 0, 0), (5, 6, .iconst 4, 0, 0, 0, 0), (6, 9, .if_icmp .ge 12, 0, 18, 0, 0), (9, 10, .aload_n 0, 0, 0, 0, 0), (10, 13, .getfield 45, 81, 6, 5, 0), (13, 14, .iload_n 1, 0, 0, 0, 0), (14, 15, .aaload, 0, 0, 0, 0), (15, 18, .goto 4, 0, 19, 0, 0), (18, 19, .aconst_null, 0, 0, 0, 0), (19, 20, .areturn, 0, 0, 0, 0)]
def cd_107 : List (Nat × Nat × gm_I) := [(0, 1, .iconst 0, 0, 0, 0, 0), (1, 2, .istore_n 1, 0, 0, 0, 0), (2, 3, .iconst 0, 0, 0, 0, 0), (3, 4, .istore_n 2, 0, 0, 0, 0), (4, 5, .iload_n 2, 0, 0, 0, 0), (5, 7, .bipush 6, 0, 0, 0, 0), (7, 10, .if_icmp .ge 24, 0, 31, 0, 0), (10, 11, .aload_n 0, 0, 0, 0, 0), (11, 14, .getfield 39, 80, 6, 4, 0), (14, 15, .iload_n 2, 0, 0, 0, 0), (15, 16, .aaload, 0, 0, 0, 0), (16, 19, .getfield 54, 61, 2, 0, 0), (19, 22, .ifCond .eq 6, 0, 25, 0, 0), (22, 25, .iinc 1 1, 0, 0, 0, 0), (25, 28, .iinc 2 1, 0, 0, 0, 0), (28, 31, .goto (-24), 0, 4, 0, 0), (31, 32, .iload_n 1, 0, 0, 0, 0), (32, 33, .ireturn, 0, 0, 0, 0)]
def cd_108 : List (Nat × Nat × gm_I) := [(0, 1, .iload_n 0, 0, 0, 0, 0), (1, 4, .ifCond .eq 13, 0, 14, 0, 0), (4, 5, .iload_n 0, 0, 0, 0, 0), (5, 6, .iconst 1, 0, 0, 0, 0), (6, 9, .if_icmp .eq 8, 0, 14, 0, 0), (9, 10, .iload_n 0, 0, 0, 0, 0), (10, 11, .iconst 2, 0, 0, 0, 0), (11, 14, .if_icmp .ne 7, 0, 18, 0, 0), (14, 15, .iconst 1, 0, 0, 0, 0), (15, 18, .goto 4, 0, 19, 0, 0), (18, 19, .iconst 0, 0, 0, 0, 0), (19, 20, .ireturn, 0, 0, 0, 0)]
def cd_109 : List (Nat × Nat × gm_I) := [(0, 1, .iload_n 0, 0, 0, 0, 0), (1, 2, .iload_n 1, 0, 0, 0, 0), (2, 3, .iushr, 0, 0, 0, 0), (3, 4, .iconst 1, 0, 0, 0, 0), (4, 5, .iand, 0, 0, 0, 0), (5, 6, .ireturn, 0, 0, 0, 0)]
def cd_110 : List (Nat × Nat × gm_I) := [(0, 1, .iload_n 1, 0, 0, 0, 0), (1, 2, .istore_n 2, 0, 0, 0, 0), (2, 3, .iconst 0, 0, 0, 0, 0), (3, 4, .istore_n 3, 0, 0, 0, 0), (4, 5, .iload_n 3, 0, 0, 0, 0), (5, 7, .bipush 7, 0, 0, 0, 0), (7, 10, .if_icmp .ge 27, 0, 34, 0, 0), (10, 11, .iload_n 0, 0, 0, 0, 0), (11, 12, .iload_n 3, 0, 0, 0, 0), (12, 15, .invokestatic 130, 38, 109, 0, 0), (15, 16, .iconst 1, 0, 0, 0, 0), (16, 19, .if_icmp .ne 12, 0, 28, 0, 0), (19, 20, .iload_n 2, 0, 0, 0, 0), (20, 23, .ifCond .ne 5, 0, 25, 0, 0), (23, 24, .iload_n 3, 0, 0, 0, 0), (24, 25, .ireturn, 0, 0, 0, 0), (25, 28, .iinc 2 (-1), 0, 0, 0, 0), (28, 31, .iinc 3 1, 0, 0, 0, 0), (31, 34, .goto (-27), 0, 4, 0, 0), (34, 35, .iconst (-1), 0, 0, 0, 0), (35, 36, .ireturn, 0, 0, 0, 0)]
def cd_111 : List (Nat × Nat × gm_I) := [(0, 1, .iload_n 0, 0, 0, 0, 0), (1, 2, .iload_n 1, 0, 0, 0, 0), (2, 5, .invokestatic 130, 38, 109, 0, 0), (5, 6, .iconst 1, 0, 0, 0, 0), (6, 9, .if_icmp .ne 16, 0, 22, 0, 0), (9, 10, .iload_n 0, 0, 0, 0, 0), (10, 11, .iconst 1, 0, 0, 0, 0), (11, 12, .iload_n 1, 0, 0, 0, 0), (12, 13, .ishl, 0, 0, 0, 0), (13, 14, .iconst 1, 0, 0, 0, 0), (14, 15, .isub, 0, 0, 0, 0), (15, 16, .iand, 0, 0, 0, 0), (16, 19, .invokestatic 167, 40, 194, 0, 0), (19, 22, .goto 4, 0, 23, 0, 0), (22, 23, .iconst (-1), 0, 0, 0, 0), (23, 24, .ireturn, 0, 0, 0, 0)]
def cd_112 : List (Nat × Nat × gm_I) := [(0, 1, .iconst 0, 0, 0, 0, 0), (1, 2, .istore_n 3, 0, 0, 0, 0), (2, 3, .iconst 0, 0, 0, 0, 0), (3, 5, .istore 4, 0, 0, 0, 0), (5, 7, .iload 4, 0, 0, 0, 0), (7, 8, .iload_n 2, 0, 0, 0, 0), (8, 11, .if_icmp .ge 27, 0, 35, 0, 0), (11, 12, .iload_n 0, 0, 0, 0, 0), (12, 14, .iload 4, 0, 0, 0, 0), (14, 17, .invokestatic 176, 93, 110, 0, 0), (17, 18, .iload_n 1, 0, 0, 0, 0), (18, 20, .iload 4, 0, 0, 0, 0), (20, 23, .invokestatic 176, 93, 110, 0, 0), (23, 26, .if_icmp .eq 6, 0, 29, 0, 0), (26, 29, .iinc 3 1, 0, 0, 0, 0), (29, 32, .iinc 4 1, 0, 0, 0, 0), (32, 35, .goto (-27), 0, 5, 0, 0), (35, 36, .iload_n 3, 0, 0, 0, 0), (36, 37, .ireturn, 0, 0, 0, 0)]
def cd_113 : List (Nat × Nat × gm_I) := [(0, 1, .aload_n 0, 0, 0, 0, 0), (1, 4, .invokespecial 1, 155, 0, 3, 0), (4, 5, .aload_n 0, 0, 0, 0, 0), (5, 6, .iconst 4, 0, 0, 0, 0), (6, 8, .newarray .int, 0, 0, 0, 0), (8, 11, .putfield 7, 84, 7, 0, 0), (11, 12, .aload_n 0, 0, 0, 0, 0), (12, 13, .iconst 4, 0, 0, 0, 0), (13, 15, .newarray .int, 0, 0, 0, 0), (15, 18, .putfield 13, 85, 7, 1, 0), (18, 19, .aload_n 0, 0, 0, 0, 0), (19, 22, .sipush 240, 0, 0, 0, 0), (22, 24, .newarray .int, 0, 0, 0, 0), (24, 27, .putfield 16, 86, 7, 2, 0), (27, 28, .aload_n 0, 0, 0, 0, 0), (28, 30, .bipush 60, 0, 0, 0, 0), (30, 32, .newarray .int, 0, 0, 0, 0), (32, 35, .putfield 19, 87, 7, 3, 0), (35, 36, .aload_n 0, 0, 0, 0, 0), (36, 38, .bipush 7, 0, 0, 0, 0), (38, 40, .newarray .int, 0, 0, 0, 0), (40, 43, .putfield 22, 94, 7, 10, 0), (43, 44, .aload_n 0, 0, 0, 0, 0), (44, 46, .bipush 7, 0, 0, 0, 0), (46, 48, .newarray .int, 0, 0, 0, 0), (48, 51, .putfield 25, 96, 7, 12, 0), (51, 52, .aload_n 0, 0, 0, 0, 0), (52, 54, .bipush 40, 0, 0, 0, 0), (54, 56, .newarray .int, 0, 0, 0, 0), (56, 59, .putfield 28, 98, 7, 14, 0), (59, 60, .aload_n 0, 0, 0, 0, 0), (60, 63, .sipush 280, 0, 0, 0, 0), (63, 65, .newarray .int, 0, 0, 0, 0), (65, 68, .putfield 31, 99, 7, 15, 0), (68, 69, .aload_n 0, 0, 0, 0, 0), (69, 71, .bipush 40, 0, 0, 0, 0), (71, 73, .newarray .boolean, 0, 0, 0, 0), (73, 76, .putfield 34, 100, 7, 16, 0), (76, 77, .aload_n 0, 0, 0, 0, 0), (77, 80, .sipush 1600, 0, 0, 0, 0), (80, 82, .newarray .boolean, 0, 0, 0, 0), (82, 85, .putfield 38, 101, 7, 17, 0), (85, 86, .aload_n 0, 0, 0, 0, 0), (86, 88, .bipush 40, 0, 0, 0, 0), (88, 90, .newarray .boolean, 0, 0, 0, 0), (90, 93, .putfield 41, 103, 7, 19, 0), (93, 94, .aload_n 0, 0, 0, 0, 0), (94, 96, .bipush 40, 0, 0, 0, 0), (96, 98, .newarray .boolean, 0, 0, 0, 0), (98, 101, .putfield 44, 104, 7, 20, 0), (101, 102, .aload_n 0, 0, 0, 0, 0), (102, 105, .sipush 280, 0, 0, 0, 0), (105, 107, .newarray .int, 0, 0, 0, 0), (107, 110, .putfield 47, 105, 7, 21, 0), (110, 111, .aload_n 0, 0, 0, 0, 0), (111, 113, .bipush 7, 0, 0, 0, 0), (113, 115, .newarray .int, 0, 0, 0, 0), (115, 118, .putfield 50, 106, 7, 22, 0), (118, 119, .aload_n 0, 0, 0, 0, 0), (119, 121, .bipush 49, 0, 0, 0, 0), (121, 123, .newarray .boolean, 0, 0, 0, 0), (123, 126, .putfield 53, 107, 7, 23, 0), (126, 127, .aload_n 0, 0, 0, 0, 0), (127, 130, .sipush 196, 0, 0, 0, 0), (130, 132, .newarray .boolean, 0, 0, 0, 0), (132, 135, .putfield 56, 108, 7, 24, 0), (135, 136, .aload_n 0, 0, 0, 0, 0), (136, 138, .bipush 98, 0, 0, 0, 0), (138, 140, .newarray .int, 0, 0, 0, 0), (140, 143, .putfield 59, 109, 7, 25, 0), (143, 144, .aload_n 0, 0, 0, 0, 0), (144, 146, .bipush 98, 0, 0, 0, 0), (146, 148, .newarray .int, 0, 0, 0, 0), (148, 151, .putfield 62, 110, 7, 26, 0), (151, 152, .aload_n 0, 0, 0, 0, 0), (152, 154, .bipush 42, 0, 0, 0, 0), (154, 156, .newarray .int, 0, 0, 0, 0), (156, 159, .putfield 65, 113, 7, 29, 0), (159, 160, .aload_n 0, 0, 0, 0, 0), (160, 162, .bipush 6, 0, 0, 0, 0), (162, 164, .newarray .int, 0, 0, 0, 0), (164, 167, .putfield 68, 114, 7, 30, 0), (167, 168, .aload_n 0, 0, 0, 0, 0), (168, 170, .bipush 6, 0, 0, 0, 0), (170, 172, .newarray .int, 0, 0, 0, 0), (172, 175, .putfield 71, 115, 7, 31, 0), (175, 176, .aload_n 0, 0, 0, 0, 0), (176, 178, .bipush 6, 0, 0, 0, 0), (178, 180, .newarray .int, 0, 0, 0, 0), (180, 183, .putfield 74, 116, 7, 32, 0), (183, 184, .iconst 0, 0, 0, 0, 0), (184, 185, .istore_n 1, 0, 0, 0, 0), (185, 186, .iload_n 1, 0, 0, 0, 0), (186, 187, .iconst 4, 0, 0, 0, 0), (187, 190, .if_icmp .ge 16, 0, 203, 0, 0), (190, 191, .aload_n 0, 0, 0, 0, 0), (191, 194, .getfield 7, 84, 7, 0, 0), (194, 195, .iload_n 1, 0, 0, 0, 0), (195, 196, .iconst (-1), 0, 0, 0, 0), (196, 197, .iastore, 0, 0, 0, 0), (197, 200, .iinc 1 1, 0, 0, 0, 0), (200, 203, .goto (-15), 0, 185, 0, 0), (203, 204, .aload_n 0, 0, 0, 0, 0), (204, 205, .iconst 5, 0, 0, 0, 0), (205, 208, .putfield 77, 89, 7, 5, 0), (208, 209, .aload_n 0, 0, 0, 0, 0), (209, 211, .bipush 6, 0, 0, 0, 0), (211, 214, .putfield 81, 90, 7, 6, 0), (214, 215, .aload_n 0, 0, 0, 0, 0), (215, 216, .iconst 4, 0, 0, 0, 0), (216, 219, .putfield 84, 91, 7, 7, 0), (219, 220, .aload_n 0, 0, 0, 0, 0), (220, 221, .iconst 1, 0, 0, 0, 0), (221, 224, .putfield 87, 92, 7, 8, 0), (224, 225, .aload_n 0, 0, 0, 0, 0), (225, 226, .iconst 4, 0, 0, 0, 0), (226, 229, .putfield 90, 93, 7, 9, 0), (229, 230, .return_, 0, 0, 0, 0)]
def cd_114 : List (Nat × Nat × gm_I) := [(0, 1, .lload_n 0, 0, 0, 0, 0), (1, 2, .lload_n 2, 0, 0, 0, 0), (2, 3, .lcmp, 0, 0, 0, 0), (3, 6, .ifCond .lt 14, 0, 17, 0, 0), (6, 7, .lload_n 0, 0, 0, 0, 0), (7, 9, .lload 4, 0, 0, 0, 0), (9, 10, .lcmp, 0, 0, 0, 0), (10, 13, .ifCond .gt 7, 0, 17, 0, 0), (13, 14, .iconst 1, 0, 0, 0, 0), (14, 17, .goto 4, 0, 18, 0, 0), (17, 18, .iconst 0, 0, 0, 0, 0), (18, 19, .ireturn, 0, 0, 0, 0)]
def cd_115 : List (Nat × Nat × gm_I) := [(0, 1, .iload_n 0, 0, 0, 0, 0), (1, 2, .i2l, 0, 0, 0, 0), (2, 3, .lconst 0, 0, 0, 0, 0), (3, 4, .lconst 1, 0, 0, 0, 0), (4, 7, .invokestatic 93, 158, 114, 0, 0), (7, 8, .ireturn, 0, 0, 0, 0)]
def cd_116 : List (Nat × Nat × gm_I) := [(0, 1, .lload_n 0, 0, 0, 0, 0), (1, 2, .iload_n 2, 0, 0, 0, 0), (2, 3, .lshr, 0, 0, 0, 0), (3, 4, .lconst 1, 0, 0, 0, 0), (4, 5, .land, 0, 0, 0, 0), (5, 6, .lconst 1, 0, 0, 0, 0), (6, 7, .lcmp, 0, 0, 0, 0), (7, 10, .ifCond .ne 7, 0, 14, 0, 0), (10, 11, .iconst 1, 0, 0, 0, 0), (11, 14, .goto 4, 0, 15, 0, 0), (14, 15, .iconst 0, 0, 0, 0, 0), (15, 16, .ireturn, 0, 0, 0, 0)]
def cd_117 : List (Nat × Nat × gm_I) := [(0, 1, .iload_n 0, 0, 0, 0, 0), (1, 2, .iload_n 1, 0, 0, 0, 0), (2, 5, .if_icmp .ge 7, 0, 9, 0, 0), (5, 6, .iload_n 0, 0, 0, 0, 0), (6, 9, .goto 4, 0, 10, 0, 0), (9, 10, .iload_n 1, 0, 0, 0, 0), (10, 11, .ireturn, 0, 0, 0, 0)]
def cd_118 : List (Nat × Nat × gm_I) := [(0, 1, .iload_n 0, 0, 0, 0, 0), (1, 4, .ifCond .ge 9, 0, 10, 0, 0), (4, 5, .iconst 0, 0, 0, 0, 0), (5, 6, .iload_n 0, 0, 0, 0, 0), (6, 7, .isub, 0, 0, 0, 0), (7, 10, .goto 4, 0, 11, 0, 0), (10, 11, .iload_n 0, 0, 0, 0, 0), (11, 12, .ireturn, 0, 0, 0, 0)]
def cd_119 : List (Nat × Nat × gm_I) := [(0, 1, .iconst 0, 0, 0, 0, 0), (1, 2, .istore_n 2, 0, 0, 0, 0), (2, 3, .iconst 0, 0, 0, 0, 0), (3, 4, .istore_n 3, 0, 0, 0, 0), (4, 5, .iload_n 3, 0, 0, 0, 0), (5, 7, .bipush 49, 0, 0, 0, 0), (7, 10, .if_icmp .ge 25, 0, 32, 0, 0), (10, 11, .iload_n 2, 0, 0, 0, 0), (11, 12, .lload_n 0, 0, 0, 0, 0), (12, 13, .iload_n 3, 0, 0, 0, 0), (13, 16, .invokestatic 97, 176, 116, 0, 0), (16, 19, .ifCond .eq 7, 0, 23, 0, 0), (19, 20, .iconst 1, 0, 0, 0, 0), (20, 23, .goto 4, 0, 24, 0, 0), (23, 24, .iconst 0, 0, 0, 0, 0), (24, 25, .iadd, 0, 0, 0, 0), (25, 26, .istore_n 2, 0, 0, 0, 0), (26, 29, .iinc 3 1, 0, 0, 0, 0), (29, 32, .goto (-25), 0, 4, 0, 0), (32, 33, .iload_n 2, 0, 0, 0, 0), (33, 34, .ireturn, 0, 0, 0, 0)]
def cd_120 : List (Nat × Nat × gm_I) := [(0, 1, .aload_n 0, 0, 0, 0, 0), (1, 2, .iload_n 1, 0, 0, 0, 0), (2, 5, .putfield 101, 88, 7, 4, 0), (5, 7, .bipush (-10), 0, 0, 0, 0), (7, 8, .iload_n 1, 0, 0, 0, 0), (8, 9, .isub, 0, 0, 0, 0), (9, 10, .ireturn, 0, 0, 0, 0)]
def cd_121 : List (Nat × Nat × gm_I) := [(0, 1, .iload_n 0, 0, 0, 0, 0), (1, 2, .i2l, 0, 0, 0, 0), (2, 3, .lconst 0, 0, 0, 0, 0), (3, 6, .ldc2_w 104, 5, 0, 0, 3), (6, 9, .invokestatic 93, 158, 114, 0, 0), (9, 10, .ireturn, 0, 0, 0, 0)]
def cd_122 : List (Nat × Nat × gm_I) := [(0, 1, .iload_n 1, 0, 0, 0, 0), (1, 4, .invokestatic 106, 157, 121, 0, 0), (4, 7, .ifCond .eq 21, 0, 25, 0, 0), (7, 8, .iload_n 2, 0, 0, 0, 0), (8, 9, .i2l, 0, 0, 0, 0), (9, 10, .lconst 0, 0, 0, 0, 0), (10, 13, .ldc2_w 110, 6, 0, 0, 2), (13, 16, .invokestatic 93, 158, 114, 0, 0), (16, 19, .ifCond .eq 9, 0, 25, 0, 0), (19, 20, .iload_n 3, 0, 0, 0, 0), (20, 22, .bipush 60, 0, 0, 0, 0), (22, 25, .if_icmp .le 6, 0, 28, 0, 0), (25, 27, .bipush (-2), 0, 0, 0, 0), (27, 28, .ireturn, 0, 0, 0, 0), (28, 29, .iload_n 3, 0, 0, 0, 0), (29, 32, .ifCond .ge 9, 0, 38, 0, 0), (32, 33, .aload_n 0, 0, 0, 0, 0), (33, 34, .iconst 5, 0, 0, 0, 0), (34, 37, .invokevirtual 112, 159, 120, 0, 0), (37, 38, .ireturn, 0, 0, 0, 0), (38, 39, .aload_n 0, 0, 0, 0, 0), (39, 42, .getfield 7, 84, 7, 0, 0), (42, 43, .iload_n 1, 0, 0, 0, 0), (43, 44, .iload_n 2, 0, 0, 0, 0), (44, 45, .iastore, 0, 0, 0, 0), (45, 46, .aload_n 0, 0, 0, 0, 0), (46, 49, .getfield 13, 85, 7, 1, 0), (49, 50, .iload_n 1, 0, 0, 0, 0), (50, 51, .iload_n 3, 0, 0, 0, 0), (51, 52, .iastore, 0, 0, 0, 0), (52, 53, .iconst 0, 0, 0, 0, 0), (53, 55, .istore 4, 0, 0, 0, 0), (55, 57, .iload 4, 0, 0, 0, 0), (57, 58, .iload_n 3, 0, 0, 0, 0), (58, 61, .if_icmp .ge 22, 0, 80, 0, 0), (61, 62, .aload_n 0, 0, 0, 0, 0), (62, 65, .getfield 16, 86, 7, 2, 0), (65, 67, .bipush 60, 0, 0, 0, 0), (67, 68, .iload_n 1, 0, 0, 0, 0), (68, 69, .imul, 0, 0, 0, 0), (69, 71, .iload 4, 0, 0, 0, 0), (71, 72, .iadd, 0, 0, 0, 0), (72, 73, .iconst 0, 0, 0, 0, 0), (73, 74, .iastore, 0, 0, 0, 0), (74, 77, .iinc 4 1, 0, 0, 0, 0), (77, 80, .goto (-22), 0, 55, 0, 0), (80, 81, .iload_n 3, 0, 0, 0, 0), (81, 82, .ireturn, 0, 0, 0, 0)]
def cd_123 : List (Nat × Nat × gm_I) := [(0, 1, .iload_n 1, 0, 0, 0, 0), (1, 4, .invokestatic 106, 157, 121, 0, 0), (4, 7, .ifCond .ne 6, 0, 10, 0, 0), (7, 9, .bipush (-2), 0, 0, 0, 0), (9, 10, .ireturn, 0, 0, 0, 0), (10, 11, .aload_n 0, 0, 0, 0, 0), (11, 14, .getfield 7, 84, 7, 0, 0), (14, 15, .iload_n 1, 0, 0, 0, 0), (15, 16, .iaload, 0, 0, 0, 0), (16, 19, .ifCond .ge 9, 0, 25, 0, 0), (19, 20, .aload_n 0, 0, 0, 0, 0), (20, 21, .iconst 1, 0, 0, 0, 0), (21, 24, .invokevirtual 112, 159, 120, 0, 0), (24, 25, .ireturn, 0, 0, 0, 0), (25, 26, .aload_n 0, 0, 0, 0, 0), (26, 29, .getfield 7, 84, 7, 0, 0), (29, 30, .iload_n 1, 0, 0, 0, 0), (30, 31, .iconst (-1), 0, 0, 0, 0), (31, 32, .iastore, 0, 0, 0, 0), (32, 33, .aload_n 0, 0, 0, 0, 0), (33, 36, .getfield 13, 85, 7, 1, 0), (36, 37, .iload_n 1, 0, 0, 0, 0), (37, 38, .iaload, 0, 0, 0, 0), (38, 39, .ireturn, 0, 0, 0, 0)]
def cd_124 : List (Nat × Nat × gm_I) := [(0, 1, .aload_n 0, 0, 0, 0, 0), (1, 4, .getfield 7, 84, 7, 0, 0), (4, 5, .iload_n 1, 0, 0, 0, 0), (5, 6, .iaload, 0, 0, 0, 0), (6, 9, .ifCond .ge 9, 0, 15, 0, 0), (9, 10, .aload_n 0, 0, 0, 0, 0), (10, 11, .iconst 1, 0, 0, 0, 0), (11, 14, .invokevirtual 112, 159, 120, 0, 0), (14, 15, .ireturn, 0, 0, 0, 0), (15, 16, .aload_n 0, 0, 0, 0, 0), (16, 19, .getfield 7, 84, 7, 0, 0), (19, 20, .iload_n 1, 0, 0, 0, 0), (20, 21, .iaload, 0, 0, 0, 0), (21, 22, .iload_n 2, 0, 0, 0, 0), (22, 25, .if_icmp .eq 9, 0, 31, 0, 0), (25, 26, .aload_n 0, 0, 0, 0, 0), (26, 27, .iconst 3, 0, 0, 0, 0), (27, 30, .invokevirtual 112, 159, 120, 0, 0), (30, 31, .ireturn, 0, 0, 0, 0), (31, 32, .iload_n 3, 0, 0, 0, 0), (32, 33, .i2l, 0, 0, 0, 0), (33, 34, .lconst 0, 0, 0, 0, 0), (34, 35, .aload_n 0, 0, 0, 0, 0), (35, 38, .getfield 13, 85, 7, 1, 0), (38, 39, .iload_n 1, 0, 0, 0, 0), (39, 40, .iaload, 0, 0, 0, 0), (40, 41, .iconst 1, 0, 0, 0, 0), (41, 42, .isub, 0, 0, 0, 0), (42, 43, .i2l, 0, 0, 0, 0), (43, 46, .invokestatic 93, 158, 114, 0, 0), (46, 49, .ifCond .eq 7, 0, 53, 0, 0), (49, 50, .iconst 0, 0, 0, 0, 0), (50, 53, .goto 8, 0, 58, 0, 0), (53, 54, .aload_n 0, 0, 0, 0, 0), (54, 55, .iconst 2, 0, 0, 0, 0), (55, 58, .invokevirtual 112, 159, 120, 0, 0), (58, 59, .ireturn, 0, 0, 0, 0)]
def cd_125 : List (Nat × Nat × gm_I) := [(0, 1, .iload_n 0, 0, 0, 0, 0), (1, 4, .ifCond .ne 9, 0, 10, 0, 0), (4, 5, .iload_n 1, 0, 0, 0, 0), (5, 6, .iconst 1, 0, 0, 0, 0), (6, 7, .iand, 0, 0, 0, 0), (7, 10, .goto 14, 0, 21, 0, 0), (10, 11, .iload_n 0, 0, 0, 0, 0), (11, 12, .iconst 1, 0, 0, 0, 0), (12, 15, .if_icmp .ne 8, 0, 20, 0, 0), (15, 16, .iload_n 1, 0, 0, 0, 0), (16, 17, .i2c, 0, 0, 0, 0), (17, 20, .goto 4, 0, 21, 0, 0), (20, 21, .iload_n 1, 0, 0, 0, 0), (21, 22, .ireturn, 0, 0, 0, 0)]
def cd_126 : List (Nat × Nat × gm_I) := [(0, 1, .iload_n 1, 0, 0, 0, 0), (1, 4, .invokestatic 106, 157, 121, 0, 0), (4, 7, .ifCond .eq 15, 0, 19, 0, 0), (7, 8, .iload_n 2, 0, 0, 0, 0), (8, 9, .i2l, 0, 0, 0, 0), (9, 10, .lconst 0, 0, 0, 0, 0), (10, 13, .ldc2_w 110, 6, 0, 0, 2), (13, 16, .invokestatic 93, 158, 114, 0, 0), (16, 19, .ifCond .ne 6, 0, 22, 0, 0), (19, 21, .bipush (-2), 0, 0, 0, 0), (21, 22, .ireturn, 0, 0, 0, 0), (22, 23, .aload_n 0, 0, 0, 0, 0), (23, 24, .iload_n 1, 0, 0, 0, 0), (24, 25, .iload_n 2, 0, 0, 0, 0), (25, 26, .iload_n 3, 0, 0, 0, 0), (26, 29, .invokevirtual 116, 162, 124, 0, 0), (29, 31, .istore 5, 0, 0, 0, 0), (31, 33, .iload 5, 0, 0, 0, 0), (33, 36, .ifCond .eq 6, 0, 39, 0, 0), (36, 38, .iload 5, 0, 0, 0, 0), (38, 39, .ireturn, 0, 0, 0, 0), (39, 40, .aload_n 0, 0, 0, 0, 0), (40, 43, .getfield 16, 86, 7, 2, 0), (43, 45, .bipush 60, 0, 0, 0, 0), (45, 46, .iload_n 1, 0, 0, 0, 0), (46, 47, .imul, 0, 0, 0, 0), (47, 48, .iload_n 3, 0, 0, 0, 0), (48, 49, .iadd, 0, 0, 0, 0), (49, 50, .iload_n 2, 0, 0, 0, 0), (50, 52, .iload 4, 0, 0, 0, 0), (52, 55, .invokestatic 120, 163, 125, 0, 0), (55, 56, .iastore, 0, 0, 0, 0), (56, 57, .iconst 1, 0, 0, 0, 0), (57, 58, .ireturn, 0, 0, 0, 0)]
def cd_127 : List (Nat × Nat × gm_I) := [(0, 1, .iload_n 1, 0, 0, 0, 0), (1, 4, .invokestatic 106, 157, 121, 0, 0), (4, 7, .ifCond .eq 25, 0, 29, 0, 0), (7, 8, .iload_n 2, 0, 0, 0, 0), (8, 9, .i2l, 0, 0, 0, 0), (9, 10, .lconst 0, 0, 0, 0, 0), (10, 13, .ldc2_w 110, 6, 0, 0, 2), (13, 16, .invokestatic 93, 158, 114, 0, 0), (16, 19, .ifCond .eq 13, 0, 29, 0, 0), (19, 20, .aload_n 0, 0, 0, 0, 0), (20, 21, .iload_n 1, 0, 0, 0, 0), (21, 22, .iload_n 2, 0, 0, 0, 0), (22, 23, .iload_n 3, 0, 0, 0, 0), (23, 26, .invokevirtual 116, 162, 124, 0, 0), (26, 29, .ifCond .eq 6, 0, 32, 0, 0), (29, 31, .ldc 124, 6, 0, 0, -2147483648), (31, 32, .ireturn, 0, 0, 0, 0), (32, 33, .aload_n 0, 0, 0, 0, 0), (33, 36, .getfield 16, 86, 7, 2, 0), (36, 38, .bipush 60, 0, 0, 0, 0), (38, 39, .iload_n 1, 0, 0, 0, 0), (39, 40, .imul, 0, 0, 0, 0), (40, 41, .iload_n 3, 0, 0, 0, 0), (41, 42, .iadd, 0, 0, 0, 0), (42, 43, .iaload, 0, 0, 0, 0), (43, 44, .ireturn, 0, 0, 0, 0)]
def cd_128 : List (Nat × Nat × gm_I) := [(0, 1, .iload_n 1, 0, 0, 0, 0), (1, 4, .invokestatic 106, 157, 121, 0, 0), (4, 7, .ifCond .eq 10, 0, 14, 0, 0), (7, 8, .iload_n 3, 0, 0, 0, 0), (8, 11, .invokestatic 106, 157, 121, 0, 0), (11, 14, .ifCond .ne 6, 0, 17, 0, 0), (14, 16, .bipush (-2), 0, 0, 0, 0), (16, 17, .ireturn, 0, 0, 0, 0), (17, 18, .aload_n 0, 0, 0, 0, 0), (18, 21, .getfield 7, 84, 7, 0, 0), (21, 22, .iload_n 1, 0, 0, 0, 0), (22, 23, .iaload, 0, 0, 0, 0), (23, 26, .ifCond .lt 12, 0, 35, 0, 0), (26, 27, .aload_n 0, 0, 0, 0, 0), (27, 30, .getfield 7, 84, 7, 0, 0), (30, 31, .iload_n 3, 0, 0, 0, 0), (31, 32, .iaload, 0, 0, 0, 0), (32, 35, .ifCond .ge 9, 0, 41, 0, 0), (35, 36, .aload_n 0, 0, 0, 0, 0), (36, 37, .iconst 1, 0, 0, 0, 0), (37, 40, .invokevirtual 112, 159, 120, 0, 0), (40, 41, .ireturn, 0, 0, 0, 0), (41, 42, .aload_n 0, 0, 0, 0, 0), (42, 45, .getfield 7, 84, 7, 0, 0), (45, 46, .iload_n 1, 0, 0, 0, 0), (46, 47, .iaload, 0, 0, 0, 0), (47, 48, .aload_n 0, 0, 0, 0, 0), (48, 51, .getfield 7, 84, 7, 0, 0), (51, 52, .iload_n 3, 0, 0, 0, 0), (52, 53, .iaload, 0, 0, 0, 0), (53, 56, .if_icmp .eq 9, 0, 62, 0, 0), (56, 57, .aload_n 0, 0, 0, 0, 0), (57, 58, .iconst 4, 0, 0, 0, 0), (58, 61, .invokevirtual 112, 159, 120, 0, 0), (61, 62, .ireturn, 0, 0, 0, 0), (62, 63, .iload_n 2, 0, 0, 0, 0), (63, 66, .ifCond .lt 48, 0, 111, 0, 0), (66, 68, .iload 4, 0, 0, 0, 0), (68, 71, .ifCond .lt 43, 0, 111, 0, 0), (71, 73, .iload 5, 0, 0, 0, 0), (73, 76, .ifCond .lt 38, 0, 111, 0, 0), (76, 77, .iload_n 2, 0, 0, 0, 0), (77, 78, .i2l, 0, 0, 0, 0), (78, 80, .iload 5, 0, 0, 0, 0), (80, 81, .i2l, 0, 0, 0, 0), (81, 82, .ladd, 0, 0, 0, 0), (82, 83, .aload_n 0, 0, 0, 0, 0), (83, 86, .getfield 13, 85, 7, 1, 0), (86, 87, .iload_n 1, 0, 0, 0, 0), (87, 88, .iaload, 0, 0, 0, 0), (88, 89, .i2l, 0, 0, 0, 0), (89, 90, .lcmp, 0, 0, 0, 0), (90, 93, .ifCond .gt 21, 0, 111, 0, 0), (93, 95, .iload 4, 0, 0, 0, 0), (95, 96, .i2l, 0, 0, 0, 0), (96, 98, .iload 5, 0, 0, 0, 0), (98, 99, .i2l, 0, 0, 0, 0), (99, 100, .ladd, 0, 0, 0, 0), (100, 101, .aload_n 0, 0, 0, 0, 0), (101, 104, .getfield 13, 85, 7, 1, 0), (104, 105, .iload_n 3, 0, 0, 0, 0), (105, 106, .iaload, 0, 0, 0, 0), (106, 107, .i2l, 0, 0, 0, 0), (107, 108, .lcmp, 0, 0, 0, 0), (108, 111, .ifCond .le 9, 0, 117, 0, 0), (111, 112, .aload_n 0, 0, 0, 0, 0), (112, 113, .iconst 2, 0, 0, 0, 0), (113, 116, .invokevirtual 112, 159, 120, 0, 0), (116, 117, .ireturn, 0, 0, 0, 0), (117, 118, .iconst 0, 0, 0, 0, 0), (118, 120, .istore 6, 0, 0, 0, 0), (120, 122, .iload 6, 0, 0, 0, 0), (122, 124, .iload 5, 0, 0, 0, 0), (124, 127, .if_icmp .ge 30, 0, 154, 0, 0), (127, 128, .aload_n 0, 0, 0, 0, 0), (128, 131, .getfield 19, 87, 7, 3, 0), (131, 133, .iload 6, 0, 0, 0, 0), (133, 134, .aload_n 0, 0, 0, 0, 0), (134, 137, .getfield 16, 86, 7, 2, 0), (137, 139, .bipush 60, 0, 0, 0, 0), (139, 140, .iload_n 1, 0, 0, 0, 0), (140, 141, .imul, 0, 0, 0, 0), (141, 142, .iload_n 2, 0, 0, 0, 0), (142, 143, .iadd, 0, 0, 0, 0), (143, 145, .iload 6, 0, 0, 0, 0), (145, 146, .iadd, 0, 0, 0, 0), (146, 147, .iaload, 0, 0, 0, 0), (147, 148, .iastore, 0, 0, 0, 0), (148, 151, .iinc 6 1, 0, 0, 0, 0), (151, 154, .goto (-31), 0, 120, 0, 0), (154, 155, .iconst 0, 0, 0, 0, 0), (155, 157, .istore 6, 0, 0, 0, 0), (157, 159, .iload 6, 0, 0, 0, 0), (159, 161, .iload 5, 0, 0, 0, 0), (161, 164, .if_icmp .ge 31, 0, 192, 0, 0), (164, 165, .aload_n 0, 0, 0, 0, 0), (165, 168, .getfield 16, 86, 7, 2, 0), (168, 170, .bipush 60, 0, 0, 0, 0), (170, 171, .iload_n 3, 0, 0, 0, 0), (171, 172, .imul, 0, 0, 0, 0), (172, 174, .iload 4, 0, 0, 0, 0), (174, 175, .iadd, 0, 0, 0, 0), (175, 177, .iload 6, 0, 0, 0, 0), (177, 178, .iadd, 0, 0, 0, 0), (178, 179, .aload_n 0, 0, 0, 0, 0), (179, 182, .getfield 19, 87, 7, 3, 0), (182, 184, .iload 6, 0, 0, 0, 0), (184, 185, .iaload, 0, 0, 0, 0), (185, 186, .iastore, 0, 0, 0, 0), (186, 189, .iinc 6 1, 0, 0, 0, 0), (189, 192, .goto (-32), 0, 157, 0, 0), (192, 193, .iconst 1, 0, 0, 0, 0), (193, 194, .ireturn, 0, 0, 0, 0)]
def cd_129 : List (Nat × Nat × gm_I) := [(0, 1, .iload_n 1, 0, 0, 0, 0), (1, 2, .i2l, 0, 0, 0, 0), (2, 3, .lconst 0, 0, 0, 0, 0), (3, 4, .aload_n 0, 0, 0, 0, 0), (4, 7, .getfield 77, 89, 7, 5, 0), (7, 8, .iconst 1, 0, 0, 0, 0), (8, 9, .isub, 0, 0, 0, 0), (9, 10, .i2l, 0, 0, 0, 0), (10, 13, .invokestatic 93, 158, 114, 0, 0), (13, 14, .ireturn, 0, 0, 0, 0)]
def cd_130 : List (Nat × Nat × gm_I) := [(0, 1, .iload_n 1, 0, 0, 0, 0), (1, 2, .i2l, 0, 0, 0, 0), (2, 3, .lconst 0, 0, 0, 0, 0), (3, 4, .aload_n 0, 0, 0, 0, 0), (4, 7, .getfield 81, 90, 7, 6, 0), (7, 8, .iconst 1, 0, 0, 0, 0), (8, 9, .isub, 0, 0, 0, 0), (9, 10, .i2l, 0, 0, 0, 0), (10, 13, .invokestatic 93, 158, 114, 0, 0), (13, 16, .ifCond .eq 15, 0, 28, 0, 0), (16, 17, .aload_n 0, 0, 0, 0, 0), (17, 18, .iload_n 2, 0, 0, 0, 0), (18, 21, .invokevirtual 125, 173, 129, 0, 0), (21, 24, .ifCond .eq 7, 0, 28, 0, 0), (24, 25, .iconst 1, 0, 0, 0, 0), (25, 28, .goto 4, 0, 29, 0, 0), (28, 29, .iconst 0, 0, 0, 0, 0), (29, 30, .ireturn, 0, 0, 0, 0)]
def cd_131 : List (Nat × Nat × gm_I) := [(0, 1, .iconst 0, 0, 0, 0, 0), (1, 2, .istore_n 1, 0, 0, 0, 0), (2, 3, .iconst 0, 0, 0, 0, 0), (3, 4, .istore_n 2, 0, 0, 0, 0), (4, 5, .iload_n 2, 0, 0, 0, 0), (5, 6, .aload_n 0, 0, 0, 0, 0), (6, 9, .getfield 77, 89, 7, 5, 0), (9, 12, .if_icmp .ge 22, 0, 31, 0, 0), (12, 13, .iload_n 1, 0, 0, 0, 0), (13, 14, .aload_n 0, 0, 0, 0, 0), (14, 17, .getfield 22, 94, 7, 10, 0), (17, 18, .iload_n 2, 0, 0, 0, 0), (18, 19, .iaload, 0, 0, 0, 0), (19, 20, .i2l, 0, 0, 0, 0), (20, 23, .invokestatic 128, 175, 119, 0, 0), (23, 24, .iadd, 0, 0, 0, 0), (24, 25, .istore_n 1, 0, 0, 0, 0), (25, 28, .iinc 2 1, 0, 0, 0, 0), (28, 31, .goto (-24), 0, 4, 0, 0), (31, 32, .iload_n 1, 0, 0, 0, 0), (32, 33, .ireturn, 0, 0, 0, 0)]
def cd_132 : List (Nat × Nat × gm_I) := [(0, 1, .iload_n 1, 0, 0, 0, 0), (1, 2, .i2l, 0, 0, 0, 0), (2, 3, .lconst 1, 0, 0, 0, 0), (3, 6, .ldc2_w 132, 7, 0, 0, 7), (6, 9, .invokestatic 93, 158, 114, 0, 0), (9, 12, .ifCond .eq 15, 0, 24, 0, 0), (12, 13, .iload_n 2, 0, 0, 0, 0), (13, 14, .i2l, 0, 0, 0, 0), (14, 15, .lconst 1, 0, 0, 0, 0), (15, 18, .ldc2_w 132, 7, 0, 0, 7), (18, 21, .invokestatic 93, 158, 114, 0, 0), (21, 24, .ifCond .ne 6, 0, 27, 0, 0), (24, 26, .bipush (-2), 0, 0, 0, 0), (26, 27, .ireturn, 0, 0, 0, 0), (27, 28, .aload_n 0, 0, 0, 0, 0), (28, 29, .iload_n 1, 0, 0, 0, 0), (29, 32, .putfield 77, 89, 7, 5, 0), (32, 33, .aload_n 0, 0, 0, 0, 0), (33, 34, .iload_n 2, 0, 0, 0, 0), (34, 37, .putfield 81, 90, 7, 6, 0), (37, 38, .aload_n 0, 0, 0, 0, 0), (38, 39, .aload_n 0, 0, 0, 0, 0), (39, 42, .getfield 84, 91, 7, 7, 0), (42, 43, .iload_n 2, 0, 0, 0, 0), (43, 46, .invokestatic 134, 167, 117, 0, 0), (46, 49, .putfield 84, 91, 7, 7, 0), (49, 50, .aload_n 0, 0, 0, 0, 0), (50, 51, .iconst 0, 0, 0, 0, 0), (51, 54, .putfield 137, 95, 7, 11, 0), (54, 55, .iconst 0, 0, 0, 0, 0), (55, 56, .istore_n 3, 0, 0, 0, 0), (56, 57, .iload_n 3, 0, 0, 0, 0), (57, 59, .bipush 7, 0, 0, 0, 0), (59, 62, .if_icmp .ge 16, 0, 75, 0, 0), (62, 63, .aload_n 0, 0, 0, 0, 0), (63, 66, .getfield 22, 94, 7, 10, 0), (66, 67, .iload_n 3, 0, 0, 0, 0), (67, 68, .iconst 0, 0, 0, 0, 0), (68, 69, .iastore, 0, 0, 0, 0), (69, 72, .iinc 3 1, 0, 0, 0, 0), (72, 75, .goto (-16), 0, 56, 0, 0), (75, 76, .iload_n 1, 0, 0, 0, 0), (76, 77, .iload_n 2, 0, 0, 0, 0), (77, 78, .imul, 0, 0, 0, 0), (78, 79, .ireturn, 0, 0, 0, 0)]
def cd_133 : List (Nat × Nat × gm_I) := [(0, 1, .iload_n 1, 0, 0, 0, 0), (1, 2, .i2l, 0, 0, 0, 0), (2, 3, .lconst 1, 0, 0, 0, 0), (3, 4, .aload_n 0, 0, 0, 0, 0), (4, 7, .getfield 81, 90, 7, 6, 0), (7, 8, .i2l, 0, 0, 0, 0), (8, 11, .invokestatic 93, 158, 114, 0, 0), (11, 14, .ifCond .ne 6, 0, 17, 0, 0), (14, 16, .bipush (-2), 0, 0, 0, 0), (16, 17, .ireturn, 0, 0, 0, 0), (17, 18, .aload_n 0, 0, 0, 0, 0), (18, 21, .getfield 84, 91, 7, 7, 0), (21, 22, .istore_n 2, 0, 0, 0, 0), (22, 23, .aload_n 0, 0, 0, 0, 0), (23, 24, .iload_n 1, 0, 0, 0, 0), (24, 27, .putfield 84, 91, 7, 7, 0), (27, 28, .aload_n 0, 0, 0, 0, 0), (28, 29, .iconst 0, 0, 0, 0, 0), (29, 32, .putfield 137, 95, 7, 11, 0), (32, 33, .iload_n 2, 0, 0, 0, 0), (33, 34, .ireturn, 0, 0, 0, 0)]
def cd_134 : List (Nat × Nat × gm_I) := [(0, 1, .iload_n 1, 0, 0, 0, 0), (1, 2, .i2l, 0, 0, 0, 0), (2, 3, .lconst 0, 0, 0, 0, 0), (3, 6, .ldc2_w 104, 5, 0, 0, 3), (6, 9, .invokestatic 93, 158, 114, 0, 0), (9, 12, .ifCond .ne 6, 0, 15, 0, 0), (12, 14, .bipush (-2), 0, 0, 0, 0), (14, 15, .ireturn, 0, 0, 0, 0), (15, 16, .aload_n 0, 0, 0, 0, 0), (16, 19, .getfield 87, 92, 7, 8, 0), (19, 20, .istore_n 2, 0, 0, 0, 0), (20, 21, .aload_n 0, 0, 0, 0, 0), (21, 22, .iload_n 1, 0, 0, 0, 0), (22, 25, .putfield 87, 92, 7, 8, 0), (25, 26, .iload_n 2, 0, 0, 0, 0), (26, 27, .ireturn, 0, 0, 0, 0)]
def cd_135 : List (Nat × Nat × gm_I) := [(0, 1, .iload_n 1, 0, 0, 0, 0), (1, 2, .i2l, 0, 0, 0, 0), (2, 3, .lconst 0, 0, 0, 0, 0), (3, 6, .ldc2_w 141, 8, 0, 0, 15), (6, 9, .invokestatic 93, 158, 114, 0, 0), (9, 12, .ifCond .ne 6, 0, 15, 0, 0), (12, 14, .bipush (-2), 0, 0, 0, 0), (14, 15, .ireturn, 0, 0, 0, 0), (15, 16, .aload_n 0, 0, 0, 0, 0), (16, 19, .getfield 90, 93, 7, 9, 0), (19, 20, .istore_n 2, 0, 0, 0, 0), (20, 21, .aload_n 0, 0, 0, 0, 0), (21, 22, .iload_n 1, 0, 0, 0, 0), (22, 25, .putfield 90, 93, 7, 9, 0), (25, 26, .iload_n 2, 0, 0, 0, 0), (26, 27, .ireturn, 0, 0, 0, 0)]
def cd_136 : List (Nat × Nat × gm_I) := [(0, 1, .aload_n 0, 0, 0, 0, 0), (1, 2, .iload_n 1, 0, 0, 0, 0), (2, 3, .iload_n 2, 0, 0, 0, 0), (3, 6, .invokevirtual 143, 172, 130, 0, 0), (6, 9, .ifCond .ne 6, 0, 12, 0, 0), (9, 11, .bipush (-2), 0, 0, 0, 0), (11, 12, .ireturn, 0, 0, 0, 0), (12, 13, .aload_n 0, 0, 0, 0, 0), (13, 16, .getfield 22, 94, 7, 10, 0), (16, 17, .iload_n 2, 0, 0, 0, 0), (17, 18, .dup2, 0, 0, 0, 0), (18, 19, .iaload, 0, 0, 0, 0), (19, 20, .iconst 1, 0, 0, 0, 0), (20, 21, .iload_n 1, 0, 0, 0, 0), (21, 22, .ishl, 0, 0, 0, 0), (22, 23, .ixor, 0, 0, 0, 0), (23, 24, .iastore, 0, 0, 0, 0), (24, 25, .aload_n 0, 0, 0, 0, 0), (25, 28, .invokevirtual 147, 174, 131, 0, 0), (28, 29, .ireturn, 0, 0, 0, 0)]
def cd_137 : List (Nat × Nat × gm_I) := [(0, 1, .aload_n 0, 0, 0, 0, 0), (1, 4, .getfield 22, 94, 7, 10, 0), (4, 5, .iload_n 2, 0, 0, 0, 0), (5, 6, .iload_n 3, 0, 0, 0, 0), (6, 9, .ifCond .eq 16, 0, 22, 0, 0), (9, 10, .aload_n 0, 0, 0, 0, 0), (10, 13, .getfield 22, 94, 7, 10, 0), (13, 14, .iload_n 2, 0, 0, 0, 0), (14, 15, .iaload, 0, 0, 0, 0), (15, 16, .iconst 1, 0, 0, 0, 0), (16, 17, .iload_n 1, 0, 0, 0, 0), (17, 18, .ishl, 0, 0, 0, 0), (18, 19, .ior, 0, 0, 0, 0), (19, 22, .goto 15, 0, 34, 0, 0), (22, 23, .aload_n 0, 0, 0, 0, 0), (23, 26, .getfield 22, 94, 7, 10, 0), (26, 27, .iload_n 2, 0, 0, 0, 0), (27, 28, .iaload, 0, 0, 0, 0), (28, 29, .iconst 1, 0, 0, 0, 0), (29, 30, .iload_n 1, 0, 0, 0, 0), (30, 31, .ishl, 0, 0, 0, 0), (31, 32, .iconst (-1), 0, 0, 0, 0), (32, 33, .ixor, 0, 0, 0, 0), (33, 34, .iand, 0, 0, 0, 0), (34, 35, .iastore, 0, 0, 0, 0), (35, 36, .return_, 0, 0, 0, 0)]
def cd_138 : List (Nat × Nat × gm_I) := [(0, 1, .iload_n 2, 0, 0, 0, 0), (1, 2, .i2l, 0, 0, 0, 0), (2, 3, .lconst 0, 0, 0, 0, 0), (3, 6, .ldc2_w 151, 9, 0, 0, 16), (6, 9, .invokestatic 93, 158, 114, 0, 0), (9, 12, .ifCond .ne 6, 0, 15, 0, 0), (12, 14, .bipush (-2), 0, 0, 0, 0), (14, 15, .ireturn, 0, 0, 0, 0), (15, 16, .iload_n 1, 0, 0, 0, 0), (16, 17, .istore_n 3, 0, 0, 0, 0), (17, 18, .iconst 0, 0, 0, 0, 0), (18, 20, .istore 4, 0, 0, 0, 0), (20, 22, .iload 4, 0, 0, 0, 0), (22, 23, .aload_n 0, 0, 0, 0, 0), (23, 26, .getfield 77, 89, 7, 5, 0), (26, 27, .aload_n 0, 0, 0, 0, 0), (27, 30, .getfield 81, 90, 7, 6, 0), (30, 31, .imul, 0, 0, 0, 0), (31, 34, .if_icmp .ge 52, 0, 83, 0, 0), (34, 36, .ldc 153, 7, 0, 0, 1103515245), (36, 37, .iload_n 3, 0, 0, 0, 0), (37, 38, .imul, 0, 0, 0, 0), (38, 41, .sipush 12345, 0, 0, 0, 0), (41, 42, .iadd, 0, 0, 0, 0), (42, 43, .istore_n 3, 0, 0, 0, 0), (43, 44, .aload_n 0, 0, 0, 0, 0), (44, 46, .iload 4, 0, 0, 0, 0), (46, 47, .aload_n 0, 0, 0, 0, 0), (47, 50, .getfield 81, 90, 7, 6, 0), (50, 51, .irem, 0, 0, 0, 0), (51, 53, .iload 4, 0, 0, 0, 0), (53, 54, .aload_n 0, 0, 0, 0, 0), (54, 57, .getfield 81, 90, 7, 6, 0), (57, 58, .idiv, 0, 0, 0, 0), (58, 59, .iload_n 3, 0, 0, 0, 0), (59, 61, .bipush 16, 0, 0, 0, 0), (61, 62, .iushr, 0, 0, 0, 0), (62, 64, .bipush 16, 0, 0, 0, 0), (64, 65, .irem, 0, 0, 0, 0), (65, 66, .iload_n 2, 0, 0, 0, 0), (66, 69, .if_icmp .ge 7, 0, 73, 0, 0), (69, 70, .iconst 1, 0, 0, 0, 0), (70, 73, .goto 4, 0, 74, 0, 0), (73, 74, .iconst 0, 0, 0, 0, 0), (74, 77, .invokevirtual 154, 178, 137, 0, 0), (77, 80, .iinc 4 1, 0, 0, 0, 0), (80, 83, .goto (-60), 0, 20, 0, 0), (83, 84, .aload_n 0, 0, 0, 0, 0), (84, 87, .invokevirtual 147, 174, 131, 0, 0), (87, 88, .ireturn, 0, 0, 0, 0)]
def cd_139 : List (Nat × Nat × gm_I) := [(0, 1, .aload_n 0, 0, 0, 0, 0), (1, 2, .iload_n 1, 0, 0, 0, 0), (2, 5, .invokevirtual 125, 173, 129, 0, 0), (5, 8, .ifCond .eq 10, 0, 15, 0, 0), (8, 9, .iload_n 2, 0, 0, 0, 0), (9, 12, .invokestatic 106, 157, 121, 0, 0), (12, 15, .ifCond .ne 6, 0, 18, 0, 0), (15, 17, .bipush (-2), 0, 0, 0, 0), (17, 18, .ireturn, 0, 0, 0, 0), (18, 19, .aload_n 0, 0, 0, 0, 0), (19, 22, .getfield 7, 84, 7, 0, 0), (22, 23, .iload_n 2, 0, 0, 0, 0), (23, 24, .iaload, 0, 0, 0, 0), (24, 27, .ifCond .ge 9, 0, 33, 0, 0), (27, 28, .aload_n 0, 0, 0, 0, 0), (28, 29, .iconst 1, 0, 0, 0, 0), (29, 32, .invokevirtual 112, 159, 120, 0, 0), (32, 33, .ireturn, 0, 0, 0, 0), (33, 34, .aload_n 0, 0, 0, 0, 0), (34, 37, .getfield 13, 85, 7, 1, 0), (37, 38, .iload_n 2, 0, 0, 0, 0), (38, 39, .iaload, 0, 0, 0, 0), (39, 40, .aload_n 0, 0, 0, 0, 0), (40, 43, .getfield 81, 90, 7, 6, 0), (43, 46, .invokestatic 134, 167, 117, 0, 0), (46, 47, .istore_n 3, 0, 0, 0, 0), (47, 48, .iconst 0, 0, 0, 0, 0), (48, 50, .istore 4, 0, 0, 0, 0), (50, 52, .iload 4, 0, 0, 0, 0), (52, 53, .iload_n 3, 0, 0, 0, 0), (53, 56, .if_icmp .ge 36, 0, 89, 0, 0), (56, 57, .aload_n 0, 0, 0, 0, 0), (57, 59, .iload 4, 0, 0, 0, 0), (59, 60, .iload_n 1, 0, 0, 0, 0), (60, 61, .aload_n 0, 0, 0, 0, 0), (61, 64, .getfield 16, 86, 7, 2, 0), (64, 66, .bipush 60, 0, 0, 0, 0), (66, 67, .iload_n 2, 0, 0, 0, 0), (67, 68, .imul, 0, 0, 0, 0), (68, 70, .iload 4, 0, 0, 0, 0), (70, 71, .iadd, 0, 0, 0, 0), (71, 72, .iaload, 0, 0, 0, 0), (72, 75, .ifCond .eq 7, 0, 79, 0, 0), (75, 76, .iconst 1, 0, 0, 0, 0), (76, 79, .goto 4, 0, 80, 0, 0), (79, 80, .iconst 0, 0, 0, 0, 0), (80, 83, .invokevirtual 154, 178, 137, 0, 0), (83, 86, .iinc 4 1, 0, 0, 0, 0), (86, 89, .goto (-36), 0, 50, 0, 0), (89, 90, .iload_n 3, 0, 0, 0, 0), (90, 91, .ireturn, 0, 0, 0, 0)]
def cd_140 : List (Nat × Nat × gm_I) := [(0, 1, .iconst 0, 0, 0, 0, 0), (1, 2, .istore_n 2, 0, 0, 0, 0), (2, 3, .iconst 0, 0, 0, 0, 0), (3, 4, .istore_n 3, 0, 0, 0, 0), (4, 5, .iload_n 3, 0, 0, 0, 0), (5, 7, .bipush 7, 0, 0, 0, 0), (7, 10, .if_icmp .ge 28, 0, 35, 0, 0), (10, 11, .iload_n 0, 0, 0, 0, 0), (11, 12, .i2l, 0, 0, 0, 0), (12, 13, .iload_n 3, 0, 0, 0, 0), (13, 16, .invokestatic 97, 176, 116, 0, 0), (16, 19, .ifCond .eq 13, 0, 29, 0, 0), (19, 20, .iload_n 2, 0, 0, 0, 0), (20, 21, .iload_n 1, 0, 0, 0, 0), (21, 24, .if_icmp .ne 5, 0, 26, 0, 0), (24, 25, .iload_n 3, 0, 0, 0, 0), (25, 26, .ireturn, 0, 0, 0, 0), (26, 29, .iinc 2 1, 0, 0, 0, 0), (29, 32, .iinc 3 1, 0, 0, 0, 0), (32, 35, .goto (-28), 0, 4, 0, 0), (35, 36, .iconst (-1), 0, 0, 0, 0), (36, 37, .ireturn, 0, 0, 0, 0)]
def cd_141 : List (Nat × Nat × gm_I) := [(0, 1, .aload_n 0, 0, 0, 0, 0), (1, 2, .iconst 0, 0, 0, 0, 0), (2, 5, .putfield 158, 102, 7, 18, 0), (5, 6, .iconst 0, 0, 0, 0, 0), (6, 7, .istore_n 3, 0, 0, 0, 0), (7, 8, .iload_n 3, 0, 0, 0, 0), (8, 9, .iconst 1, 0, 0, 0, 0), (9, 10, .aload_n 0, 0, 0, 0, 0), (10, 13, .getfield 81, 90, 7, 6, 0), (13, 14, .ishl, 0, 0, 0, 0), (14, 17, .if_icmp .ge 154, 0, 168, 0, 0), (17, 18, .iload_n 3, 0, 0, 0, 0), (18, 19, .i2l, 0, 0, 0, 0), (19, 22, .invokestatic 128, 175, 119, 0, 0), (22, 23, .iload_n 1, 0, 0, 0, 0), (23, 26, .if_icmp .ne 139, 0, 162, 0, 0), (26, 27, .aload_n 0, 0, 0, 0, 0), (27, 30, .getfield 28, 98, 7, 14, 0), (30, 31, .aload_n 0, 0, 0, 0, 0), (31, 34, .getfield 158, 102, 7, 18, 0), (34, 35, .iload_n 3, 0, 0, 0, 0), (35, 36, .iastore, 0, 0, 0, 0), (36, 37, .aload_n 0, 0, 0, 0, 0), (37, 40, .getfield 34, 100, 7, 16, 0), (40, 41, .aload_n 0, 0, 0, 0, 0), (41, 44, .getfield 158, 102, 7, 18, 0), (44, 45, .iconst 1, 0, 0, 0, 0), (45, 46, .bastore, 0, 0, 0, 0), (46, 47, .iconst 0, 0, 0, 0, 0), (47, 49, .istore 4, 0, 0, 0, 0), (49, 51, .iload 4, 0, 0, 0, 0), (51, 52, .iload_n 1, 0, 0, 0, 0), (52, 55, .if_icmp .ge 100, 0, 152, 0, 0), (55, 56, .aload_n 0, 0, 0, 0, 0), (56, 59, .getfield 31, 99, 7, 15, 0), (59, 61, .bipush 7, 0, 0, 0, 0), (61, 62, .aload_n 0, 0, 0, 0, 0), (62, 65, .getfield 158, 102, 7, 18, 0), (65, 66, .imul, 0, 0, 0, 0), (66, 68, .iload 4, 0, 0, 0, 0), (68, 69, .iadd, 0, 0, 0, 0), (69, 70, .iload_n 3, 0, 0, 0, 0), (70, 72, .iload 4, 0, 0, 0, 0), (72, 75, .invokestatic 161, 183, 140, 0, 0), (75, 76, .iastore, 0, 0, 0, 0), (76, 77, .aload_n 0, 0, 0, 0, 0), (77, 80, .getfield 34, 100, 7, 16, 0), (80, 81, .aload_n 0, 0, 0, 0, 0), (81, 84, .getfield 158, 102, 7, 18, 0), (84, 85, .aload_n 0, 0, 0, 0, 0), (85, 88, .getfield 34, 100, 7, 16, 0), (88, 89, .aload_n 0, 0, 0, 0, 0), (89, 92, .getfield 158, 102, 7, 18, 0), (92, 93, .baload, 0, 0, 0, 0), (93, 96, .ifCond .eq 51, 0, 144, 0, 0), (96, 98, .iload 4, 0, 0, 0, 0), (98, 101, .ifCond .eq 42, 0, 140, 0, 0), (101, 102, .aload_n 0, 0, 0, 0, 0), (102, 105, .getfield 31, 99, 7, 15, 0), (105, 107, .bipush 7, 0, 0, 0, 0), (107, 108, .aload_n 0, 0, 0, 0, 0), (108, 111, .getfield 158, 102, 7, 18, 0), (111, 112, .imul, 0, 0, 0, 0), (112, 114, .iload 4, 0, 0, 0, 0), (114, 115, .iadd, 0, 0, 0, 0), (115, 116, .iaload, 0, 0, 0, 0), (116, 117, .aload_n 0, 0, 0, 0, 0), (117, 120, .getfield 31, 99, 7, 15, 0), (120, 122, .bipush 7, 0, 0, 0, 0), (122, 123, .aload_n 0, 0, 0, 0, 0), (123, 126, .getfield 158, 102, 7, 18, 0), (126, 127, .imul, 0, 0, 0, 0), (127, 129, .iload 4, 0, 0, 0, 0), (129, 130, .iadd, 0, 0, 0, 0), (130, 131, .iconst 1, 0, 0, 0, 0), (131, 132, .isub, 0, 0, 0, 0), (132, 133, .iaload, 0, 0, 0, 0), (133, 134, .isub, 0, 0, 0, 0), (134, 135, .iconst 1, 0, 0, 0, 0), (135, 136, .isub, 0, 0, 0, 0), (136, 137, .iload_n 2, 0, 0, 0, 0), (137, 140, .if_icmp .gt 7, 0, 144, 0, 0), (140, 141, .iconst 1, 0, 0, 0, 0), (141, 144, .goto 4, 0, 145, 0, 0), (144, 145, .iconst 0, 0, 0, 0, 0), (145, 146, .bastore, 0, 0, 0, 0), (146, 149, .iinc 4 1, 0, 0, 0, 0), (149, 152, .goto (-100), 0, 49, 0, 0), (152, 153, .aload_n 0, 0, 0, 0, 0), (153, 154, .dup, 0, 0, 0, 0), (154, 157, .getfield 158, 102, 7, 18, 0), (157, 158, .iconst 1, 0, 0, 0, 0), (158, 159, .iadd, 0, 0, 0, 0), (159, 162, .putfield 158, 102, 7, 18, 0), (162, 165, .iinc 3 1, 0, 0, 0, 0), (165, 168, .goto (-158), 0, 7, 0, 0), (168, 169, .iconst 0, 0, 0, 0, 0), (169, 170, .istore_n 3, 0, 0, 0, 0), (170, 171, .iload_n 3, 0, 0, 0, 0), (171, 172, .aload_n 0, 0, 0, 0, 0), (172, 175, .getfield 158, 102, 7, 18, 0), (175, 178, .if_icmp .ge 104, 0, 279, 0, 0), (178, 179, .iconst 0, 0, 0, 0, 0), (179, 181, .istore 4, 0, 0, 0, 0), (181, 183, .iload 4, 0, 0, 0, 0), (183, 184, .aload_n 0, 0, 0, 0, 0), (184, 187, .getfield 158, 102, 7, 18, 0), (187, 190, .if_icmp .ge 86, 0, 273, 0, 0), (190, 191, .iconst 1, 0, 0, 0, 0), (191, 193, .istore 5, 0, 0, 0, 0), (193, 194, .iconst 0, 0, 0, 0, 0), (194, 196, .istore 6, 0, 0, 0, 0), (196, 198, .iload 6, 0, 0, 0, 0), (198, 199, .iload_n 1, 0, 0, 0, 0), (199, 202, .if_icmp .ge 54, 0, 253, 0, 0), (202, 204, .iload 5, 0, 0, 0, 0), (204, 207, .ifCond .eq 49, 0, 253, 0, 0), (207, 208, .aload_n 0, 0, 0, 0, 0), (208, 211, .getfield 31, 99, 7, 15, 0), (211, 213, .bipush 7, 0, 0, 0, 0), (213, 214, .iload_n 3, 0, 0, 0, 0), (214, 215, .imul, 0, 0, 0, 0), (215, 217, .iload 6, 0, 0, 0, 0), (217, 218, .iadd, 0, 0, 0, 0), (218, 219, .iaload, 0, 0, 0, 0), (219, 220, .aload_n 0, 0, 0, 0, 0), (220, 223, .getfield 31, 99, 7, 15, 0), (223, 225, .bipush 7, 0, 0, 0, 0), (225, 227, .iload 4, 0, 0, 0, 0), (227, 228, .imul, 0, 0, 0, 0), (228, 230, .iload 6, 0, 0, 0, 0), (230, 231, .iadd, 0, 0, 0, 0), (231, 232, .iaload, 0, 0, 0, 0), (232, 233, .isub, 0, 0, 0, 0), (233, 236, .invokestatic 164, 184, 118, 0, 0), (236, 237, .iload_n 2, 0, 0, 0, 0), (237, 240, .if_icmp .gt 7, 0, 244, 0, 0), (240, 241, .iconst 1, 0, 0, 0, 0), (241, 244, .goto 4, 0, 245, 0, 0), (244, 245, .iconst 0, 0, 0, 0, 0), (245, 247, .istore 5, 0, 0, 0, 0), (247, 250, .iinc 6 1, 0, 0, 0, 0), (250, 253, .goto (-54), 0, 196, 0, 0), (253, 254, .aload_n 0, 0, 0, 0, 0), (254, 257, .getfield 38, 101, 7, 17, 0), (257, 259, .bipush 40, 0, 0, 0, 0), (259, 260, .iload_n 3, 0, 0, 0, 0), (260, 261, .imul, 0, 0, 0, 0), (261, 263, .iload 4, 0, 0, 0, 0), (263, 264, .iadd, 0, 0, 0, 0), (264, 266, .iload 5, 0, 0, 0, 0), (266, 267, .bastore, 0, 0, 0, 0), (267, 270, .iinc 4 1, 0, 0, 0, 0), (270, 273, .goto (-89), 0, 181, 0, 0), (273, 276, .iinc 3 1, 0, 0, 0, 0), (276, 279, .goto (-106), 0, 170, 0, 0), (279, 280, .return_, 0, 0, 0, 0)]
def cd_142 : List (Nat × Nat × gm_I) := [(0, 1, .aload_n 0, 0, 0, 0, 0), (1, 2, .aload_n 0, 0, 0, 0, 0), (2, 5, .getfield 84, 91, 7, 7, 0), (5, 6, .aload_n 0, 0, 0, 0, 0), (6, 9, .getfield 87, 92, 7, 8, 0), (9, 12, .invokevirtual 167, 182, 141, 0, 0), (12, 13, .return_, 0, 0, 0, 0)]
def cd_143 : List (Nat × Nat × gm_I) := [(0, 1, .aload_n 0, 0, 0, 0, 0), (1, 4, .getfield 34, 100, 7, 16, 0), (4, 5, .iload_n 2, 0, 0, 0, 0), (5, 6, .baload, 0, 0, 0, 0), (6, 9, .ifCond .eq 23, 0, 29, 0, 0), (9, 10, .aload_n 0, 0, 0, 0, 0), (10, 13, .getfield 22, 94, 7, 10, 0), (13, 14, .iload_n 1, 0, 0, 0, 0), (14, 15, .iaload, 0, 0, 0, 0), (15, 16, .aload_n 0, 0, 0, 0, 0), (16, 19, .getfield 28, 98, 7, 14, 0), (19, 20, .iload_n 2, 0, 0, 0, 0), (20, 21, .iaload, 0, 0, 0, 0), (21, 22, .iand, 0, 0, 0, 0), (22, 25, .ifCond .ne 7, 0, 29, 0, 0), (25, 26, .iconst 1, 0, 0, 0, 0), (26, 29, .goto 4, 0, 30, 0, 0), (29, 30, .iconst 0, 0, 0, 0, 0), (30, 31, .ireturn, 0, 0, 0, 0)]
def cd_144 : List (Nat × Nat × gm_I) := [(0, 1, .iconst 0, 0, 0, 0, 0), (1, 2, .istore_n 3, 0, 0, 0, 0), (2, 3, .iload_n 1, 0, 0, 0, 0), (3, 5, .istore 4, 0, 0, 0, 0), (5, 7, .iload 4, 0, 0, 0, 0), (7, 8, .iload_n 2, 0, 0, 0, 0), (8, 11, .if_icmp .gt 178, 0, 186, 0, 0), (11, 12, .iconst 0, 0, 0, 0, 0), (12, 13, .istore_n 3, 0, 0, 0, 0), (13, 14, .iconst 0, 0, 0, 0, 0), (14, 16, .istore 5, 0, 0, 0, 0), (16, 18, .iload 5, 0, 0, 0, 0), (18, 19, .aload_n 0, 0, 0, 0, 0), (19, 22, .getfield 158, 102, 7, 18, 0), (22, 25, .if_icmp .ge 126, 0, 148, 0, 0), (25, 27, .iload 4, 0, 0, 0, 0), (27, 28, .iload_n 1, 0, 0, 0, 0), (28, 31, .if_icmp .ne 7, 0, 35, 0, 0), (31, 32, .iconst 1, 0, 0, 0, 0), (32, 35, .goto 4, 0, 36, 0, 0), (35, 36, .iconst 0, 0, 0, 0, 0), (36, 38, .istore 6, 0, 0, 0, 0), (38, 39, .iconst 0, 0, 0, 0, 0), (39, 41, .istore 7, 0, 0, 0, 0), (41, 43, .iload 7, 0, 0, 0, 0), (43, 44, .aload_n 0, 0, 0, 0, 0), (44, 47, .getfield 158, 102, 7, 18, 0), (47, 50, .if_icmp .ge 47, 0, 94, 0, 0), (50, 52, .iload 6, 0, 0, 0, 0), (52, 55, .ifCond .ne 42, 0, 94, 0, 0), (55, 56, .aload_n 0, 0, 0, 0, 0), (56, 59, .getfield 41, 103, 7, 19, 0), (59, 61, .iload 7, 0, 0, 0, 0), (61, 62, .baload, 0, 0, 0, 0), (62, 65, .ifCond .eq 23, 0, 85, 0, 0), (65, 66, .aload_n 0, 0, 0, 0, 0), (66, 69, .getfield 38, 101, 7, 17, 0), (69, 71, .bipush 40, 0, 0, 0, 0), (71, 73, .iload 7, 0, 0, 0, 0), (73, 74, .imul, 0, 0, 0, 0), (74, 76, .iload 5, 0, 0, 0, 0), (76, 77, .iadd, 0, 0, 0, 0), (77, 78, .baload, 0, 0, 0, 0), (78, 81, .ifCond .eq 7, 0, 85, 0, 0), (81, 82, .iconst 1, 0, 0, 0, 0), (82, 85, .goto 4, 0, 86, 0, 0), (85, 86, .iconst 0, 0, 0, 0, 0), (86, 88, .istore 6, 0, 0, 0, 0), (88, 91, .iinc 7 1, 0, 0, 0, 0), (91, 94, .goto (-50), 0, 41, 0, 0), (94, 95, .aload_n 0, 0, 0, 0, 0), (95, 98, .getfield 44, 104, 7, 20, 0), (98, 100, .iload 5, 0, 0, 0, 0), (100, 102, .iload 6, 0, 0, 0, 0), (102, 105, .ifCond .eq 18, 0, 120, 0, 0), (105, 106, .aload_n 0, 0, 0, 0, 0), (106, 108, .iload 4, 0, 0, 0, 0), (108, 110, .iload 5, 0, 0, 0, 0), (110, 113, .invokevirtual 171, 187, 143, 0, 0), (113, 116, .ifCond .eq 7, 0, 120, 0, 0), (116, 117, .iconst 1, 0, 0, 0, 0), (117, 120, .goto 4, 0, 121, 0, 0), (120, 121, .iconst 0, 0, 0, 0, 0), (121, 122, .bastore, 0, 0, 0, 0), (122, 123, .iload_n 3, 0, 0, 0, 0), (123, 126, .ifCond .ne 13, 0, 136, 0, 0), (126, 127, .aload_n 0, 0, 0, 0, 0), (127, 130, .getfield 44, 104, 7, 20, 0), (130, 132, .iload 5, 0, 0, 0, 0), (132, 133, .baload, 0, 0, 0, 0), (133, 136, .ifCond .eq 7, 0, 140, 0, 0), (136, 137, .iconst 1, 0, 0, 0, 0), (137, 140, .goto 4, 0, 141, 0, 0), (140, 141, .iconst 0, 0, 0, 0, 0), (141, 142, .istore_n 3, 0, 0, 0, 0), (142, 145, .iinc 5 1, 0, 0, 0, 0), (145, 148, .goto (-129), 0, 16, 0, 0), (148, 149, .iconst 0, 0, 0, 0, 0), (149, 151, .istore 5, 0, 0, 0, 0), (151, 153, .iload 5, 0, 0, 0, 0), (153, 154, .aload_n 0, 0, 0, 0, 0), (154, 157, .getfield 158, 102, 7, 18, 0), (157, 160, .if_icmp .ge 23, 0, 180, 0, 0), (160, 161, .aload_n 0, 0, 0, 0, 0), (161, 164, .getfield 41, 103, 7, 19, 0), (164, 166, .iload 5, 0, 0, 0, 0), (166, 167, .aload_n 0, 0, 0, 0, 0), (167, 170, .getfield 44, 104, 7, 20, 0), (170, 172, .iload 5, 0, 0, 0, 0), (172, 173, .baload, 0, 0, 0, 0), (173, 174, .bastore, 0, 0, 0, 0), (174, 177, .iinc 5 1, 0, 0, 0, 0), (177, 180, .goto (-26), 0, 151, 0, 0), (180, 183, .iinc 4 1, 0, 0, 0, 0), (183, 186, .goto (-178), 0, 5, 0, 0), (186, 187, .iload_n 3, 0, 0, 0, 0), (187, 188, .ireturn, 0, 0, 0, 0)]
def cd_145 : List (Nat × Nat × gm_I) := [(0, 1, .aload_n 0, 0, 0, 0, 0), (1, 2, .iconst 0, 0, 0, 0, 0), (2, 3, .aload_n 0, 0, 0, 0, 0), (3, 6, .getfield 77, 89, 7, 5, 0), (6, 7, .iconst 1, 0, 0, 0, 0), (7, 8, .isub, 0, 0, 0, 0), (8, 11, .invokevirtual 174, 186, 144, 0, 0), (11, 12, .ireturn, 0, 0, 0, 0)]
def cd_146 : List (Nat × Nat × gm_I) := [(0, 1, .aload_n 0, 0, 0, 0, 0), (1, 4, .invokevirtual 177, 181, 142, 0, 0), (4, 5, .aload_n 0, 0, 0, 0, 0), (5, 8, .invokevirtual 180, 185, 145, 0, 0), (8, 11, .ifCond .eq 7, 0, 15, 0, 0), (11, 12, .iconst 1, 0, 0, 0, 0), (12, 15, .goto 4, 0, 16, 0, 0), (15, 16, .iconst 0, 0, 0, 0, 0), (16, 17, .ireturn, 0, 0, 0, 0)]
def cd_147 : List (Nat × Nat × gm_I) := [(0, 1, .aload_n 0, 0, 0, 0, 0), (1, 4, .getfield 137, 95, 7, 11, 0), (4, 7, .ifCond .eq 16, 0, 20, 0, 0), (7, 8, .aload_n 0, 0, 0, 0, 0), (8, 11, .getfield 25, 96, 7, 12, 0), (11, 12, .iload_n 1, 0, 0, 0, 0), (12, 13, .iaload, 0, 0, 0, 0), (13, 14, .iload_n 2, 0, 0, 0, 0), (14, 17, .invokestatic 161, 183, 140, 0, 0), (17, 20, .goto 4, 0, 21, 0, 0), (20, 21, .iload_n 2, 0, 0, 0, 0), (21, 22, .ireturn, 0, 0, 0, 0)]
def cd_148 : List (Nat × Nat × gm_I) := [(0, 1, .iconst 0, 0, 0, 0, 0), (1, 2, .istore_n 3, 0, 0, 0, 0), (2, 3, .iconst 0, 0, 0, 0, 0), (3, 5, .istore 4, 0, 0, 0, 0), (5, 7, .iload 4, 0, 0, 0, 0), (7, 8, .aload_n 0, 0, 0, 0, 0), (8, 11, .getfield 84, 91, 7, 7, 0), (11, 14, .if_icmp .ge 33, 0, 44, 0, 0), (14, 15, .iload_n 3, 0, 0, 0, 0), (15, 16, .aload_n 0, 0, 0, 0, 0), (16, 17, .iload_n 1, 0, 0, 0, 0), (17, 19, .iload 4, 0, 0, 0, 0), (19, 22, .invokevirtual 184, 191, 147, 0, 0), (22, 23, .iload_n 2, 0, 0, 0, 0), (23, 25, .iload 4, 0, 0, 0, 0), (25, 28, .invokestatic 161, 183, 140, 0, 0), (28, 31, .if_icmp .ne 7, 0, 35, 0, 0), (31, 32, .iconst 0, 0, 0, 0, 0), (32, 35, .goto 4, 0, 36, 0, 0), (35, 36, .iconst 1, 0, 0, 0, 0), (36, 37, .iadd, 0, 0, 0, 0), (37, 38, .istore_n 3, 0, 0, 0, 0), (38, 41, .iinc 4 1, 0, 0, 0, 0), (41, 44, .goto (-36), 0, 5, 0, 0), (44, 45, .iload_n 3, 0, 0, 0, 0), (45, 46, .ireturn, 0, 0, 0, 0)]
def cd_149 : List (Nat × Nat × gm_I) := [(0, 2, .ldc 187, 8, 0, 0, 1000000), (2, 3, .istore_n 1, 0, 0, 0, 0), (3, 4, .aload_n 0, 0, 0, 0, 0), (4, 7, .getfield 77, 89, 7, 5, 0), (7, 8, .iconst 1, 0, 0, 0, 0), (8, 9, .isub, 0, 0, 0, 0), (9, 10, .istore_n 2, 0, 0, 0, 0), (10, 11, .iload_n 2, 0, 0, 0, 0), (11, 14, .ifCond .lt 178, 0, 189, 0, 0), (14, 16, .ldc 187, 8, 0, 0, 1000000), (16, 17, .istore_n 1, 0, 0, 0, 0), (17, 18, .iconst 0, 0, 0, 0, 0), (18, 19, .istore_n 3, 0, 0, 0, 0), (19, 20, .iload_n 3, 0, 0, 0, 0), (20, 21, .aload_n 0, 0, 0, 0, 0), (21, 24, .getfield 158, 102, 7, 18, 0), (24, 27, .if_icmp .ge 159, 0, 183, 0, 0), (27, 28, .iload_n 2, 0, 0, 0, 0), (28, 29, .aload_n 0, 0, 0, 0, 0), (29, 32, .getfield 77, 89, 7, 5, 0), (32, 33, .iconst 1, 0, 0, 0, 0), (33, 34, .isub, 0, 0, 0, 0), (34, 37, .if_icmp .ne 7, 0, 41, 0, 0), (37, 38, .iconst 0, 0, 0, 0, 0), (38, 41, .goto 5, 0, 43, 0, 0), (41, 43, .ldc 187, 8, 0, 0, 1000000), (43, 45, .istore 4, 0, 0, 0, 0), (45, 46, .iconst 0, 0, 0, 0, 0), (46, 48, .istore 5, 0, 0, 0, 0), (48, 50, .iload 5, 0, 0, 0, 0), (50, 51, .aload_n 0, 0, 0, 0, 0), (51, 54, .getfield 158, 102, 7, 18, 0), (54, 57, .if_icmp .ge 61, 0, 115, 0, 0), (57, 58, .iload_n 2, 0, 0, 0, 0), (58, 59, .aload_n 0, 0, 0, 0, 0), (59, 62, .getfield 77, 89, 7, 5, 0), (62, 63, .iconst 1, 0, 0, 0, 0), (63, 64, .isub, 0, 0, 0, 0), (64, 67, .if_icmp .ge 51, 0, 115, 0, 0), (67, 68, .aload_n 0, 0, 0, 0, 0), (68, 71, .getfield 38, 101, 7, 17, 0), (71, 73, .bipush 40, 0, 0, 0, 0), (73, 74, .iload_n 3, 0, 0, 0, 0), (74, 75, .imul, 0, 0, 0, 0), (75, 77, .iload 5, 0, 0, 0, 0), (77, 78, .iadd, 0, 0, 0, 0), (78, 79, .baload, 0, 0, 0, 0), (79, 82, .ifCond .eq 26, 0, 105, 0, 0), (82, 84, .iload 4, 0, 0, 0, 0), (84, 85, .aload_n 0, 0, 0, 0, 0), (85, 88, .getfield 47, 105, 7, 21, 0), (88, 90, .bipush 40, 0, 0, 0, 0), (90, 91, .iload_n 2, 0, 0, 0, 0), (91, 92, .imul, 0, 0, 0, 0), (92, 94, .bipush 40, 0, 0, 0, 0), (94, 95, .iadd, 0, 0, 0, 0), (95, 97, .iload 5, 0, 0, 0, 0), (97, 98, .iadd, 0, 0, 0, 0), (98, 99, .iaload, 0, 0, 0, 0), (99, 102, .invokestatic 134, 167, 117, 0, 0), (102, 105, .goto 5, 0, 107, 0, 0), (105, 107, .iload 4, 0, 0, 0, 0), (107, 109, .istore 4, 0, 0, 0, 0), (109, 112, .iinc 5 1, 0, 0, 0, 0), (112, 115, .goto (-64), 0, 48, 0, 0), (115, 116, .aload_n 0, 0, 0, 0, 0), (116, 119, .getfield 47, 105, 7, 21, 0), (119, 121, .bipush 40, 0, 0, 0, 0), (121, 122, .iload_n 2, 0, 0, 0, 0), (122, 123, .imul, 0, 0, 0, 0), (123, 124, .iload_n 3, 0, 0, 0, 0), (124, 125, .iadd, 0, 0, 0, 0), (125, 126, .aload_n 0, 0, 0, 0, 0), (126, 127, .iload_n 2, 0, 0, 0, 0), (127, 128, .iload_n 3, 0, 0, 0, 0), (128, 131, .invokevirtual 171, 187, 143, 0, 0), (131, 134, .ifCond .eq 27, 0, 158, 0, 0), (134, 136, .iload 4, 0, 0, 0, 0), (136, 138, .ldc 187, 8, 0, 0, 1000000), (138, 141, .if_icmp .ge 20, 0, 158, 0, 0), (141, 143, .iload 4, 0, 0, 0, 0), (143, 144, .aload_n 0, 0, 0, 0, 0), (144, 145, .iload_n 2, 0, 0, 0, 0), (145, 146, .aload_n 0, 0, 0, 0, 0), (146, 149, .getfield 28, 98, 7, 14, 0), (149, 150, .iload_n 3, 0, 0, 0, 0), (150, 151, .iaload, 0, 0, 0, 0), (151, 154, .invokevirtual 188, 190, 148, 0, 0), (154, 155, .iadd, 0, 0, 0, 0), (155, 158, .goto 5, 0, 160, 0, 0), (158, 160, .ldc 187, 8, 0, 0, 1000000), (160, 161, .iastore, 0, 0, 0, 0), (161, 162, .iload_n 1, 0, 0, 0, 0), (162, 163, .aload_n 0, 0, 0, 0, 0), (163, 166, .getfield 47, 105, 7, 21, 0), (166, 168, .bipush 40, 0, 0, 0, 0), (168, 169, .iload_n 2, 0, 0, 0, 0), (169, 170, .imul, 0, 0, 0, 0), (170, 171, .iload_n 3, 0, 0, 0, 0), (171, 172, .iadd, 0, 0, 0, 0), (172, 173, .iaload, 0, 0, 0, 0), (173, 176, .invokestatic 134, 167, 117, 0, 0), (176, 177, .istore_n 1, 0, 0, 0, 0), (177, 180, .iinc 3 1, 0, 0, 0, 0), (180, 183, .goto (-161), 0, 19, 0, 0), (183, 186, .iinc 2 (-1), 0, 0, 0, 0), (186, 189, .goto (-176), 0, 10, 0, 0), (189, 190, .iload_n 1, 0, 0, 0, 0), (190, 191, .ireturn, 0, 0, 0, 0)]
def cd_150 : List (Nat × Nat × gm_I) := [(0, 1, .iload_n 1, 0, 0, 0, 0), (1, 2, .istore_n 2, 0, 0, 0, 0), (2, 3, .iconst (-1), 0, 0, 0, 0), (3, 4, .istore_n 3, 0, 0, 0, 0), (4, 5, .iconst 0, 0, 0, 0, 0), (5, 7, .istore 4, 0, 0, 0, 0), (7, 9, .iload 4, 0, 0, 0, 0), (9, 10, .aload_n 0, 0, 0, 0, 0), (10, 13, .getfield 77, 89, 7, 5, 0), (13, 16, .if_icmp .ge 114, 0, 127, 0, 0), (16, 17, .iconst (-1), 0, 0, 0, 0), (17, 19, .istore 5, 0, 0, 0, 0), (19, 20, .iconst 0, 0, 0, 0, 0), (20, 22, .istore 6, 0, 0, 0, 0), (22, 24, .iload 6, 0, 0, 0, 0), (24, 25, .aload_n 0, 0, 0, 0, 0), (25, 28, .getfield 158, 102, 7, 18, 0), (28, 31, .if_icmp .ge 60, 0, 88, 0, 0), (31, 33, .iload 5, 0, 0, 0, 0), (33, 34, .iconst (-1), 0, 0, 0, 0), (34, 37, .if_icmp .ne 54, 0, 88, 0, 0), (37, 38, .aload_n 0, 0, 0, 0, 0), (38, 41, .getfield 47, 105, 7, 21, 0), (41, 43, .bipush 40, 0, 0, 0, 0), (43, 45, .iload 4, 0, 0, 0, 0), (45, 46, .imul, 0, 0, 0, 0), (46, 48, .iload 6, 0, 0, 0, 0), (48, 49, .iadd, 0, 0, 0, 0), (49, 50, .iaload, 0, 0, 0, 0), (50, 51, .iload_n 2, 0, 0, 0, 0), (51, 54, .if_icmp .ne 28, 0, 79, 0, 0), (54, 55, .iload_n 3, 0, 0, 0, 0), (55, 56, .iconst (-1), 0, 0, 0, 0), (56, 59, .if_icmp .eq 18, 0, 74, 0, 0), (59, 60, .aload_n 0, 0, 0, 0, 0), (60, 63, .getfield 38, 101, 7, 17, 0), (63, 65, .bipush 40, 0, 0, 0, 0), (65, 66, .iload_n 3, 0, 0, 0, 0), (66, 67, .imul, 0, 0, 0, 0), (67, 69, .iload 6, 0, 0, 0, 0), (69, 70, .iadd, 0, 0, 0, 0), (70, 71, .baload, 0, 0, 0, 0), (71, 74, .ifCond .eq 8, 0, 79, 0, 0), (74, 76, .iload 6, 0, 0, 0, 0), (76, 79, .goto 4, 0, 80, 0, 0), (79, 80, .iconst (-1), 0, 0, 0, 0), (80, 82, .istore 5, 0, 0, 0, 0), (82, 85, .iinc 6 1, 0, 0, 0, 0), (85, 88, .goto (-63), 0, 22, 0, 0), (88, 89, .aload_n 0, 0, 0, 0, 0), (89, 92, .getfield 50, 106, 7, 22, 0), (92, 94, .iload 4, 0, 0, 0, 0), (94, 95, .aload_n 0, 0, 0, 0, 0), (95, 98, .getfield 28, 98, 7, 14, 0), (98, 100, .iload 5, 0, 0, 0, 0), (100, 101, .iaload, 0, 0, 0, 0), (101, 102, .iastore, 0, 0, 0, 0), (102, 103, .iload_n 2, 0, 0, 0, 0), (103, 104, .aload_n 0, 0, 0, 0, 0), (104, 106, .iload 4, 0, 0, 0, 0), (106, 107, .aload_n 0, 0, 0, 0, 0), (107, 110, .getfield 28, 98, 7, 14, 0), (110, 112, .iload 5, 0, 0, 0, 0), (112, 113, .iaload, 0, 0, 0, 0), (113, 116, .invokevirtual 188, 190, 148, 0, 0), (116, 117, .isub, 0, 0, 0, 0), (117, 118, .istore_n 2, 0, 0, 0, 0), (118, 120, .iload 5, 0, 0, 0, 0), (120, 121, .istore_n 3, 0, 0, 0, 0), (121, 124, .iinc 4 1, 0, 0, 0, 0), (124, 127, .goto (-117), 0, 7, 0, 0), (127, 128, .return_, 0, 0, 0, 0)]
def cd_151 : List (Nat × Nat × gm_I) := [(0, 1, .aload_n 0, 0, 0, 0, 0), (1, 4, .invokevirtual 177, 181, 142, 0, 0), (4, 5, .aload_n 0, 0, 0, 0, 0), (5, 8, .invokevirtual 191, 189, 149, 0, 0), (8, 9, .istore_n 1, 0, 0, 0, 0), (9, 10, .iload_n 1, 0, 0, 0, 0), (10, 12, .ldc 187, 8, 0, 0, 1000000), (12, 15, .if_icmp .lt 6, 0, 18, 0, 0), (15, 17, .bipush (-3), 0, 0, 0, 0), (17, 18, .ireturn, 0, 0, 0, 0), (18, 19, .aload_n 0, 0, 0, 0, 0), (19, 20, .iload_n 1, 0, 0, 0, 0), (20, 23, .invokevirtual 194, 192, 150, 0, 0), (23, 24, .iconst 0, 0, 0, 0, 0), (24, 25, .istore_n 2, 0, 0, 0, 0), (25, 26, .iload_n 2, 0, 0, 0, 0), (26, 27, .aload_n 0, 0, 0, 0, 0), (27, 30, .getfield 77, 89, 7, 5, 0), (30, 33, .if_icmp .ge 21, 0, 51, 0, 0), (33, 34, .aload_n 0, 0, 0, 0, 0), (34, 37, .getfield 25, 96, 7, 12, 0), (37, 38, .iload_n 2, 0, 0, 0, 0), (38, 39, .aload_n 0, 0, 0, 0, 0), (39, 42, .getfield 50, 106, 7, 22, 0), (42, 43, .iload_n 2, 0, 0, 0, 0), (43, 44, .iaload, 0, 0, 0, 0), (44, 45, .iastore, 0, 0, 0, 0), (45, 48, .iinc 2 1, 0, 0, 0, 0), (48, 51, .goto (-23), 0, 25, 0, 0), (51, 52, .aload_n 0, 0, 0, 0, 0), (52, 53, .iconst 1, 0, 0, 0, 0), (53, 56, .putfield 137, 95, 7, 11, 0), (56, 57, .aload_n 0, 0, 0, 0, 0), (57, 58, .dup, 0, 0, 0, 0), (58, 61, .getfield 198, 97, 7, 13, 0), (61, 62, .iload_n 1, 0, 0, 0, 0), (62, 63, .iadd, 0, 0, 0, 0), (63, 66, .putfield 198, 97, 7, 13, 0), (66, 67, .iload_n 1, 0, 0, 0, 0), (67, 68, .ireturn, 0, 0, 0, 0)]
def cd_152 : List (Nat × Nat × gm_I) := [(0, 1, .aload_n 0, 0, 0, 0, 0), (1, 4, .invokevirtual 191, 189, 149, 0, 0), (4, 5, .istore_n 1, 0, 0, 0, 0), (5, 6, .iload_n 1, 0, 0, 0, 0), (6, 8, .ldc 187, 8, 0, 0, 1000000), (8, 11, .if_icmp .lt 7, 0, 15, 0, 0), (11, 12, .iconst (-1), 0, 0, 0, 0), (12, 15, .goto 4, 0, 16, 0, 0), (15, 16, .iload_n 1, 0, 0, 0, 0), (16, 17, .ireturn, 0, 0, 0, 0)]
def cd_153 : List (Nat × Nat × gm_I) := [(0, 1, .aload_n 0, 0, 0, 0, 0), (1, 4, .invokevirtual 177, 181, 142, 0, 0), (4, 5, .aload_n 0, 0, 0, 0, 0), (5, 8, .invokevirtual 201, 194, 152, 0, 0), (8, 9, .ireturn, 0, 0, 0, 0)]
def cd_154 : List (Nat × Nat × gm_I) := [(0, 1, .aload_n 0, 0, 0, 0, 0), (1, 2, .iload_n 1, 0, 0, 0, 0), (2, 5, .invokevirtual 125, 173, 129, 0, 0), (5, 8, .ifCond .eq 33, 0, 38, 0, 0), (8, 9, .iload_n 2, 0, 0, 0, 0), (9, 10, .i2l, 0, 0, 0, 0), (10, 11, .lconst 0, 0, 0, 0, 0), (11, 12, .iconst 1, 0, 0, 0, 0), (12, 13, .aload_n 0, 0, 0, 0, 0), (13, 16, .getfield 81, 90, 7, 6, 0), (16, 17, .ishl, 0, 0, 0, 0), (17, 18, .iconst 1, 0, 0, 0, 0), (18, 19, .isub, 0, 0, 0, 0), (19, 20, .i2l, 0, 0, 0, 0), (20, 23, .invokestatic 93, 158, 114, 0, 0), (23, 26, .ifCond .eq 15, 0, 38, 0, 0), (26, 27, .iload_n 2, 0, 0, 0, 0), (27, 28, .i2l, 0, 0, 0, 0), (28, 31, .invokestatic 128, 175, 119, 0, 0), (31, 32, .aload_n 0, 0, 0, 0, 0), (32, 35, .getfield 84, 91, 7, 7, 0), (35, 38, .if_icmp .eq 6, 0, 41, 0, 0), (38, 40, .bipush (-2), 0, 0, 0, 0), (40, 41, .ireturn, 0, 0, 0, 0), (41, 42, .aload_n 0, 0, 0, 0, 0), (42, 45, .getfield 137, 95, 7, 11, 0), (45, 48, .ifCond .ne 6, 0, 51, 0, 0), (48, 50, .bipush (-3), 0, 0, 0, 0), (50, 51, .ireturn, 0, 0, 0, 0), (51, 52, .aload_n 0, 0, 0, 0, 0), (52, 53, .iload_n 1, 0, 0, 0, 0), (53, 54, .iload_n 2, 0, 0, 0, 0), (54, 57, .invokevirtual 188, 190, 148, 0, 0), (57, 58, .istore_n 3, 0, 0, 0, 0), (58, 59, .aload_n 0, 0, 0, 0, 0), (59, 62, .getfield 25, 96, 7, 12, 0), (62, 63, .iload_n 1, 0, 0, 0, 0), (63, 64, .iload_n 2, 0, 0, 0, 0), (64, 65, .iastore, 0, 0, 0, 0), (65, 66, .iload_n 3, 0, 0, 0, 0), (66, 67, .ireturn, 0, 0, 0, 0)]
def cd_155 : List (Nat × Nat × gm_I) := [(0, 1, .aload_n 0, 0, 0, 0, 0), (1, 4, .getfield 137, 95, 7, 11, 0), (4, 7, .ifCond .eq 16, 0, 20, 0, 0), (7, 8, .aload_n 0, 0, 0, 0, 0), (8, 11, .getfield 25, 96, 7, 12, 0), (11, 12, .iload_n 1, 0, 0, 0, 0), (12, 13, .iaload, 0, 0, 0, 0), (13, 14, .iload_n 2, 0, 0, 0, 0), (14, 17, .invokestatic 161, 183, 140, 0, 0), (17, 20, .goto 4, 0, 21, 0, 0), (20, 21, .iconst (-1), 0, 0, 0, 0), (21, 22, .ireturn, 0, 0, 0, 0)]
def cd_156 : List (Nat × Nat × gm_I) := [(0, 1, .aload_n 0, 0, 0, 0, 0), (1, 2, .iload_n 1, 0, 0, 0, 0), (2, 5, .invokevirtual 125, 173, 129, 0, 0), (5, 8, .ifCond .eq 28, 0, 33, 0, 0), (8, 9, .iload_n 2, 0, 0, 0, 0), (9, 10, .i2l, 0, 0, 0, 0), (10, 11, .lconst 0, 0, 0, 0, 0), (11, 12, .aload_n 0, 0, 0, 0, 0), (12, 15, .getfield 84, 91, 7, 7, 0), (15, 16, .iconst 1, 0, 0, 0, 0), (16, 17, .isub, 0, 0, 0, 0), (17, 18, .i2l, 0, 0, 0, 0), (18, 21, .invokestatic 93, 158, 114, 0, 0), (21, 24, .ifCond .eq 12, 0, 33, 0, 0), (24, 25, .aload_n 0, 0, 0, 0, 0), (25, 26, .iload_n 1, 0, 0, 0, 0), (26, 27, .iload_n 2, 0, 0, 0, 0), (27, 30, .invokevirtual 204, 197, 155, 0, 0), (30, 33, .goto 5, 0, 35, 0, 0), (33, 35, .bipush (-2), 0, 0, 0, 0), (35, 36, .ireturn, 0, 0, 0, 0)]
def cd_157 : List (Nat × Nat × gm_I) := [(0, 1, .iconst 0, 0, 0, 0, 0), (1, 2, .istore_n 2, 0, 0, 0, 0), (2, 3, .iconst 0, 0, 0, 0, 0), (3, 4, .istore_n 3, 0, 0, 0, 0), (4, 5, .iload_n 3, 0, 0, 0, 0), (5, 6, .aload_n 0, 0, 0, 0, 0), (6, 9, .getfield 158, 102, 7, 18, 0), (9, 12, .if_icmp .ge 26, 0, 35, 0, 0), (12, 13, .iload_n 2, 0, 0, 0, 0), (13, 14, .aload_n 0, 0, 0, 0, 0), (14, 15, .iload_n 1, 0, 0, 0, 0), (15, 16, .iload_n 3, 0, 0, 0, 0), (16, 19, .invokevirtual 171, 187, 143, 0, 0), (19, 22, .ifCond .eq 7, 0, 26, 0, 0), (22, 23, .iconst 1, 0, 0, 0, 0), (23, 26, .goto 4, 0, 27, 0, 0), (26, 27, .iconst 0, 0, 0, 0, 0), (27, 28, .iadd, 0, 0, 0, 0), (28, 29, .istore_n 2, 0, 0, 0, 0), (29, 32, .iinc 3 1, 0, 0, 0, 0), (32, 35, .goto (-28), 0, 4, 0, 0), (35, 36, .iload_n 2, 0, 0, 0, 0), (36, 37, .ireturn, 0, 0, 0, 0)]
def cd_158 : List (Nat × Nat × gm_I) := [(0, 1, .aload_n 0, 0, 0, 0, 0), (1, 4, .invokevirtual 177, 181, 142, 0, 0), (4, 5, .aload_n 0, 0, 0, 0, 0), (5, 6, .iload_n 1, 0, 0, 0, 0), (6, 9, .invokevirtual 125, 173, 129, 0, 0), (9, 12, .ifCond .eq 11, 0, 20, 0, 0), (12, 13, .aload_n 0, 0, 0, 0, 0), (13, 14, .iload_n 1, 0, 0, 0, 0), (14, 17, .invokevirtual 207, 199, 157, 0, 0), (17, 20, .goto 5, 0, 22, 0, 0), (20, 22, .bipush (-2), 0, 0, 0, 0), (22, 23, .ireturn, 0, 0, 0, 0)]
def cd_159 : List (Nat × Nat × gm_I) := [(0, 1, .aload_n 0, 0, 0, 0, 0), (1, 4, .getfield 137, 95, 7, 11, 0), (4, 7, .ifCond .ne 5, 0, 9, 0, 0), (7, 8, .iconst (-1), 0, 0, 0, 0), (8, 9, .ireturn, 0, 0, 0, 0), (9, 10, .iconst 0, 0, 0, 0, 0), (10, 11, .istore_n 1, 0, 0, 0, 0), (11, 12, .iconst 0, 0, 0, 0, 0), (12, 13, .istore_n 2, 0, 0, 0, 0), (13, 14, .iload_n 2, 0, 0, 0, 0), (14, 15, .aload_n 0, 0, 0, 0, 0), (15, 18, .getfield 77, 89, 7, 5, 0), (18, 21, .if_icmp .ge 133, 0, 151, 0, 0), (21, 22, .iconst 0, 0, 0, 0, 0), (22, 23, .istore_n 3, 0, 0, 0, 0), (23, 24, .iload_n 3, 0, 0, 0, 0), (24, 25, .aload_n 0, 0, 0, 0, 0), (25, 28, .getfield 84, 91, 7, 7, 0), (28, 31, .if_icmp .ge 117, 0, 145, 0, 0), (31, 32, .aload_n 0, 0, 0, 0, 0), (32, 35, .getfield 25, 96, 7, 12, 0), (35, 36, .iload_n 2, 0, 0, 0, 0), (36, 37, .iaload, 0, 0, 0, 0), (37, 38, .iload_n 3, 0, 0, 0, 0), (38, 41, .invokestatic 161, 183, 140, 0, 0), (41, 43, .istore 4, 0, 0, 0, 0), (43, 44, .iload_n 1, 0, 0, 0, 0), (44, 45, .aload_n 0, 0, 0, 0, 0), (45, 48, .getfield 22, 94, 7, 10, 0), (48, 49, .iload_n 2, 0, 0, 0, 0), (49, 50, .iaload, 0, 0, 0, 0), (50, 51, .i2l, 0, 0, 0, 0), (51, 53, .iload 4, 0, 0, 0, 0), (53, 56, .invokestatic 97, 176, 116, 0, 0), (56, 59, .ifCond .eq 7, 0, 63, 0, 0), (59, 60, .iconst 1, 0, 0, 0, 0), (60, 63, .goto 4, 0, 64, 0, 0), (63, 64, .iconst 0, 0, 0, 0, 0), (64, 65, .iadd, 0, 0, 0, 0), (65, 66, .istore_n 1, 0, 0, 0, 0), (66, 67, .iload_n 1, 0, 0, 0, 0), (67, 68, .iload_n 3, 0, 0, 0, 0), (68, 71, .ifCond .le 31, 0, 99, 0, 0), (71, 73, .iload 4, 0, 0, 0, 0), (73, 74, .aload_n 0, 0, 0, 0, 0), (74, 77, .getfield 25, 96, 7, 12, 0), (77, 78, .iload_n 2, 0, 0, 0, 0), (78, 79, .iaload, 0, 0, 0, 0), (79, 80, .iload_n 3, 0, 0, 0, 0), (80, 81, .iconst 1, 0, 0, 0, 0), (81, 82, .isub, 0, 0, 0, 0), (82, 85, .invokestatic 161, 183, 140, 0, 0), (85, 86, .isub, 0, 0, 0, 0), (86, 87, .iconst 1, 0, 0, 0, 0), (87, 88, .isub, 0, 0, 0, 0), (88, 89, .aload_n 0, 0, 0, 0, 0), (89, 92, .getfield 87, 92, 7, 8, 0), (92, 95, .if_icmp .le 7, 0, 99, 0, 0), (95, 96, .iconst 1, 0, 0, 0, 0), (96, 99, .goto 4, 0, 100, 0, 0), (99, 100, .iconst 0, 0, 0, 0, 0), (100, 101, .iadd, 0, 0, 0, 0), (101, 102, .istore_n 1, 0, 0, 0, 0), (102, 103, .iload_n 1, 0, 0, 0, 0), (103, 104, .iload_n 2, 0, 0, 0, 0), (104, 107, .ifCond .le 32, 0, 136, 0, 0), (107, 109, .iload 4, 0, 0, 0, 0), (109, 110, .aload_n 0, 0, 0, 0, 0), (110, 113, .getfield 25, 96, 7, 12, 0), (113, 114, .iload_n 2, 0, 0, 0, 0), (114, 115, .iconst 1, 0, 0, 0, 0), (115, 116, .isub, 0, 0, 0, 0), (116, 117, .iaload, 0, 0, 0, 0), (117, 118, .iload_n 3, 0, 0, 0, 0), (118, 121, .invokestatic 161, 183, 140, 0, 0), (121, 122, .isub, 0, 0, 0, 0), (122, 125, .invokestatic 164, 184, 118, 0, 0), (125, 126, .aload_n 0, 0, 0, 0, 0), (126, 129, .getfield 87, 92, 7, 8, 0), (129, 132, .if_icmp .le 7, 0, 136, 0, 0), (132, 133, .iconst 1, 0, 0, 0, 0), (133, 136, .goto 4, 0, 137, 0, 0), (136, 137, .iconst 0, 0, 0, 0, 0), (137, 138, .iadd, 0, 0, 0, 0), (138, 139, .istore_n 1, 0, 0, 0, 0), (139, 142, .iinc 3 1, 0, 0, 0, 0), (142, 145, .goto (-119), 0, 23, 0, 0), (145, 148, .iinc 2 1, 0, 0, 0, 0), (148, 151, .goto (-135), 0, 13, 0, 0), (151, 152, .iload_n 1, 0, 0, 0, 0), (152, 153, .ireturn, 0, 0, 0, 0)]
def cd_160 : List (Nat × Nat × gm_I) := [(0, 1, .aload_n 0, 0, 0, 0, 0), (1, 4, .invokevirtual 210, 201, 159, 0, 0), (4, 5, .ireturn, 0, 0, 0, 0)]
def cd_161 : List (Nat × Nat × gm_I) := [(0, 1, .iconst 1, 0, 0, 0, 0), (1, 2, .istore_n 2, 0, 0, 0, 0), (2, 3, .iload_n 2, 0, 0, 0, 0), (3, 4, .aload_n 0, 0, 0, 0, 0), (4, 7, .getfield 77, 89, 7, 5, 0), (7, 10, .if_icmp .gt 54, 0, 61, 0, 0), (10, 11, .iconst 0, 0, 0, 0, 0), (11, 12, .istore_n 3, 0, 0, 0, 0), (12, 13, .iload_n 3, 0, 0, 0, 0), (13, 14, .iload_n 2, 0, 0, 0, 0), (14, 15, .iadd, 0, 0, 0, 0), (15, 16, .aload_n 0, 0, 0, 0, 0), (16, 19, .getfield 77, 89, 7, 5, 0), (19, 22, .if_icmp .gt 36, 0, 55, 0, 0), (22, 23, .aload_n 0, 0, 0, 0, 0), (23, 24, .iload_n 3, 0, 0, 0, 0), (24, 25, .iload_n 3, 0, 0, 0, 0), (25, 26, .iload_n 2, 0, 0, 0, 0), (26, 27, .iadd, 0, 0, 0, 0), (27, 28, .iconst 1, 0, 0, 0, 0), (28, 29, .isub, 0, 0, 0, 0), (29, 32, .invokevirtual 174, 186, 144, 0, 0), (32, 35, .ifCond .ne 17, 0, 49, 0, 0), (35, 36, .iload_n 1, 0, 0, 0, 0), (36, 39, .ifCond .ne 7, 0, 43, 0, 0), (39, 40, .iload_n 3, 0, 0, 0, 0), (40, 43, .goto 8, 0, 48, 0, 0), (43, 44, .iload_n 3, 0, 0, 0, 0), (44, 45, .iload_n 2, 0, 0, 0, 0), (45, 46, .iadd, 0, 0, 0, 0), (46, 47, .iconst 1, 0, 0, 0, 0), (47, 48, .isub, 0, 0, 0, 0), (48, 49, .ireturn, 0, 0, 0, 0), (49, 52, .iinc 3 1, 0, 0, 0, 0), (52, 55, .goto (-40), 0, 12, 0, 0), (55, 58, .iinc 2 1, 0, 0, 0, 0), (58, 61, .goto (-56), 0, 2, 0, 0), (61, 62, .iconst (-1), 0, 0, 0, 0), (62, 63, .ireturn, 0, 0, 0, 0)]
def cd_162 : List (Nat × Nat × gm_I) := [(0, 1, .aload_n 0, 0, 0, 0, 0), (1, 4, .invokevirtual 177, 181, 142, 0, 0), (4, 5, .iload_n 1, 0, 0, 0, 0), (5, 8, .invokestatic 213, 203, 115, 0, 0), (8, 11, .ifCond .eq 11, 0, 19, 0, 0), (11, 12, .aload_n 0, 0, 0, 0, 0), (12, 13, .iload_n 1, 0, 0, 0, 0), (13, 16, .invokevirtual 216, 204, 161, 0, 0), (16, 19, .goto 5, 0, 21, 0, 0), (19, 21, .bipush (-2), 0, 0, 0, 0), (21, 22, .ireturn, 0, 0, 0, 0)]
def cd_163 : List (Nat × Nat × gm_I) := [(0, 1, .aload_n 0, 0, 0, 0, 0), (1, 4, .invokevirtual 180, 185, 145, 0, 0), (4, 7, .ifCond .eq 5, 0, 9, 0, 0), (7, 8, .lconst 0, 0, 0, 0, 0), (8, 9, .lreturn, 0, 0, 0, 0), (9, 10, .lconst 0, 0, 0, 0, 0), (10, 11, .lstore_n 1, 0, 0, 0, 0), (11, 12, .lconst 0, 0, 0, 0, 0), (12, 13, .lstore_n 3, 0, 0, 0, 0), (13, 14, .iconst 0, 0, 0, 0, 0), (14, 16, .istore 5, 0, 0, 0, 0), (16, 18, .iload 5, 0, 0, 0, 0), (18, 19, .aload_n 0, 0, 0, 0, 0), (19, 22, .getfield 77, 89, 7, 5, 0), (22, 23, .aload_n 0, 0, 0, 0, 0), (23, 26, .getfield 81, 90, 7, 6, 0), (26, 27, .imul, 0, 0, 0, 0), (27, 30, .if_icmp .ge 116, 0, 143, 0, 0), (30, 32, .iload 5, 0, 0, 0, 0), (32, 33, .aload_n 0, 0, 0, 0, 0), (33, 36, .getfield 81, 90, 7, 6, 0), (36, 37, .irem, 0, 0, 0, 0), (37, 39, .istore 6, 0, 0, 0, 0), (39, 41, .iload 5, 0, 0, 0, 0), (41, 42, .aload_n 0, 0, 0, 0, 0), (42, 45, .getfield 81, 90, 7, 6, 0), (45, 46, .idiv, 0, 0, 0, 0), (46, 48, .istore 7, 0, 0, 0, 0), (48, 49, .aload_n 0, 0, 0, 0, 0), (49, 52, .getfield 22, 94, 7, 10, 0), (52, 54, .iload 7, 0, 0, 0, 0), (54, 55, .iaload, 0, 0, 0, 0), (55, 56, .i2l, 0, 0, 0, 0), (56, 58, .iload 6, 0, 0, 0, 0), (58, 61, .invokestatic 97, 176, 116, 0, 0), (61, 64, .ifCond .eq 76, 0, 137, 0, 0), (64, 65, .aload_n 0, 0, 0, 0, 0), (65, 67, .iload 6, 0, 0, 0, 0), (67, 69, .iload 7, 0, 0, 0, 0), (69, 70, .iconst 0, 0, 0, 0, 0), (70, 73, .invokevirtual 154, 178, 137, 0, 0), (73, 74, .aload_n 0, 0, 0, 0, 0), (74, 77, .invokevirtual 180, 185, 145, 0, 0), (77, 80, .ifCond .ne 7, 0, 84, 0, 0), (80, 81, .iconst 1, 0, 0, 0, 0), (81, 84, .goto 4, 0, 85, 0, 0), (84, 85, .iconst 0, 0, 0, 0, 0), (85, 87, .istore 8, 0, 0, 0, 0), (87, 88, .lload_n 3, 0, 0, 0, 0), (88, 90, .iload 8, 0, 0, 0, 0), (90, 93, .ifCond .eq 10, 0, 100, 0, 0), (93, 94, .lconst 1, 0, 0, 0, 0), (94, 96, .iload 5, 0, 0, 0, 0), (96, 97, .lshl, 0, 0, 0, 0), (97, 100, .goto 4, 0, 101, 0, 0), (100, 101, .lconst 0, 0, 0, 0, 0), (101, 102, .lor, 0, 0, 0, 0), (102, 103, .lstore_n 3, 0, 0, 0, 0), (103, 104, .lload_n 1, 0, 0, 0, 0), (104, 106, .iload 8, 0, 0, 0, 0), (106, 109, .ifCond .eq 7, 0, 113, 0, 0), (109, 110, .lconst 0, 0, 0, 0, 0), (110, 113, .goto 7, 0, 117, 0, 0), (113, 114, .lconst 1, 0, 0, 0, 0), (114, 116, .iload 5, 0, 0, 0, 0), (116, 117, .lshl, 0, 0, 0, 0), (117, 118, .lor, 0, 0, 0, 0), (118, 119, .lstore_n 1, 0, 0, 0, 0), (119, 120, .aload_n 0, 0, 0, 0, 0), (120, 122, .iload 6, 0, 0, 0, 0), (122, 124, .iload 7, 0, 0, 0, 0), (124, 126, .iload 8, 0, 0, 0, 0), (126, 129, .ifCond .ne 7, 0, 133, 0, 0), (129, 130, .iconst 1, 0, 0, 0, 0), (130, 133, .goto 4, 0, 134, 0, 0), (133, 134, .iconst 0, 0, 0, 0, 0), (134, 137, .invokevirtual 154, 178, 137, 0, 0), (137, 140, .iinc 5 1, 0, 0, 0, 0), (140, 143, .goto (-124), 0, 16, 0, 0), (143, 144, .iconst 0, 0, 0, 0, 0), (144, 146, .istore 5, 0, 0, 0, 0), (146, 148, .iload 5, 0, 0, 0, 0), (148, 149, .aload_n 0, 0, 0, 0, 0), (149, 152, .getfield 77, 89, 7, 5, 0), (152, 153, .aload_n 0, 0, 0, 0, 0), (153, 156, .getfield 81, 90, 7, 6, 0), (156, 157, .imul, 0, 0, 0, 0), (157, 160, .if_icmp .ge 35, 0, 192, 0, 0), (160, 161, .aload_n 0, 0, 0, 0, 0), (161, 163, .iload 5, 0, 0, 0, 0), (163, 164, .aload_n 0, 0, 0, 0, 0), (164, 167, .getfield 81, 90, 7, 6, 0), (167, 168, .irem, 0, 0, 0, 0), (168, 170, .iload 5, 0, 0, 0, 0), (170, 171, .aload_n 0, 0, 0, 0, 0), (171, 174, .getfield 81, 90, 7, 6, 0), (174, 175, .idiv, 0, 0, 0, 0), (175, 176, .lload_n 3, 0, 0, 0, 0), (176, 177, .lload_n 1, 0, 0, 0, 0), (177, 178, .lor, 0, 0, 0, 0), (178, 180, .iload 5, 0, 0, 0, 0), (180, 183, .invokestatic 97, 176, 116, 0, 0), (183, 186, .invokevirtual 154, 178, 137, 0, 0), (186, 189, .iinc 5 1, 0, 0, 0, 0), (189, 192, .goto (-43), 0, 146, 0, 0), (192, 193, .lload_n 1, 0, 0, 0, 0), (193, 194, .lreturn, 0, 0, 0, 0)]
def cd_164 : List (Nat × Nat × gm_I) := [(0, 1, .aload_n 0, 0, 0, 0, 0), (1, 4, .invokevirtual 180, 185, 145, 0, 0), (4, 7, .ifCond .ne 5, 0, 9, 0, 0), (7, 8, .lconst 0, 0, 0, 0, 0), (8, 9, .lreturn, 0, 0, 0, 0), (9, 10, .lconst 0, 0, 0, 0, 0), (10, 11, .lstore_n 1, 0, 0, 0, 0), (11, 12, .iconst 0, 0, 0, 0, 0), (12, 13, .istore_n 3, 0, 0, 0, 0), (13, 14, .iload_n 3, 0, 0, 0, 0), (14, 15, .aload_n 0, 0, 0, 0, 0), (15, 18, .getfield 77, 89, 7, 5, 0), (18, 19, .aload_n 0, 0, 0, 0, 0), (19, 22, .getfield 81, 90, 7, 6, 0), (22, 23, .imul, 0, 0, 0, 0), (23, 26, .if_icmp .ge 76, 0, 99, 0, 0), (26, 27, .iload_n 3, 0, 0, 0, 0), (27, 28, .aload_n 0, 0, 0, 0, 0), (28, 31, .getfield 81, 90, 7, 6, 0), (31, 32, .irem, 0, 0, 0, 0), (32, 34, .istore 4, 0, 0, 0, 0), (34, 35, .iload_n 3, 0, 0, 0, 0), (35, 36, .aload_n 0, 0, 0, 0, 0), (36, 39, .getfield 81, 90, 7, 6, 0), (39, 40, .idiv, 0, 0, 0, 0), (40, 42, .istore 5, 0, 0, 0, 0), (42, 43, .aload_n 0, 0, 0, 0, 0), (43, 46, .getfield 22, 94, 7, 10, 0), (46, 48, .iload 5, 0, 0, 0, 0), (48, 49, .iaload, 0, 0, 0, 0), (49, 50, .i2l, 0, 0, 0, 0), (50, 52, .iload 4, 0, 0, 0, 0), (52, 55, .invokestatic 97, 176, 116, 0, 0), (55, 58, .ifCond .ne 38, 0, 93, 0, 0), (58, 59, .aload_n 0, 0, 0, 0, 0), (59, 61, .iload 4, 0, 0, 0, 0), (61, 63, .iload 5, 0, 0, 0, 0), (63, 64, .iconst 1, 0, 0, 0, 0), (64, 67, .invokevirtual 154, 178, 137, 0, 0), (67, 68, .lload_n 1, 0, 0, 0, 0), (68, 69, .aload_n 0, 0, 0, 0, 0), (69, 72, .invokevirtual 180, 185, 145, 0, 0), (72, 75, .ifCond .eq 7, 0, 79, 0, 0), (75, 76, .lconst 0, 0, 0, 0, 0), (76, 79, .goto 6, 0, 82, 0, 0), (79, 80, .lconst 1, 0, 0, 0, 0), (80, 81, .iload_n 3, 0, 0, 0, 0), (81, 82, .lshl, 0, 0, 0, 0), (82, 83, .lor, 0, 0, 0, 0), (83, 84, .lstore_n 1, 0, 0, 0, 0), (84, 85, .aload_n 0, 0, 0, 0, 0), (85, 87, .iload 4, 0, 0, 0, 0), (87, 89, .iload 5, 0, 0, 0, 0), (89, 90, .iconst 0, 0, 0, 0, 0), (90, 93, .invokevirtual 154, 178, 137, 0, 0), (93, 96, .iinc 3 1, 0, 0, 0, 0), (96, 99, .goto (-83), 0, 13, 0, 0), (99, 100, .lload_n 1, 0, 0, 0, 0), (100, 101, .lreturn, 0, 0, 0, 0)]
def cd_165 : List (Nat × Nat × gm_I) := [(0, 1, .aload_n 0, 0, 0, 0, 0), (1, 4, .invokevirtual 177, 181, 142, 0, 0), (4, 5, .aload_n 0, 0, 0, 0, 0), (5, 8, .invokevirtual 219, 206, 163, 0, 0), (8, 11, .invokestatic 128, 175, 119, 0, 0), (11, 12, .ireturn, 0, 0, 0, 0)]
def cd_166 : List (Nat × Nat × gm_I) := [(0, 1, .aload_n 0, 0, 0, 0, 0), (1, 4, .invokevirtual 177, 181, 142, 0, 0), (4, 5, .aload_n 0, 0, 0, 0, 0), (5, 8, .invokevirtual 223, 208, 164, 0, 0), (8, 11, .invokestatic 128, 175, 119, 0, 0), (11, 12, .ireturn, 0, 0, 0, 0)]
def cd_167 : List (Nat × Nat × gm_I) := [(0, 1, .iconst (-1), 0, 0, 0, 0), (1, 2, .istore_n 2, 0, 0, 0, 0), (2, 3, .iconst 0, 0, 0, 0, 0), (3, 4, .istore_n 3, 0, 0, 0, 0), (4, 5, .iload_n 3, 0, 0, 0, 0), (5, 7, .bipush 7, 0, 0, 0, 0), (7, 10, .if_icmp .ge 78, 0, 85, 0, 0), (10, 11, .iload_n 2, 0, 0, 0, 0), (11, 12, .iconst (-1), 0, 0, 0, 0), (12, 15, .if_icmp .ne 73, 0, 85, 0, 0), (15, 16, .iload_n 1, 0, 0, 0, 0), (16, 19, .ifCond .ne 10, 0, 26, 0, 0), (19, 20, .aload_n 0, 0, 0, 0, 0), (20, 23, .getfield 84, 91, 7, 7, 0), (23, 26, .goto 9, 0, 32, 0, 0), (26, 27, .aload_n 0, 0, 0, 0, 0), (27, 30, .getfield 81, 90, 7, 6, 0), (30, 31, .iload_n 3, 0, 0, 0, 0), (31, 32, .isub, 0, 0, 0, 0), (32, 34, .istore 4, 0, 0, 0, 0), (34, 36, .iload 4, 0, 0, 0, 0), (36, 39, .ifCond .le 43, 0, 79, 0, 0), (39, 40, .aload_n 0, 0, 0, 0, 0), (40, 42, .iload 4, 0, 0, 0, 0), (42, 43, .iload_n 1, 0, 0, 0, 0), (43, 46, .ifCond .ne 7, 0, 50, 0, 0), (46, 47, .iload_n 3, 0, 0, 0, 0), (47, 50, .goto 7, 0, 54, 0, 0), (50, 51, .aload_n 0, 0, 0, 0, 0), (51, 54, .getfield 87, 92, 7, 8, 0), (54, 57, .invokevirtual 167, 182, 141, 0, 0), (57, 58, .aload_n 0, 0, 0, 0, 0), (58, 61, .invokevirtual 180, 185, 145, 0, 0), (61, 64, .ifCond .eq 16, 0, 77, 0, 0), (64, 65, .iload_n 1, 0, 0, 0, 0), (65, 68, .ifCond .ne 7, 0, 72, 0, 0), (68, 69, .iload_n 3, 0, 0, 0, 0), (69, 72, .goto 9, 0, 78, 0, 0), (72, 74, .iload 4, 0, 0, 0, 0), (74, 77, .goto 4, 0, 78, 0, 0), (77, 78, .iconst (-1), 0, 0, 0, 0), (78, 79, .istore_n 2, 0, 0, 0, 0), (79, 82, .iinc 3 1, 0, 0, 0, 0), (82, 85, .goto (-78), 0, 4, 0, 0), (85, 86, .aload_n 0, 0, 0, 0, 0), (86, 89, .invokevirtual 177, 181, 142, 0, 0), (89, 90, .iload_n 2, 0, 0, 0, 0), (90, 91, .ireturn, 0, 0, 0, 0)]
def cd_168 : List (Nat × Nat × gm_I) := [(0, 1, .iload_n 1, 0, 0, 0, 0), (1, 4, .invokestatic 213, 203, 115, 0, 0), (4, 7, .ifCond .eq 11, 0, 15, 0, 0), (7, 8, .aload_n 0, 0, 0, 0, 0), (8, 9, .iload_n 1, 0, 0, 0, 0), (9, 12, .invokevirtual 226, 210, 167, 0, 0), (12, 15, .goto 5, 0, 17, 0, 0), (15, 17, .bipush (-2), 0, 0, 0, 0), (17, 18, .ireturn, 0, 0, 0, 0)]
def cd_169 : List (Nat × Nat × gm_I) := [(0, 1, .iload_n 1, 0, 0, 0, 0), (1, 2, .aload_n 0, 0, 0, 0, 0), (2, 5, .getfield 81, 90, 7, 6, 0), (5, 6, .irem, 0, 0, 0, 0), (6, 7, .istore_n 2, 0, 0, 0, 0), (7, 8, .iload_n 1, 0, 0, 0, 0), (8, 9, .aload_n 0, 0, 0, 0, 0), (9, 12, .getfield 81, 90, 7, 6, 0), (12, 13, .idiv, 0, 0, 0, 0), (13, 14, .istore_n 3, 0, 0, 0, 0), (14, 15, .aload_n 0, 0, 0, 0, 0), (15, 18, .getfield 90, 93, 7, 9, 0), (18, 19, .i2l, 0, 0, 0, 0), (19, 20, .iconst 0, 0, 0, 0, 0), (20, 23, .invokestatic 97, 176, 116, 0, 0), (23, 26, .ifCond .eq 7, 0, 30, 0, 0), (26, 27, .iload_n 2, 0, 0, 0, 0), (27, 30, .ifCond .eq 63, 0, 90, 0, 0), (30, 31, .aload_n 0, 0, 0, 0, 0), (31, 34, .getfield 90, 93, 7, 9, 0), (34, 35, .i2l, 0, 0, 0, 0), (35, 36, .iconst 1, 0, 0, 0, 0), (36, 39, .invokestatic 97, 176, 116, 0, 0), (39, 42, .ifCond .eq 7, 0, 46, 0, 0), (42, 43, .iload_n 3, 0, 0, 0, 0), (43, 46, .ifCond .eq 47, 0, 90, 0, 0), (46, 47, .aload_n 0, 0, 0, 0, 0), (47, 50, .getfield 90, 93, 7, 9, 0), (50, 51, .i2l, 0, 0, 0, 0), (51, 52, .iconst 2, 0, 0, 0, 0), (52, 55, .invokestatic 97, 176, 116, 0, 0), (55, 58, .ifCond .eq 13, 0, 68, 0, 0), (58, 59, .iload_n 2, 0, 0, 0, 0), (59, 60, .aload_n 0, 0, 0, 0, 0), (60, 63, .getfield 81, 90, 7, 6, 0), (63, 64, .iconst 1, 0, 0, 0, 0), (64, 65, .isub, 0, 0, 0, 0), (65, 68, .if_icmp .eq 25, 0, 90, 0, 0), (68, 69, .aload_n 0, 0, 0, 0, 0), (69, 72, .getfield 90, 93, 7, 9, 0), (72, 73, .i2l, 0, 0, 0, 0), (73, 74, .iconst 3, 0, 0, 0, 0), (74, 77, .invokestatic 97, 176, 116, 0, 0), (77, 80, .ifCond .eq 17, 0, 94, 0, 0), (80, 81, .iload_n 3, 0, 0, 0, 0), (81, 82, .aload_n 0, 0, 0, 0, 0), (82, 85, .getfield 77, 89, 7, 5, 0), (85, 86, .iconst 1, 0, 0, 0, 0), (86, 87, .isub, 0, 0, 0, 0), (87, 90, .if_icmp .ne 7, 0, 94, 0, 0), (90, 91, .iconst 1, 0, 0, 0, 0), (91, 94, .goto 4, 0, 95, 0, 0), (94, 95, .iconst 0, 0, 0, 0, 0), (95, 96, .ireturn, 0, 0, 0, 0)]
def cd_170 : List (Nat × Nat × gm_I) := [(0, 1, .aload_n 0, 0, 0, 0, 0), (1, 4, .getfield 22, 94, 7, 10, 0), (4, 5, .iload_n 1, 0, 0, 0, 0), (5, 6, .aload_n 0, 0, 0, 0, 0), (6, 9, .getfield 81, 90, 7, 6, 0), (9, 10, .idiv, 0, 0, 0, 0), (10, 11, .iaload, 0, 0, 0, 0), (11, 12, .i2l, 0, 0, 0, 0), (12, 13, .iload_n 1, 0, 0, 0, 0), (13, 14, .aload_n 0, 0, 0, 0, 0), (14, 17, .getfield 81, 90, 7, 6, 0), (17, 18, .irem, 0, 0, 0, 0), (18, 21, .invokestatic 97, 176, 116, 0, 0), (21, 22, .ireturn, 0, 0, 0, 0)]
def cd_171 : List (Nat × Nat × gm_I) := [(0, 1, .iload_n 1, 0, 0, 0, 0), (1, 2, .aload_n 0, 0, 0, 0, 0), (2, 5, .getfield 81, 90, 7, 6, 0), (5, 6, .irem, 0, 0, 0, 0), (6, 7, .iload_n 2, 0, 0, 0, 0), (7, 10, .ifCond .ne 7, 0, 14, 0, 0), (10, 11, .iconst (-1), 0, 0, 0, 0), (11, 14, .goto 13, 0, 24, 0, 0), (14, 15, .iload_n 2, 0, 0, 0, 0), (15, 16, .iconst 2, 0, 0, 0, 0), (16, 19, .if_icmp .ne 7, 0, 23, 0, 0), (19, 20, .iconst 1, 0, 0, 0, 0), (20, 23, .goto 4, 0, 24, 0, 0), (23, 24, .iconst 0, 0, 0, 0, 0), (24, 25, .iadd, 0, 0, 0, 0), (25, 26, .istore_n 3, 0, 0, 0, 0), (26, 27, .iload_n 1, 0, 0, 0, 0), (27, 28, .aload_n 0, 0, 0, 0, 0), (28, 31, .getfield 81, 90, 7, 6, 0), (31, 32, .idiv, 0, 0, 0, 0), (32, 33, .iload_n 2, 0, 0, 0, 0), (33, 34, .iconst 1, 0, 0, 0, 0), (34, 37, .if_icmp .ne 7, 0, 41, 0, 0), (37, 38, .iconst (-1), 0, 0, 0, 0), (38, 41, .goto 13, 0, 51, 0, 0), (41, 42, .iload_n 2, 0, 0, 0, 0), (42, 43, .iconst 3, 0, 0, 0, 0), (43, 46, .if_icmp .ne 7, 0, 50, 0, 0), (46, 47, .iconst 1, 0, 0, 0, 0), (47, 50, .goto 4, 0, 51, 0, 0), (50, 51, .iconst 0, 0, 0, 0, 0), (51, 52, .iadd, 0, 0, 0, 0), (52, 54, .istore 4, 0, 0, 0, 0), (54, 55, .aload_n 0, 0, 0, 0, 0), (55, 56, .iload_n 3, 0, 0, 0, 0), (56, 58, .iload 4, 0, 0, 0, 0), (58, 61, .invokevirtual 143, 172, 130, 0, 0), (61, 64, .ifCond .eq 15, 0, 76, 0, 0), (64, 66, .iload 4, 0, 0, 0, 0), (66, 67, .aload_n 0, 0, 0, 0, 0), (67, 70, .getfield 81, 90, 7, 6, 0), (70, 71, .imul, 0, 0, 0, 0), (71, 72, .iload_n 3, 0, 0, 0, 0), (72, 73, .iadd, 0, 0, 0, 0), (73, 76, .goto 4, 0, 77, 0, 0), (76, 77, .iconst (-1), 0, 0, 0, 0), (77, 78, .ireturn, 0, 0, 0, 0)]
def cd_172 : List (Nat × Nat × gm_I) := [(0, 1, .aload_n 0, 0, 0, 0, 0), (1, 4, .getfield 59, 109, 7, 25, 0), (4, 5, .iload_n 1, 0, 0, 0, 0), (5, 6, .iaload, 0, 0, 0, 0), (6, 8, .bipush (-2), 0, 0, 0, 0), (8, 11, .if_icmp .ne 30, 0, 38, 0, 0), (11, 12, .aload_n 0, 0, 0, 0, 0), (12, 15, .getfield 59, 109, 7, 25, 0), (15, 16, .iload_n 1, 0, 0, 0, 0), (16, 17, .iload_n 2, 0, 0, 0, 0), (17, 18, .iastore, 0, 0, 0, 0), (18, 19, .aload_n 0, 0, 0, 0, 0), (19, 22, .getfield 62, 110, 7, 26, 0), (22, 23, .aload_n 0, 0, 0, 0, 0), (23, 26, .getfield 229, 111, 7, 27, 0), (26, 27, .iload_n 1, 0, 0, 0, 0), (27, 28, .iastore, 0, 0, 0, 0), (28, 29, .aload_n 0, 0, 0, 0, 0), (29, 30, .dup, 0, 0, 0, 0), (30, 33, .getfield 229, 111, 7, 27, 0), (33, 34, .iconst 1, 0, 0, 0, 0), (34, 35, .iadd, 0, 0, 0, 0), (35, 38, .putfield 229, 111, 7, 27, 0), (38, 39, .return_, 0, 0, 0, 0)]
def cd_173 : List (Nat × Nat × gm_I) := [(0, 1, .iload_n 1, 0, 0, 0, 0), (1, 2, .iconst 2, 0, 0, 0, 0), (2, 3, .idiv, 0, 0, 0, 0), (3, 4, .istore_n 2, 0, 0, 0, 0), (4, 5, .iload_n 1, 0, 0, 0, 0), (5, 6, .iconst 2, 0, 0, 0, 0), (6, 7, .irem, 0, 0, 0, 0), (7, 10, .ifCond .ne 77, 0, 84, 0, 0), (10, 11, .aload_n 0, 0, 0, 0, 0), (11, 14, .getfield 53, 107, 7, 23, 0), (14, 15, .iload_n 2, 0, 0, 0, 0), (15, 16, .baload, 0, 0, 0, 0), (16, 19, .ifCond .ne 11, 0, 27, 0, 0), (19, 20, .aload_n 0, 0, 0, 0, 0), (20, 21, .iload_n 1, 0, 0, 0, 0), (21, 22, .iconst 1, 0, 0, 0, 0), (22, 23, .iadd, 0, 0, 0, 0), (23, 24, .iload_n 1, 0, 0, 0, 0), (24, 27, .invokevirtual 232, 215, 172, 0, 0), (27, 28, .iconst 0, 0, 0, 0, 0), (28, 29, .istore_n 3, 0, 0, 0, 0), (29, 30, .iload_n 3, 0, 0, 0, 0), (30, 31, .iconst 4, 0, 0, 0, 0), (31, 34, .if_icmp .ge 52, 0, 83, 0, 0), (34, 35, .aload_n 0, 0, 0, 0, 0), (35, 36, .iload_n 2, 0, 0, 0, 0), (36, 37, .iload_n 3, 0, 0, 0, 0), (37, 40, .invokevirtual 235, 218, 171, 0, 0), (40, 42, .istore 4, 0, 0, 0, 0), (42, 44, .iload 4, 0, 0, 0, 0), (44, 45, .iconst (-1), 0, 0, 0, 0), (45, 48, .if_icmp .eq 32, 0, 77, 0, 0), (48, 49, .aload_n 0, 0, 0, 0, 0), (49, 52, .getfield 56, 108, 7, 24, 0), (52, 53, .iconst 4, 0, 0, 0, 0), (53, 55, .iload 4, 0, 0, 0, 0), (55, 56, .imul, 0, 0, 0, 0), (56, 57, .iload_n 3, 0, 0, 0, 0), (57, 58, .iconst 2, 0, 0, 0, 0), (58, 59, .iadd, 0, 0, 0, 0), (59, 60, .iconst 4, 0, 0, 0, 0), (60, 61, .irem, 0, 0, 0, 0), (61, 62, .iadd, 0, 0, 0, 0), (62, 63, .baload, 0, 0, 0, 0), (63, 66, .ifCond .eq 14, 0, 77, 0, 0), (66, 67, .aload_n 0, 0, 0, 0, 0), (67, 68, .iconst 2, 0, 0, 0, 0), (68, 70, .iload 4, 0, 0, 0, 0), (70, 71, .imul, 0, 0, 0, 0), (71, 72, .iconst 1, 0, 0, 0, 0), (72, 73, .iadd, 0, 0, 0, 0), (73, 74, .iload_n 1, 0, 0, 0, 0), (74, 77, .invokevirtual 232, 215, 172, 0, 0), (77, 80, .iinc 3 1, 0, 0, 0, 0), (80, 83, .goto (-51), 0, 29, 0, 0), (83, 84, .return_, 0, 0, 0, 0), (84, 85, .aload_n 0, 0, 0, 0, 0), (85, 88, .getfield 53, 107, 7, 23, 0), (88, 89, .iload_n 2, 0, 0, 0, 0), (89, 90, .baload, 0, 0, 0, 0), (90, 93, .ifCond .eq 11, 0, 101, 0, 0), (93, 94, .aload_n 0, 0, 0, 0, 0), (94, 95, .iload_n 1, 0, 0, 0, 0), (95, 96, .iconst 1, 0, 0, 0, 0), (96, 97, .isub, 0, 0, 0, 0), (97, 98, .iload_n 1, 0, 0, 0, 0), (98, 101, .invokevirtual 232, 215, 172, 0, 0), (101, 102, .iconst 0, 0, 0, 0, 0), (102, 103, .istore_n 3, 0, 0, 0, 0), (103, 104, .iload_n 3, 0, 0, 0, 0), (104, 105, .iconst 4, 0, 0, 0, 0), (105, 108, .if_icmp .ge 41, 0, 146, 0, 0), (108, 109, .aload_n 0, 0, 0, 0, 0), (109, 110, .iload_n 2, 0, 0, 0, 0), (110, 111, .iload_n 3, 0, 0, 0, 0), (111, 114, .invokevirtual 235, 218, 171, 0, 0), (114, 116, .istore 4, 0, 0, 0, 0), (116, 118, .iload 4, 0, 0, 0, 0), (118, 119, .iconst (-1), 0, 0, 0, 0), (119, 122, .if_icmp .eq 21, 0, 140, 0, 0), (122, 123, .aload_n 0, 0, 0, 0, 0), (123, 125, .iload 4, 0, 0, 0, 0), (125, 128, .invokevirtual 238, 214, 170, 0, 0), (128, 131, .ifCond .ne 12, 0, 140, 0, 0), (131, 132, .aload_n 0, 0, 0, 0, 0), (132, 133, .iconst 2, 0, 0, 0, 0), (133, 135, .iload 4, 0, 0, 0, 0), (135, 136, .imul, 0, 0, 0, 0), (136, 137, .iload_n 1, 0, 0, 0, 0), (137, 140, .invokevirtual 232, 215, 172, 0, 0), (140, 143, .iinc 3 1, 0, 0, 0, 0), (143, 146, .goto (-40), 0, 103, 0, 0), (146, 147, .return_, 0, 0, 0, 0)]
def cd_174 : List (Nat × Nat × gm_I) := [(0, 1, .aload_n 0, 0, 0, 0, 0), (1, 2, .iconst 0, 0, 0, 0, 0), (2, 5, .putfield 229, 111, 7, 27, 0), (5, 6, .iconst 0, 0, 0, 0, 0), (6, 7, .istore_n 1, 0, 0, 0, 0), (7, 8, .iload_n 1, 0, 0, 0, 0), (8, 10, .bipush 98, 0, 0, 0, 0), (10, 13, .if_icmp .ge 17, 0, 27, 0, 0), (13, 14, .aload_n 0, 0, 0, 0, 0), (14, 17, .getfield 59, 109, 7, 25, 0), (17, 18, .iload_n 1, 0, 0, 0, 0), (18, 20, .bipush (-2), 0, 0, 0, 0), (20, 21, .iastore, 0, 0, 0, 0), (21, 24, .iinc 1 1, 0, 0, 0, 0), (24, 27, .goto (-17), 0, 7, 0, 0), (27, 28, .iconst 0, 0, 0, 0, 0), (28, 29, .istore_n 1, 0, 0, 0, 0), (29, 30, .iload_n 1, 0, 0, 0, 0), (30, 31, .aload_n 0, 0, 0, 0, 0), (31, 34, .getfield 77, 89, 7, 5, 0), (34, 35, .aload_n 0, 0, 0, 0, 0), (35, 38, .getfield 81, 90, 7, 6, 0), (38, 39, .imul, 0, 0, 0, 0), (39, 42, .if_icmp .ge 25, 0, 64, 0, 0), (42, 43, .aload_n 0, 0, 0, 0, 0), (43, 44, .iload_n 1, 0, 0, 0, 0), (44, 47, .invokevirtual 238, 214, 170, 0, 0), (47, 50, .ifCond .eq 11, 0, 58, 0, 0), (50, 51, .aload_n 0, 0, 0, 0, 0), (51, 52, .iconst 2, 0, 0, 0, 0), (52, 53, .iload_n 1, 0, 0, 0, 0), (53, 54, .imul, 0, 0, 0, 0), (54, 55, .iconst (-1), 0, 0, 0, 0), (55, 58, .invokevirtual 232, 215, 172, 0, 0), (58, 61, .iinc 1 1, 0, 0, 0, 0), (61, 64, .goto (-32), 0, 29, 0, 0), (64, 65, .iconst 0, 0, 0, 0, 0), (65, 66, .istore_n 1, 0, 0, 0, 0), (66, 67, .iload_n 1, 0, 0, 0, 0), (67, 68, .aload_n 0, 0, 0, 0, 0), (68, 71, .getfield 229, 111, 7, 27, 0), (71, 74, .if_icmp .ge 40, 0, 111, 0, 0), (74, 75, .aload_n 0, 0, 0, 0, 0), (75, 78, .getfield 62, 110, 7, 26, 0), (78, 79, .iload_n 1, 0, 0, 0, 0), (79, 80, .iaload, 0, 0, 0, 0), (80, 81, .istore_n 2, 0, 0, 0, 0), (81, 82, .iload_n 2, 0, 0, 0, 0), (82, 83, .iconst 2, 0, 0, 0, 0), (83, 84, .irem, 0, 0, 0, 0), (84, 85, .iconst 1, 0, 0, 0, 0), (85, 88, .if_icmp .ne 15, 0, 100, 0, 0), (88, 89, .aload_n 0, 0, 0, 0, 0), (89, 90, .iload_n 2, 0, 0, 0, 0), (90, 91, .iconst 2, 0, 0, 0, 0), (91, 92, .idiv, 0, 0, 0, 0), (92, 95, .invokevirtual 241, 216, 169, 0, 0), (95, 98, .ifCond .eq 5, 0, 100, 0, 0), (98, 99, .iload_n 2, 0, 0, 0, 0), (99, 100, .ireturn, 0, 0, 0, 0), (100, 101, .aload_n 0, 0, 0, 0, 0), (101, 102, .iload_n 2, 0, 0, 0, 0), (102, 105, .invokevirtual 244, 217, 173, 0, 0), (105, 108, .iinc 1 1, 0, 0, 0, 0), (108, 111, .goto (-42), 0, 66, 0, 0), (111, 112, .iconst (-1), 0, 0, 0, 0), (112, 113, .ireturn, 0, 0, 0, 0)]
def cd_175 : List (Nat × Nat × gm_I) := [(0, 1, .iload_n 1, 0, 0, 0, 0), (1, 2, .iconst 2, 0, 0, 0, 0), (2, 3, .idiv, 0, 0, 0, 0), (3, 4, .istore_n 3, 0, 0, 0, 0), (4, 5, .iload_n 2, 0, 0, 0, 0), (5, 6, .iconst 2, 0, 0, 0, 0), (6, 7, .idiv, 0, 0, 0, 0), (7, 9, .istore 4, 0, 0, 0, 0), (9, 10, .iload_n 3, 0, 0, 0, 0), (10, 12, .iload 4, 0, 0, 0, 0), (12, 15, .if_icmp .ne 21, 0, 33, 0, 0), (15, 16, .aload_n 0, 0, 0, 0, 0), (16, 19, .getfield 53, 107, 7, 23, 0), (19, 20, .iload_n 3, 0, 0, 0, 0), (20, 21, .iload_n 1, 0, 0, 0, 0), (21, 22, .iconst 2, 0, 0, 0, 0), (22, 23, .irem, 0, 0, 0, 0), (23, 26, .ifCond .ne 7, 0, 30, 0, 0), (26, 27, .iconst 1, 0, 0, 0, 0), (27, 30, .goto 4, 0, 31, 0, 0), (30, 31, .iconst 0, 0, 0, 0, 0), (31, 32, .bastore, 0, 0, 0, 0), (32, 33, .return_, 0, 0, 0, 0), (33, 34, .iconst 0, 0, 0, 0, 0), (34, 36, .istore 5, 0, 0, 0, 0), (36, 38, .iload 5, 0, 0, 0, 0), (38, 39, .iconst 4, 0, 0, 0, 0), (39, 42, .if_icmp .ge 74, 0, 113, 0, 0), (42, 43, .iload_n 1, 0, 0, 0, 0), (43, 44, .iconst 2, 0, 0, 0, 0), (44, 45, .irem, 0, 0, 0, 0), (45, 46, .iconst 1, 0, 0, 0, 0), (46, 49, .if_icmp .ne 30, 0, 76, 0, 0), (49, 50, .aload_n 0, 0, 0, 0, 0), (50, 51, .iload_n 3, 0, 0, 0, 0), (51, 53, .iload 5, 0, 0, 0, 0), (53, 56, .invokevirtual 235, 218, 171, 0, 0), (56, 58, .iload 4, 0, 0, 0, 0), (58, 61, .if_icmp .ne 18, 0, 76, 0, 0), (61, 62, .aload_n 0, 0, 0, 0, 0), (62, 65, .getfield 56, 108, 7, 24, 0), (65, 66, .iconst 4, 0, 0, 0, 0), (66, 67, .iload_n 3, 0, 0, 0, 0), (67, 68, .imul, 0, 0, 0, 0), (68, 70, .iload 5, 0, 0, 0, 0), (70, 71, .iadd, 0, 0, 0, 0), (71, 72, .iconst 1, 0, 0, 0, 0), (72, 73, .bastore, 0, 0, 0, 0), (73, 76, .goto 34, 0, 107, 0, 0), (76, 77, .iload_n 1, 0, 0, 0, 0), (77, 78, .iconst 2, 0, 0, 0, 0), (78, 79, .irem, 0, 0, 0, 0), (79, 82, .ifCond .ne 28, 0, 107, 0, 0), (82, 83, .aload_n 0, 0, 0, 0, 0), (83, 85, .iload 4, 0, 0, 0, 0), (85, 87, .iload 5, 0, 0, 0, 0), (87, 90, .invokevirtual 235, 218, 171, 0, 0), (90, 91, .iload_n 3, 0, 0, 0, 0), (91, 94, .if_icmp .ne 16, 0, 107, 0, 0), (94, 95, .aload_n 0, 0, 0, 0, 0), (95, 98, .getfield 56, 108, 7, 24, 0), (98, 99, .iconst 4, 0, 0, 0, 0), (99, 101, .iload 4, 0, 0, 0, 0), (101, 102, .imul, 0, 0, 0, 0), (102, 104, .iload 5, 0, 0, 0, 0), (104, 105, .iadd, 0, 0, 0, 0), (105, 106, .iconst 0, 0, 0, 0, 0), (106, 107, .bastore, 0, 0, 0, 0), (107, 110, .iinc 5 1, 0, 0, 0, 0), (110, 113, .goto (-74), 0, 36, 0, 0), (113, 114, .return_, 0, 0, 0, 0)]
def cd_176 : List (Nat × Nat × gm_I) := [(0, 1, .iconst 0, 0, 0, 0, 0), (1, 2, .istore_n 1, 0, 0, 0, 0), (2, 3, .iload_n 1, 0, 0, 0, 0), (3, 5, .bipush 49, 0, 0, 0, 0), (5, 8, .if_icmp .ge 16, 0, 21, 0, 0), (8, 9, .aload_n 0, 0, 0, 0, 0), (9, 12, .getfield 53, 107, 7, 23, 0), (12, 13, .iload_n 1, 0, 0, 0, 0), (13, 14, .iconst 0, 0, 0, 0, 0), (14, 15, .bastore, 0, 0, 0, 0), (15, 18, .iinc 1 1, 0, 0, 0, 0), (18, 21, .goto (-16), 0, 2, 0, 0), (21, 22, .iconst 0, 0, 0, 0, 0), (22, 23, .istore_n 1, 0, 0, 0, 0), (23, 24, .iload_n 1, 0, 0, 0, 0), (24, 27, .sipush 196, 0, 0, 0, 0), (27, 30, .if_icmp .ge 16, 0, 43, 0, 0), (30, 31, .aload_n 0, 0, 0, 0, 0), (31, 34, .getfield 56, 108, 7, 24, 0), (34, 35, .iload_n 1, 0, 0, 0, 0), (35, 36, .iconst 0, 0, 0, 0, 0), (36, 37, .bastore, 0, 0, 0, 0), (37, 40, .iinc 1 1, 0, 0, 0, 0), (40, 43, .goto (-17), 0, 23, 0, 0), (43, 44, .iconst 0, 0, 0, 0, 0), (44, 45, .istore_n 1, 0, 0, 0, 0), (45, 46, .aload_n 0, 0, 0, 0, 0), (46, 49, .invokevirtual 247, 213, 174, 0, 0), (49, 50, .istore_n 2, 0, 0, 0, 0), (50, 51, .iconst 0, 0, 0, 0, 0), (51, 52, .istore_n 3, 0, 0, 0, 0), (52, 53, .iload_n 3, 0, 0, 0, 0), (53, 55, .bipush 50, 0, 0, 0, 0), (55, 58, .if_icmp .ge 74, 0, 129, 0, 0), (58, 59, .iload_n 2, 0, 0, 0, 0), (59, 60, .iconst (-1), 0, 0, 0, 0), (60, 63, .if_icmp .eq 69, 0, 129, 0, 0), (63, 64, .iload_n 2, 0, 0, 0, 0), (64, 66, .istore 4, 0, 0, 0, 0), (66, 67, .iconst 0, 0, 0, 0, 0), (67, 69, .istore 5, 0, 0, 0, 0), (69, 71, .iload 5, 0, 0, 0, 0), (71, 73, .bipush 98, 0, 0, 0, 0), (73, 76, .if_icmp .ge 42, 0, 115, 0, 0), (76, 77, .aload_n 0, 0, 0, 0, 0), (77, 80, .getfield 59, 109, 7, 25, 0), (80, 82, .iload 4, 0, 0, 0, 0), (82, 83, .iaload, 0, 0, 0, 0), (83, 84, .iconst (-1), 0, 0, 0, 0), (84, 87, .if_icmp .eq 31, 0, 115, 0, 0), (87, 88, .aload_n 0, 0, 0, 0, 0), (88, 89, .aload_n 0, 0, 0, 0, 0), (89, 92, .getfield 59, 109, 7, 25, 0), (92, 94, .iload 4, 0, 0, 0, 0), (94, 95, .iaload, 0, 0, 0, 0), (95, 97, .iload 4, 0, 0, 0, 0), (97, 100, .invokevirtual 250, 219, 175, 0, 0), (100, 101, .aload_n 0, 0, 0, 0, 0), (101, 104, .getfield 59, 109, 7, 25, 0), (104, 106, .iload 4, 0, 0, 0, 0), (106, 107, .iaload, 0, 0, 0, 0), (107, 109, .istore 4, 0, 0, 0, 0), (109, 112, .iinc 5 1, 0, 0, 0, 0), (112, 115, .goto (-43), 0, 69, 0, 0), (115, 118, .iinc 1 1, 0, 0, 0, 0), (118, 119, .aload_n 0, 0, 0, 0, 0), (119, 122, .invokevirtual 247, 213, 174, 0, 0), (122, 123, .istore_n 2, 0, 0, 0, 0), (123, 126, .iinc 3 1, 0, 0, 0, 0), (126, 129, .goto (-74), 0, 52, 0, 0), (129, 130, .iload_n 1, 0, 0, 0, 0), (130, 131, .ireturn, 0, 0, 0, 0)]
def cd_177 : List (Nat × Nat × gm_I) := [(0, 1, .aload_n 0, 0, 0, 0, 0), (1, 4, .invokevirtual 253, 212, 176, 0, 0), (4, 5, .ireturn, 0, 0, 0, 0)]
def cd_178 : List (Nat × Nat × gm_I) := [(0, 1, .aload_n 0, 0, 0, 0, 0), (1, 4, .invokevirtual 253, 212, 176, 0, 0), (4, 5, .pop, 0, 0, 0, 0), (5, 6, .lconst 0, 0, 0, 0, 0), (6, 7, .lstore_n 1, 0, 0, 0, 0), (7, 8, .iconst 0, 0, 0, 0, 0), (8, 9, .istore_n 3, 0, 0, 0, 0), (9, 10, .iload_n 3, 0, 0, 0, 0), (10, 11, .aload_n 0, 0, 0, 0, 0), (11, 14, .getfield 77, 89, 7, 5, 0), (14, 15, .aload_n 0, 0, 0, 0, 0), (15, 18, .getfield 81, 90, 7, 6, 0), (18, 19, .imul, 0, 0, 0, 0), (19, 22, .if_icmp .ge 47, 0, 66, 0, 0), (22, 23, .lload_n 1, 0, 0, 0, 0), (23, 24, .aload_n 0, 0, 0, 0, 0), (24, 27, .getfield 59, 109, 7, 25, 0), (27, 28, .iconst 2, 0, 0, 0, 0), (28, 29, .iload_n 3, 0, 0, 0, 0), (29, 30, .imul, 0, 0, 0, 0), (30, 31, .iaload, 0, 0, 0, 0), (31, 33, .bipush (-2), 0, 0, 0, 0), (33, 36, .if_icmp .eq 24, 0, 57, 0, 0), (36, 37, .aload_n 0, 0, 0, 0, 0), (37, 40, .getfield 59, 109, 7, 25, 0), (40, 41, .iconst 2, 0, 0, 0, 0), (41, 42, .iload_n 3, 0, 0, 0, 0), (42, 43, .imul, 0, 0, 0, 0), (43, 44, .iconst 1, 0, 0, 0, 0), (44, 45, .iadd, 0, 0, 0, 0), (45, 46, .iaload, 0, 0, 0, 0), (46, 48, .bipush (-2), 0, 0, 0, 0), (48, 51, .if_icmp .ne 9, 0, 57, 0, 0), (51, 52, .lconst 1, 0, 0, 0, 0), (52, 53, .iload_n 3, 0, 0, 0, 0), (53, 54, .lshl, 0, 0, 0, 0), (54, 57, .goto 4, 0, 58, 0, 0), (57, 58, .lconst 0, 0, 0, 0, 0), (58, 59, .lor, 0, 0, 0, 0), (59, 60, .lstore_n 1, 0, 0, 0, 0), (60, 63, .iinc 3 1, 0, 0, 0, 0), (63, 66, .goto (-54), 0, 9, 0, 0), (66, 67, .lload_n 1, 0, 0, 0, 0), (67, 68, .lreturn, 0, 0, 0, 0)]
def cd_179 : List (Nat × Nat × gm_I) := [(0, 1, .aload_n 0, 0, 0, 0, 0), (1, 4, .invokevirtual 256, 221, 178, 0, 0), (4, 5, .lreturn, 0, 0, 0, 0)]
def cd_180 : List (Nat × Nat × gm_I) := [(0, 1, .iconst 0, 0, 0, 0, 0), (1, 2, .istore_n 3, 0, 0, 0, 0), (2, 3, .iload_n 3, 0, 0, 0, 0), (3, 4, .aload_n 0, 0, 0, 0, 0), (4, 7, .getfield 84, 91, 7, 7, 0), (7, 10, .if_icmp .ge 32, 0, 39, 0, 0), (10, 11, .aload_n 0, 0, 0, 0, 0), (11, 14, .getfield 137, 95, 7, 11, 0), (14, 17, .ifCond .eq 25, 0, 39, 0, 0), (17, 18, .aload_n 0, 0, 0, 0, 0), (18, 21, .getfield 25, 96, 7, 12, 0), (21, 22, .iload_n 2, 0, 0, 0, 0), (22, 23, .iaload, 0, 0, 0, 0), (23, 24, .iload_n 3, 0, 0, 0, 0), (24, 27, .invokestatic 161, 183, 140, 0, 0), (27, 28, .iload_n 1, 0, 0, 0, 0), (28, 31, .if_icmp .ne 5, 0, 33, 0, 0), (31, 32, .iload_n 3, 0, 0, 0, 0), (32, 33, .ireturn, 0, 0, 0, 0), (33, 36, .iinc 3 1, 0, 0, 0, 0), (36, 39, .goto (-34), 0, 2, 0, 0), (39, 40, .iconst (-1), 0, 0, 0, 0), (40, 41, .ireturn, 0, 0, 0, 0)]
def cd_181 : List (Nat × Nat × gm_I) := [(0, 1, .iload_n 2, 0, 0, 0, 0), (1, 4, .ifCond .ne 19, 0, 20, 0, 0), (4, 5, .aload_n 0, 0, 0, 0, 0), (5, 6, .iload_n 1, 0, 0, 0, 0), (6, 9, .invokevirtual 238, 214, 170, 0, 0), (9, 12, .ifCond .eq 7, 0, 16, 0, 0), (12, 13, .iconst 1, 0, 0, 0, 0), (13, 16, .goto 44, 0, 57, 0, 0), (16, 17, .iconst 0, 0, 0, 0, 0), (17, 20, .goto 40, 0, 57, 0, 0), (20, 21, .iload_n 2, 0, 0, 0, 0), (21, 22, .iconst 1, 0, 0, 0, 0), (22, 25, .if_icmp .ne 22, 0, 44, 0, 0), (25, 26, .aload_n 0, 0, 0, 0, 0), (26, 27, .iload_n 1, 0, 0, 0, 0), (27, 28, .aload_n 0, 0, 0, 0, 0), (28, 31, .getfield 81, 90, 7, 6, 0), (31, 32, .irem, 0, 0, 0, 0), (32, 33, .iload_n 1, 0, 0, 0, 0), (33, 34, .aload_n 0, 0, 0, 0, 0), (34, 37, .getfield 81, 90, 7, 6, 0), (37, 38, .idiv, 0, 0, 0, 0), (38, 41, .invokevirtual 259, 224, 180, 0, 0), (41, 44, .goto 16, 0, 57, 0, 0), (44, 45, .lload_n 3, 0, 0, 0, 0), (45, 46, .iload_n 1, 0, 0, 0, 0), (46, 49, .invokestatic 97, 176, 116, 0, 0), (49, 52, .ifCond .eq 7, 0, 56, 0, 0), (52, 53, .iconst 1, 0, 0, 0, 0), (53, 56, .goto 4, 0, 57, 0, 0), (56, 57, .iconst 0, 0, 0, 0, 0), (57, 58, .ireturn, 0, 0, 0, 0)]
def cd_182 : List (Nat × Nat × gm_I) := [(0, 1, .aload_n 0, 0, 0, 0, 0), (1, 2, .iload_n 1, 0, 0, 0, 0), (2, 3, .iload_n 2, 0, 0, 0, 0), (3, 6, .invokevirtual 143, 172, 130, 0, 0), (6, 9, .ifCond .eq 15, 0, 21, 0, 0), (9, 10, .iload_n 3, 0, 0, 0, 0), (10, 11, .i2l, 0, 0, 0, 0), (11, 12, .lconst 0, 0, 0, 0, 0), (12, 15, .ldc2_w 262, 10, 0, 0, 4), (15, 18, .invokestatic 93, 158, 114, 0, 0), (18, 21, .ifCond .ne 6, 0, 24, 0, 0), (21, 23, .bipush (-2), 0, 0, 0, 0), (23, 24, .ireturn, 0, 0, 0, 0), (24, 25, .aload_n 0, 0, 0, 0, 0), (25, 28, .invokevirtual 177, 181, 142, 0, 0), (28, 29, .iload_n 3, 0, 0, 0, 0), (29, 30, .iconst 2, 0, 0, 0, 0), (30, 33, .if_icmp .ne 10, 0, 40, 0, 0), (33, 34, .aload_n 0, 0, 0, 0, 0), (34, 37, .invokevirtual 223, 208, 164, 0, 0), (37, 40, .goto 28, 0, 65, 0, 0), (40, 41, .iload_n 3, 0, 0, 0, 0), (41, 42, .iconst 3, 0, 0, 0, 0), (42, 45, .if_icmp .ne 10, 0, 52, 0, 0), (45, 46, .aload_n 0, 0, 0, 0, 0), (46, 49, .invokevirtual 219, 206, 163, 0, 0), (49, 52, .goto 16, 0, 65, 0, 0), (52, 53, .iload_n 3, 0, 0, 0, 0), (53, 54, .iconst 4, 0, 0, 0, 0), (54, 57, .if_icmp .ne 10, 0, 64, 0, 0), (57, 58, .aload_n 0, 0, 0, 0, 0), (58, 61, .invokevirtual 256, 221, 178, 0, 0), (61, 64, .goto 4, 0, 65, 0, 0), (64, 65, .lconst 0, 0, 0, 0, 0), (65, 67, .lstore 4, 0, 0, 0, 0), (67, 68, .aload_n 0, 0, 0, 0, 0), (68, 69, .iload_n 2, 0, 0, 0, 0), (69, 70, .aload_n 0, 0, 0, 0, 0), (70, 73, .getfield 81, 90, 7, 6, 0), (73, 74, .imul, 0, 0, 0, 0), (74, 75, .iload_n 1, 0, 0, 0, 0), (75, 76, .iadd, 0, 0, 0, 0), (76, 77, .iload_n 3, 0, 0, 0, 0), (77, 79, .lload 4, 0, 0, 0, 0), (79, 82, .invokevirtual 264, 223, 181, 0, 0), (82, 83, .ireturn, 0, 0, 0, 0)]
def cd_183 : List (Nat × Nat × gm_I) := [(0, 1, .iload_n 0, 0, 0, 0, 0), (1, 2, .i2l, 0, 0, 0, 0), (2, 3, .lconst 0, 0, 0, 0, 0), (3, 6, .ldc2_w 268, 11, 0, 0, 5), (6, 9, .invokestatic 93, 158, 114, 0, 0), (9, 10, .ireturn, 0, 0, 0, 0)]
def cd_184 : List (Nat × Nat × gm_I) := [(0, 1, .iload_n 1, 0, 0, 0, 0), (1, 4, .invokestatic 270, 226, 183, 0, 0), (4, 7, .ifCond .ne 9, 0, 13, 0, 0), (7, 8, .aload_n 0, 0, 0, 0, 0), (8, 9, .iconst 2, 0, 0, 0, 0), (9, 12, .invokevirtual 112, 159, 120, 0, 0), (12, 13, .ireturn, 0, 0, 0, 0), (13, 14, .aload_n 0, 0, 0, 0, 0), (14, 17, .getfield 137, 95, 7, 11, 0), (17, 20, .ifCond .ne 6, 0, 23, 0, 0), (20, 22, .bipush (-3), 0, 0, 0, 0), (22, 23, .ireturn, 0, 0, 0, 0), (23, 24, .iconst 0, 0, 0, 0, 0), (24, 25, .istore_n 2, 0, 0, 0, 0), (25, 26, .iload_n 2, 0, 0, 0, 0), (26, 28, .bipush 7, 0, 0, 0, 0), (28, 31, .if_icmp .ge 26, 0, 54, 0, 0), (31, 32, .aload_n 0, 0, 0, 0, 0), (32, 35, .getfield 65, 113, 7, 29, 0), (35, 37, .bipush 7, 0, 0, 0, 0), (37, 38, .iload_n 1, 0, 0, 0, 0), (38, 39, .imul, 0, 0, 0, 0), (39, 40, .iload_n 2, 0, 0, 0, 0), (40, 41, .iadd, 0, 0, 0, 0), (41, 42, .aload_n 0, 0, 0, 0, 0), (42, 45, .getfield 25, 96, 7, 12, 0), (45, 46, .iload_n 2, 0, 0, 0, 0), (46, 47, .iaload, 0, 0, 0, 0), (47, 48, .iastore, 0, 0, 0, 0), (48, 51, .iinc 2 1, 0, 0, 0, 0), (51, 54, .goto (-26), 0, 25, 0, 0), (54, 55, .aload_n 0, 0, 0, 0, 0), (55, 58, .getfield 68, 114, 7, 30, 0), (58, 59, .iload_n 1, 0, 0, 0, 0), (59, 60, .aload_n 0, 0, 0, 0, 0), (60, 63, .getfield 77, 89, 7, 5, 0), (63, 64, .iastore, 0, 0, 0, 0), (64, 65, .aload_n 0, 0, 0, 0, 0), (65, 68, .getfield 71, 115, 7, 31, 0), (68, 69, .iload_n 1, 0, 0, 0, 0), (69, 70, .aload_n 0, 0, 0, 0, 0), (70, 73, .getfield 81, 90, 7, 6, 0), (73, 74, .iastore, 0, 0, 0, 0), (74, 75, .aload_n 0, 0, 0, 0, 0), (75, 78, .getfield 74, 116, 7, 32, 0), (78, 79, .iload_n 1, 0, 0, 0, 0), (79, 80, .aload_n 0, 0, 0, 0, 0), (80, 83, .getfield 84, 91, 7, 7, 0), (83, 84, .iastore, 0, 0, 0, 0), (84, 85, .aload_n 0, 0, 0, 0, 0), (85, 86, .dup, 0, 0, 0, 0), (86, 89, .getfield 273, 112, 7, 28, 0), (89, 90, .iconst 1, 0, 0, 0, 0), (90, 91, .iload_n 1, 0, 0, 0, 0), (91, 92, .ishl, 0, 0, 0, 0), (92, 93, .ior, 0, 0, 0, 0), (93, 96, .putfield 273, 112, 7, 28, 0), (96, 97, .aload_n 0, 0, 0, 0, 0), (97, 100, .getfield 273, 112, 7, 28, 0), (100, 101, .i2l, 0, 0, 0, 0), (101, 104, .invokestatic 128, 175, 119, 0, 0), (104, 105, .ireturn, 0, 0, 0, 0)]
def cd_185 : List (Nat × Nat × gm_I) := [(0, 1, .iload_n 1, 0, 0, 0, 0), (1, 4, .invokestatic 270, 226, 183, 0, 0), (4, 7, .ifCond .ne 9, 0, 13, 0, 0), (7, 8, .aload_n 0, 0, 0, 0, 0), (8, 9, .iconst 2, 0, 0, 0, 0), (9, 12, .invokevirtual 112, 159, 120, 0, 0), (12, 13, .ireturn, 0, 0, 0, 0), (13, 14, .aload_n 0, 0, 0, 0, 0), (14, 17, .getfield 273, 112, 7, 28, 0), (17, 18, .i2l, 0, 0, 0, 0), (18, 19, .iload_n 1, 0, 0, 0, 0), (19, 22, .invokestatic 97, 176, 116, 0, 0), (22, 25, .ifCond .ne 9, 0, 31, 0, 0), (25, 26, .aload_n 0, 0, 0, 0, 0), (26, 27, .iconst 1, 0, 0, 0, 0), (27, 30, .invokevirtual 112, 159, 120, 0, 0), (30, 31, .ireturn, 0, 0, 0, 0), (31, 32, .aload_n 0, 0, 0, 0, 0), (32, 35, .getfield 68, 114, 7, 30, 0), (35, 36, .iload_n 1, 0, 0, 0, 0), (36, 37, .iaload, 0, 0, 0, 0), (37, 38, .aload_n 0, 0, 0, 0, 0), (38, 41, .getfield 77, 89, 7, 5, 0), (41, 44, .if_icmp .ne 33, 0, 74, 0, 0), (44, 45, .aload_n 0, 0, 0, 0, 0), (45, 48, .getfield 71, 115, 7, 31, 0), (48, 49, .iload_n 1, 0, 0, 0, 0), (49, 50, .iaload, 0, 0, 0, 0), (50, 51, .aload_n 0, 0, 0, 0, 0), (51, 54, .getfield 81, 90, 7, 6, 0), (54, 57, .if_icmp .ne 20, 0, 74, 0, 0), (57, 58, .aload_n 0, 0, 0, 0, 0), (58, 61, .getfield 74, 116, 7, 32, 0), (61, 62, .iload_n 1, 0, 0, 0, 0), (62, 63, .iaload, 0, 0, 0, 0), (63, 64, .aload_n 0, 0, 0, 0, 0), (64, 67, .getfield 84, 91, 7, 7, 0), (67, 70, .if_icmp .ne 7, 0, 74, 0, 0), (70, 71, .iconst 0, 0, 0, 0, 0), (71, 74, .goto 5, 0, 76, 0, 0), (74, 76, .bipush (-3), 0, 0, 0, 0), (76, 77, .ireturn, 0, 0, 0, 0)]
def cd_186 : List (Nat × Nat × gm_I) := [(0, 1, .aload_n 0, 0, 0, 0, 0), (1, 2, .iload_n 1, 0, 0, 0, 0), (2, 5, .invokevirtual 276, 228, 185, 0, 0), (5, 6, .istore_n 2, 0, 0, 0, 0), (6, 7, .iload_n 2, 0, 0, 0, 0), (7, 10, .ifCond .eq 5, 0, 12, 0, 0), (10, 11, .iload_n 2, 0, 0, 0, 0), (11, 12, .ireturn, 0, 0, 0, 0), (12, 13, .iconst 0, 0, 0, 0, 0), (13, 14, .istore_n 3, 0, 0, 0, 0), (14, 15, .iload_n 3, 0, 0, 0, 0), (15, 17, .bipush 7, 0, 0, 0, 0), (17, 20, .if_icmp .ge 26, 0, 43, 0, 0), (20, 21, .aload_n 0, 0, 0, 0, 0), (21, 24, .getfield 25, 96, 7, 12, 0), (24, 25, .iload_n 3, 0, 0, 0, 0), (25, 26, .aload_n 0, 0, 0, 0, 0), (26, 29, .getfield 65, 113, 7, 29, 0), (29, 31, .bipush 7, 0, 0, 0, 0), (31, 32, .iload_n 1, 0, 0, 0, 0), (32, 33, .imul, 0, 0, 0, 0), (33, 34, .iload_n 3, 0, 0, 0, 0), (34, 35, .iadd, 0, 0, 0, 0), (35, 36, .iaload, 0, 0, 0, 0), (36, 37, .iastore, 0, 0, 0, 0), (37, 40, .iinc 3 1, 0, 0, 0, 0), (40, 43, .goto (-26), 0, 14, 0, 0), (43, 44, .aload_n 0, 0, 0, 0, 0), (44, 45, .iconst 1, 0, 0, 0, 0), (45, 48, .putfield 137, 95, 7, 11, 0), (48, 49, .aload_n 0, 0, 0, 0, 0), (49, 52, .invokevirtual 210, 201, 159, 0, 0), (52, 53, .ireturn, 0, 0, 0, 0)]
def cd_187 : List (Nat × Nat × gm_I) := [(0, 1, .aload_n 0, 0, 0, 0, 0), (1, 2, .iload_n 1, 0, 0, 0, 0), (2, 5, .invokevirtual 276, 228, 185, 0, 0), (5, 6, .istore_n 2, 0, 0, 0, 0), (6, 7, .iload_n 2, 0, 0, 0, 0), (7, 10, .ifCond .eq 5, 0, 12, 0, 0), (10, 11, .iload_n 2, 0, 0, 0, 0), (11, 12, .ireturn, 0, 0, 0, 0), (12, 13, .iconst 0, 0, 0, 0, 0), (13, 14, .istore_n 3, 0, 0, 0, 0), (14, 15, .iconst 0, 0, 0, 0, 0), (15, 17, .istore 4, 0, 0, 0, 0), (17, 19, .iload 4, 0, 0, 0, 0), (19, 20, .aload_n 0, 0, 0, 0, 0), (20, 23, .getfield 77, 89, 7, 5, 0), (23, 26, .if_icmp .ge 30, 0, 53, 0, 0), (26, 27, .iload_n 3, 0, 0, 0, 0), (27, 28, .aload_n 0, 0, 0, 0, 0), (28, 30, .iload 4, 0, 0, 0, 0), (30, 31, .aload_n 0, 0, 0, 0, 0), (31, 34, .getfield 65, 113, 7, 29, 0), (34, 36, .bipush 7, 0, 0, 0, 0), (36, 37, .iload_n 1, 0, 0, 0, 0), (37, 38, .imul, 0, 0, 0, 0), (38, 40, .iload 4, 0, 0, 0, 0), (40, 41, .iadd, 0, 0, 0, 0), (41, 42, .iaload, 0, 0, 0, 0), (42, 45, .invokevirtual 188, 190, 148, 0, 0), (45, 46, .iadd, 0, 0, 0, 0), (46, 47, .istore_n 3, 0, 0, 0, 0), (47, 50, .iinc 4 1, 0, 0, 0, 0), (50, 53, .goto (-33), 0, 17, 0, 0), (53, 54, .iload_n 3, 0, 0, 0, 0), (54, 55, .ireturn, 0, 0, 0, 0)]
def cd_188 : List (Nat × Nat × gm_I) := [(0, 1, .iload_n 1, 0, 0, 0, 0), (1, 4, .invokestatic 270, 226, 183, 0, 0), (4, 7, .ifCond .ne 9, 0, 13, 0, 0), (7, 8, .aload_n 0, 0, 0, 0, 0), (8, 9, .iconst 2, 0, 0, 0, 0), (9, 12, .invokevirtual 112, 159, 120, 0, 0), (12, 13, .ireturn, 0, 0, 0, 0), (13, 14, .aload_n 0, 0, 0, 0, 0), (14, 17, .getfield 273, 112, 7, 28, 0), (17, 18, .i2l, 0, 0, 0, 0), (18, 19, .iload_n 1, 0, 0, 0, 0), (19, 22, .invokestatic 97, 176, 116, 0, 0), (22, 25, .ifCond .ne 9, 0, 31, 0, 0), (25, 26, .aload_n 0, 0, 0, 0, 0), (26, 27, .iconst 1, 0, 0, 0, 0), (27, 30, .invokevirtual 112, 159, 120, 0, 0), (30, 31, .ireturn, 0, 0, 0, 0), (31, 32, .aload_n 0, 0, 0, 0, 0), (32, 33, .dup, 0, 0, 0, 0), (33, 36, .getfield 273, 112, 7, 28, 0), (36, 37, .iconst 1, 0, 0, 0, 0), (37, 38, .iload_n 1, 0, 0, 0, 0), (38, 39, .ishl, 0, 0, 0, 0), (39, 40, .iconst (-1), 0, 0, 0, 0), (40, 41, .ixor, 0, 0, 0, 0), (41, 42, .iand, 0, 0, 0, 0), (42, 45, .putfield 273, 112, 7, 28, 0), (45, 46, .aload_n 0, 0, 0, 0, 0), (46, 49, .getfield 273, 112, 7, 28, 0), (49, 50, .i2l, 0, 0, 0, 0), (50, 53, .invokestatic 128, 175, 119, 0, 0), (53, 54, .ireturn, 0, 0, 0, 0)]
def cd_189 : List (Nat × Nat × gm_I) := [(0, 1, .aload_n 0, 0, 0, 0, 0), (1, 2, .iload_n 1, 0, 0, 0, 0), (2, 5, .invokevirtual 125, 173, 129, 0, 0), (5, 8, .ifCond .eq 10, 0, 15, 0, 0), (8, 9, .iload_n 2, 0, 0, 0, 0), (9, 12, .invokestatic 106, 157, 121, 0, 0), (12, 15, .ifCond .ne 6, 0, 18, 0, 0), (15, 17, .bipush (-2), 0, 0, 0, 0), (17, 18, .ireturn, 0, 0, 0, 0), (18, 19, .aload_n 0, 0, 0, 0, 0), (19, 22, .getfield 7, 84, 7, 0, 0), (22, 23, .iload_n 2, 0, 0, 0, 0), (23, 24, .iaload, 0, 0, 0, 0), (24, 27, .ifCond .ge 9, 0, 33, 0, 0), (27, 28, .aload_n 0, 0, 0, 0, 0), (28, 29, .iconst 1, 0, 0, 0, 0), (29, 32, .invokevirtual 112, 159, 120, 0, 0), (32, 33, .ireturn, 0, 0, 0, 0), (33, 34, .aload_n 0, 0, 0, 0, 0), (34, 37, .getfield 137, 95, 7, 11, 0), (37, 40, .ifCond .eq 19, 0, 56, 0, 0), (40, 41, .aload_n 0, 0, 0, 0, 0), (41, 44, .getfield 13, 85, 7, 1, 0), (44, 45, .iload_n 2, 0, 0, 0, 0), (45, 46, .iaload, 0, 0, 0, 0), (46, 47, .aload_n 0, 0, 0, 0, 0), (47, 50, .getfield 84, 91, 7, 7, 0), (50, 53, .invokestatic 134, 167, 117, 0, 0), (53, 56, .goto 4, 0, 57, 0, 0), (56, 57, .iconst 0, 0, 0, 0, 0), (57, 58, .istore_n 3, 0, 0, 0, 0), (58, 59, .iconst 0, 0, 0, 0, 0), (59, 61, .istore 4, 0, 0, 0, 0), (61, 63, .iload 4, 0, 0, 0, 0), (63, 64, .iload_n 3, 0, 0, 0, 0), (64, 67, .if_icmp .ge 41, 0, 105, 0, 0), (67, 68, .aload_n 0, 0, 0, 0, 0), (68, 71, .getfield 16, 86, 7, 2, 0), (71, 73, .bipush 60, 0, 0, 0, 0), (73, 74, .iload_n 2, 0, 0, 0, 0), (74, 75, .imul, 0, 0, 0, 0), (75, 77, .iload 4, 0, 0, 0, 0), (77, 78, .iadd, 0, 0, 0, 0), (78, 79, .aload_n 0, 0, 0, 0, 0), (79, 82, .getfield 7, 84, 7, 0, 0), (82, 83, .iload_n 2, 0, 0, 0, 0), (83, 84, .iaload, 0, 0, 0, 0), (84, 85, .aload_n 0, 0, 0, 0, 0), (85, 88, .getfield 25, 96, 7, 12, 0), (88, 89, .iload_n 1, 0, 0, 0, 0), (89, 90, .iaload, 0, 0, 0, 0), (90, 92, .iload 4, 0, 0, 0, 0), (92, 95, .invokestatic 161, 183, 140, 0, 0), (95, 98, .invokestatic 120, 163, 125, 0, 0), (98, 99, .iastore, 0, 0, 0, 0), (99, 102, .iinc 4 1, 0, 0, 0, 0), (102, 105, .goto (-41), 0, 61, 0, 0), (105, 106, .iload_n 3, 0, 0, 0, 0), (106, 107, .ireturn, 0, 0, 0, 0)]
def cd_190 : List (Nat × Nat × gm_I) := [(0, 1, .iload_n 1, 0, 0, 0, 0), (1, 52, .tableswitch 121 0 8 #[51, 61, 66, 79, 84, 93, 106, 111, 116], 0, 0, 0, 0), (52, 53, .aload_n 0, 0, 0, 0, 0), (53, 56, .getfield 77, 89, 7, 5, 0), (56, 57, .aload_n 0, 0, 0, 0, 0), (57, 60, .getfield 81, 90, 7, 6, 0), (60, 61, .imul, 0, 0, 0, 0), (61, 62, .ireturn, 0, 0, 0, 0), (62, 63, .aload_n 0, 0, 0, 0, 0), (63, 66, .invokevirtual 147, 174, 131, 0, 0), (66, 67, .ireturn, 0, 0, 0, 0), (67, 68, .aload_n 0, 0, 0, 0, 0), (68, 71, .invokevirtual 180, 185, 145, 0, 0), (71, 74, .ifCond .eq 7, 0, 78, 0, 0), (74, 75, .iconst 1, 0, 0, 0, 0), (75, 78, .goto 4, 0, 79, 0, 0), (78, 79, .iconst 0, 0, 0, 0, 0), (79, 80, .ireturn, 0, 0, 0, 0), (80, 81, .aload_n 0, 0, 0, 0, 0), (81, 84, .getfield 198, 97, 7, 13, 0), (84, 85, .ireturn, 0, 0, 0, 0), (85, 86, .aload_n 0, 0, 0, 0, 0), (86, 89, .getfield 273, 112, 7, 28, 0), (89, 90, .i2l, 0, 0, 0, 0), (90, 93, .invokestatic 128, 175, 119, 0, 0), (93, 94, .ireturn, 0, 0, 0, 0), (94, 95, .aload_n 0, 0, 0, 0, 0), (95, 98, .getfield 137, 95, 7, 11, 0), (98, 101, .ifCond .eq 7, 0, 105, 0, 0), (101, 102, .iconst 1, 0, 0, 0, 0), (102, 105, .goto 4, 0, 106, 0, 0), (105, 106, .iconst 0, 0, 0, 0, 0), (106, 107, .ireturn, 0, 0, 0, 0), (107, 108, .aload_n 0, 0, 0, 0, 0), (108, 111, .invokevirtual 253, 212, 176, 0, 0), (111, 112, .ireturn, 0, 0, 0, 0), (112, 113, .aload_n 0, 0, 0, 0, 0), (113, 116, .invokevirtual 279, 234, 191, 0, 0), (116, 117, .ireturn, 0, 0, 0, 0), (117, 118, .aload_n 0, 0, 0, 0, 0), (118, 121, .getfield 101, 88, 7, 4, 0), (121, 122, .ireturn, 0, 0, 0, 0), (122, 124, .bipush (-2), 0, 0, 0, 0), (124, 125, .ireturn, 0, 0, 0, 0)]
def cd_191 : List (Nat × Nat × gm_I) := [(0, 1, .iconst 0, 0, 0, 0, 0), (1, 2, .istore_n 1, 0, 0, 0, 0), (2, 3, .iconst 0, 0, 0, 0, 0), (3, 4, .istore_n 2, 0, 0, 0, 0), (4, 5, .iload_n 2, 0, 0, 0, 0), (5, 6, .aload_n 0, 0, 0, 0, 0), (6, 9, .getfield 77, 89, 7, 5, 0), (9, 12, .if_icmp .ge 17, 0, 26, 0, 0), (12, 13, .iload_n 1, 0, 0, 0, 0), (13, 14, .aload_n 0, 0, 0, 0, 0), (14, 15, .iload_n 2, 0, 0, 0, 0), (15, 18, .invokevirtual 207, 199, 157, 0, 0), (18, 19, .iadd, 0, 0, 0, 0), (19, 20, .istore_n 1, 0, 0, 0, 0), (20, 23, .iinc 2 1, 0, 0, 0, 0), (23, 26, .goto (-19), 0, 4, 0, 0), (26, 27, .iload_n 1, 0, 0, 0, 0), (27, 28, .ireturn, 0, 0, 0, 0)]
def cd_192 : List (Nat × Nat × gm_I) := [(0, 1, .aload_n 0, 0, 0, 0, 0), (1, 4, .invokevirtual 177, 181, 142, 0, 0), (4, 5, .aload_n 0, 0, 0, 0, 0), (5, 6, .iload_n 1, 0, 0, 0, 0), (6, 9, .invokevirtual 282, 233, 190, 0, 0), (9, 10, .ireturn, 0, 0, 0, 0)]
def cd_193 : List (Nat × Nat × gm_I) := [(0, 3, .ldc2_w 285, 12, 0, 0, 17), (3, 4, .lstore_n 1, 0, 0, 0, 0), (4, 5, .aload_n 0, 0, 0, 0, 0), (5, 8, .invokevirtual 177, 181, 142, 0, 0), (8, 9, .iconst 0, 0, 0, 0, 0), (9, 10, .istore_n 3, 0, 0, 0, 0), (10, 11, .iload_n 3, 0, 0, 0, 0), (11, 13, .bipush 8, 0, 0, 0, 0), (13, 16, .if_icmp .ge 22, 0, 35, 0, 0), (16, 19, .ldc2_w 287, 13, 0, 0, 31), (19, 20, .lload_n 1, 0, 0, 0, 0), (20, 21, .lmul, 0, 0, 0, 0), (21, 22, .aload_n 0, 0, 0, 0, 0), (22, 23, .iload_n 3, 0, 0, 0, 0), (23, 26, .invokevirtual 282, 233, 190, 0, 0), (26, 27, .i2l, 0, 0, 0, 0), (27, 28, .ladd, 0, 0, 0, 0), (28, 29, .lstore_n 1, 0, 0, 0, 0), (29, 32, .iinc 3 1, 0, 0, 0, 0), (32, 35, .goto (-22), 0, 10, 0, 0), (35, 36, .aload_n 0, 0, 0, 0, 0), (36, 39, .invokevirtual 219, 206, 163, 0, 0), (39, 40, .lstore_n 3, 0, 0, 0, 0), (40, 41, .aload_n 0, 0, 0, 0, 0), (41, 44, .invokevirtual 223, 208, 164, 0, 0), (44, 46, .lstore 5, 0, 0, 0, 0), (46, 49, .ldc2_w 287, 13, 0, 0, 31), (49, 50, .lload_n 1, 0, 0, 0, 0), (50, 51, .lmul, 0, 0, 0, 0), (51, 52, .aload_n 0, 0, 0, 0, 0), (52, 55, .invokevirtual 201, 194, 152, 0, 0), (55, 56, .i2l, 0, 0, 0, 0), (56, 57, .ladd, 0, 0, 0, 0), (57, 58, .lstore_n 1, 0, 0, 0, 0), (58, 61, .ldc2_w 287, 13, 0, 0, 31), (61, 62, .lload_n 1, 0, 0, 0, 0), (62, 63, .lmul, 0, 0, 0, 0), (63, 64, .aload_n 0, 0, 0, 0, 0), (64, 67, .invokevirtual 210, 201, 159, 0, 0), (67, 68, .i2l, 0, 0, 0, 0), (68, 69, .ladd, 0, 0, 0, 0), (69, 70, .lstore_n 1, 0, 0, 0, 0), (70, 73, .ldc2_w 287, 13, 0, 0, 31), (73, 74, .lload_n 1, 0, 0, 0, 0), (74, 75, .lmul, 0, 0, 0, 0), (75, 76, .aload_n 0, 0, 0, 0, 0), (76, 77, .iconst 0, 0, 0, 0, 0), (77, 80, .invokevirtual 216, 204, 161, 0, 0), (80, 81, .i2l, 0, 0, 0, 0), (81, 82, .ladd, 0, 0, 0, 0), (82, 83, .lstore_n 1, 0, 0, 0, 0), (83, 86, .ldc2_w 287, 13, 0, 0, 31), (86, 87, .lload_n 1, 0, 0, 0, 0), (87, 88, .lmul, 0, 0, 0, 0), (88, 89, .aload_n 0, 0, 0, 0, 0), (89, 90, .iconst 1, 0, 0, 0, 0), (90, 93, .invokevirtual 216, 204, 161, 0, 0), (93, 94, .i2l, 0, 0, 0, 0), (94, 95, .ladd, 0, 0, 0, 0), (95, 96, .lstore_n 1, 0, 0, 0, 0), (96, 99, .ldc2_w 287, 13, 0, 0, 31), (99, 100, .lload_n 1, 0, 0, 0, 0), (100, 101, .lmul, 0, 0, 0, 0), (101, 102, .lload_n 3, 0, 0, 0, 0), (102, 105, .invokestatic 128, 175, 119, 0, 0), (105, 106, .i2l, 0, 0, 0, 0), (106, 107, .ladd, 0, 0, 0, 0), (107, 108, .lstore_n 1, 0, 0, 0, 0), (108, 111, .ldc2_w 287, 13, 0, 0, 31), (111, 112, .lload_n 1, 0, 0, 0, 0), (112, 113, .lmul, 0, 0, 0, 0), (113, 115, .lload 5, 0, 0, 0, 0), (115, 118, .invokestatic 128, 175, 119, 0, 0), (118, 119, .i2l, 0, 0, 0, 0), (119, 120, .ladd, 0, 0, 0, 0), (120, 121, .lstore_n 1, 0, 0, 0, 0), (121, 124, .ldc2_w 287, 13, 0, 0, 31), (124, 125, .lload_n 1, 0, 0, 0, 0), (125, 126, .lmul, 0, 0, 0, 0), (126, 127, .aload_n 0, 0, 0, 0, 0), (127, 128, .iconst 0, 0, 0, 0, 0), (128, 131, .invokevirtual 226, 210, 167, 0, 0), (131, 132, .i2l, 0, 0, 0, 0), (132, 133, .ladd, 0, 0, 0, 0), (133, 134, .lstore_n 1, 0, 0, 0, 0), (134, 137, .ldc2_w 287, 13, 0, 0, 31), (137, 138, .lload_n 1, 0, 0, 0, 0), (138, 139, .lmul, 0, 0, 0, 0), (139, 140, .aload_n 0, 0, 0, 0, 0), (140, 141, .iconst 1, 0, 0, 0, 0), (141, 144, .invokevirtual 226, 210, 167, 0, 0), (144, 145, .i2l, 0, 0, 0, 0), (145, 146, .ladd, 0, 0, 0, 0), (146, 147, .lstore_n 1, 0, 0, 0, 0), (147, 148, .aload_n 0, 0, 0, 0, 0), (148, 151, .invokevirtual 256, 221, 178, 0, 0), (151, 153, .lstore 7, 0, 0, 0, 0), (153, 156, .ldc2_w 287, 13, 0, 0, 31), (156, 157, .lload_n 1, 0, 0, 0, 0), (157, 158, .lmul, 0, 0, 0, 0), (158, 160, .lload 7, 0, 0, 0, 0), (160, 161, .ladd, 0, 0, 0, 0), (161, 162, .lstore_n 1, 0, 0, 0, 0), (162, 163, .iconst 0, 0, 0, 0, 0), (163, 165, .istore 9, 0, 0, 0, 0), (165, 167, .iload 9, 0, 0, 0, 0), (167, 168, .aload_n 0, 0, 0, 0, 0), (168, 171, .getfield 77, 89, 7, 5, 0), (171, 174, .if_icmp .ge 57, 0, 228, 0, 0), (174, 177, .ldc2_w 287, 13, 0, 0, 31), (177, 178, .lload_n 1, 0, 0, 0, 0), (178, 179, .lmul, 0, 0, 0, 0), (179, 180, .aload_n 0, 0, 0, 0, 0), (180, 182, .iload 9, 0, 0, 0, 0), (182, 185, .invokevirtual 207, 199, 157, 0, 0), (185, 186, .i2l, 0, 0, 0, 0), (186, 187, .ladd, 0, 0, 0, 0), (187, 188, .lstore_n 1, 0, 0, 0, 0), (188, 189, .iconst 0, 0, 0, 0, 0), (189, 191, .istore 10, 0, 0, 0, 0), (191, 193, .iload 10, 0, 0, 0, 0), (193, 194, .aload_n 0, 0, 0, 0, 0), (194, 197, .getfield 84, 91, 7, 7, 0), (197, 200, .if_icmp .ge 25, 0, 222, 0, 0), (200, 203, .ldc2_w 287, 13, 0, 0, 31), (203, 204, .lload_n 1, 0, 0, 0, 0), (204, 205, .lmul, 0, 0, 0, 0), (205, 206, .aload_n 0, 0, 0, 0, 0), (206, 208, .iload 9, 0, 0, 0, 0), (208, 210, .iload 10, 0, 0, 0, 0), (210, 213, .invokevirtual 204, 197, 155, 0, 0), (213, 214, .i2l, 0, 0, 0, 0), (214, 215, .ladd, 0, 0, 0, 0), (215, 216, .lstore_n 1, 0, 0, 0, 0), (216, 219, .iinc 10 1, 0, 0, 0, 0), (219, 222, .goto (-28), 0, 191, 0, 0), (222, 225, .iinc 9 1, 0, 0, 0, 0), (225, 228, .goto (-60), 0, 165, 0, 0), (228, 229, .iconst 0, 0, 0, 0, 0), (229, 231, .istore 9, 0, 0, 0, 0), (231, 233, .iload 9, 0, 0, 0, 0), (233, 234, .aload_n 0, 0, 0, 0, 0), (234, 237, .getfield 77, 89, 7, 5, 0), (237, 238, .aload_n 0, 0, 0, 0, 0), (238, 241, .getfield 81, 90, 7, 6, 0), (241, 242, .imul, 0, 0, 0, 0), (242, 245, .if_icmp .ge 63, 0, 305, 0, 0), (245, 246, .iconst 0, 0, 0, 0, 0), (246, 248, .istore 10, 0, 0, 0, 0), (248, 250, .iload 10, 0, 0, 0, 0), (250, 251, .iconst 5, 0, 0, 0, 0), (251, 254, .if_icmp .ge 48, 0, 299, 0, 0), (254, 257, .ldc2_w 287, 13, 0, 0, 31), (257, 258, .lload_n 1, 0, 0, 0, 0), (258, 259, .lmul, 0, 0, 0, 0), (259, 260, .aload_n 0, 0, 0, 0, 0), (260, 262, .iload 9, 0, 0, 0, 0), (262, 264, .iload 10, 0, 0, 0, 0), (264, 266, .iload 10, 0, 0, 0, 0), (266, 267, .iconst 2, 0, 0, 0, 0), (267, 270, .if_icmp .ne 8, 0, 275, 0, 0), (270, 272, .lload 5, 0, 0, 0, 0), (272, 275, .goto 15, 0, 287, 0, 0), (275, 277, .iload 10, 0, 0, 0, 0), (277, 278, .iconst 3, 0, 0, 0, 0), (278, 281, .if_icmp .ne 7, 0, 285, 0, 0), (281, 282, .lload_n 3, 0, 0, 0, 0), (282, 285, .goto 5, 0, 287, 0, 0), (285, 287, .lload 7, 0, 0, 0, 0), (287, 290, .invokevirtual 264, 223, 181, 0, 0), (290, 291, .i2l, 0, 0, 0, 0), (291, 292, .ladd, 0, 0, 0, 0), (292, 293, .lstore_n 1, 0, 0, 0, 0), (293, 296, .iinc 10 1, 0, 0, 0, 0), (296, 299, .goto (-48), 0, 248, 0, 0), (299, 302, .iinc 9 1, 0, 0, 0, 0), (302, 305, .goto (-71), 0, 231, 0, 0), (305, 306, .iconst 0, 0, 0, 0, 0), (306, 308, .istore 9, 0, 0, 0, 0), (308, 310, .iload 9, 0, 0, 0, 0), (310, 312, .bipush 6, 0, 0, 0, 0), (312, 315, .if_icmp .ge 36, 0, 348, 0, 0), (315, 316, .aload_n 0, 0, 0, 0, 0), (316, 319, .getfield 273, 112, 7, 28, 0), (319, 320, .i2l, 0, 0, 0, 0), (320, 322, .iload 9, 0, 0, 0, 0), (322, 325, .invokestatic 97, 176, 116, 0, 0), (325, 328, .ifCond .eq 17, 0, 342, 0, 0), (328, 331, .ldc2_w 287, 13, 0, 0, 31), (331, 332, .lload_n 1, 0, 0, 0, 0), (332, 333, .lmul, 0, 0, 0, 0), (333, 334, .aload_n 0, 0, 0, 0, 0), (334, 336, .iload 9, 0, 0, 0, 0), (336, 339, .invokevirtual 289, 236, 187, 0, 0), (339, 340, .i2l, 0, 0, 0, 0), (340, 341, .ladd, 0, 0, 0, 0), (341, 342, .lstore_n 1, 0, 0, 0, 0), (342, 345, .iinc 9 1, 0, 0, 0, 0), (345, 348, .goto (-37), 0, 308, 0, 0), (348, 349, .lload_n 1, 0, 0, 0, 0), (349, 350, .lreturn, 0, 0, 0, 0)]
def cd_194 : List (Nat × Nat × gm_I) := [(0, 1, .iload_n 0, 0, 0, 0, 0), (1, 2, .iload_n 0, 0, 0, 0, 0), (2, 3, .iconst 1, 0, 0, 0, 0), (3, 4, .iushr, 0, 0, 0, 0), (4, 7, .ldc_w 265, 0, 0, 0, 1431655765), (7, 8, .iand, 0, 0, 0, 0), (8, 9, .isub, 0, 0, 0, 0), (9, 10, .istore_n 0, 0, 0, 0, 0), (10, 11, .iload_n 0, 0, 0, 0, 0), (11, 14, .ldc_w 266, 1, 0, 0, 858993459), (14, 15, .iand, 0, 0, 0, 0), (15, 16, .iload_n 0, 0, 0, 0, 0), (16, 17, .iconst 2, 0, 0, 0, 0), (17, 18, .iushr, 0, 0, 0, 0), (18, 21, .ldc_w 266, 1, 0, 0, 858993459), (21, 22, .iand, 0, 0, 0, 0), (22, 23, .iadd, 0, 0, 0, 0), (23, 24, .istore_n 0, 0, 0, 0, 0), (24, 25, .iload_n 0, 0, 0, 0, 0), (25, 26, .iload_n 0, 0, 0, 0, 0), (26, 27, .iconst 4, 0, 0, 0, 0), (27, 28, .iushr, 0, 0, 0, 0), (28, 29, .iadd, 0, 0, 0, 0), (29, 32, .ldc_w 267, 2, 0, 0, 252645135), (32, 33, .iand, 0, 0, 0, 0), (33, 34, .istore_n 0, 0, 0, 0, 0), (34, 35, .iload_n 0, 0, 0, 0, 0), (35, 36, .iload_n 0, 0, 0, 0, 0), (36, 38, .bipush 8, 0, 0, 0, 0), (38, 39, .iushr, 0, 0, 0, 0), (39, 40, .iadd, 0, 0, 0, 0), (40, 41, .istore_n 0, 0, 0, 0, 0), (41, 42, .iload_n 0, 0, 0, 0, 0), (42, 43, .iload_n 0, 0, 0, 0, 0), (43, 45, .bipush 16, 0, 0, 0, 0), (45, 46, .iushr, 0, 0, 0, 0), (46, 47, .iadd, 0, 0, 0, 0), (47, 48, .istore_n 0, 0, 0, 0, 0), (48, 49, .iload_n 0, 0, 0, 0, 0), (49, 51, .bipush 63, 0, 0, 0, 0), (51, 52, .iand, 0, 0, 0, 0), (52, 53, .ireturn, 0, 0, 0, 0)]
def cd_195 : List (Nat × Nat × gm_I) := [(0, 1, .lload_n 0, 0, 0, 0, 0), (1, 2, .lload_n 0, 0, 0, 0, 0), (2, 3, .iconst 1, 0, 0, 0, 0), (3, 4, .lushr, 0, 0, 0, 0), (4, 7, .ldc2_w 314, 0, 0, 0, 6148914691236517205), (7, 8, .land, 0, 0, 0, 0), (8, 9, .lsub, 0, 0, 0, 0), (9, 10, .lstore_n 0, 0, 0, 0, 0), (10, 11, .lload_n 0, 0, 0, 0, 0), (11, 14, .ldc2_w 316, 1, 0, 0, 3689348814741910323), (14, 15, .land, 0, 0, 0, 0), (15, 16, .lload_n 0, 0, 0, 0, 0), (16, 17, .iconst 2, 0, 0, 0, 0), (17, 18, .lushr, 0, 0, 0, 0), (18, 21, .ldc2_w 316, 1, 0, 0, 3689348814741910323), (21, 22, .land, 0, 0, 0, 0), (22, 23, .ladd, 0, 0, 0, 0), (23, 24, .lstore_n 0, 0, 0, 0, 0), (24, 25, .lload_n 0, 0, 0, 0, 0), (25, 26, .lload_n 0, 0, 0, 0, 0), (26, 27, .iconst 4, 0, 0, 0, 0), (27, 28, .lushr, 0, 0, 0, 0), (28, 29, .ladd, 0, 0, 0, 0), (29, 32, .ldc2_w 318, 2, 0, 0, 1085102592571150095), (32, 33, .land, 0, 0, 0, 0), (33, 34, .lstore_n 0, 0, 0, 0, 0), (34, 35, .lload_n 0, 0, 0, 0, 0), (35, 36, .lload_n 0, 0, 0, 0, 0), (36, 38, .bipush 8, 0, 0, 0, 0), (38, 39, .lushr, 0, 0, 0, 0), (39, 40, .ladd, 0, 0, 0, 0), (40, 41, .lstore_n 0, 0, 0, 0, 0), (41, 42, .lload_n 0, 0, 0, 0, 0), (42, 43, .lload_n 0, 0, 0, 0, 0), (43, 45, .bipush 16, 0, 0, 0, 0), (45, 46, .lushr, 0, 0, 0, 0), (46, 47, .ladd, 0, 0, 0, 0), (47, 48, .lstore_n 0, 0, 0, 0, 0), (48, 49, .lload_n 0, 0, 0, 0, 0), (49, 50, .lload_n 0, 0, 0, 0, 0), (50, 52, .bipush 32, 0, 0, 0, 0), (52, 53, .lushr, 0, 0, 0, 0), (53, 54, .ladd, 0, 0, 0, 0), (54, 55, .lstore_n 0, 0, 0, 0, 0), (55, 56, .lload_n 0, 0, 0, 0, 0), (56, 57, .l2i, 0, 0, 0, 0), (57, 59, .bipush 127, 0, 0, 0, 0), (59, 60, .iand, 0, 0, 0, 0), (60, 61, .ireturn, 0, 0, 0, 0)]
def cd_196 : List (Nat × Nat × gm_I) := [(0, 1, .iload_n 0, 0, 0, 0, 0), (1, 4, .ifCond .ge 8, 0, 9, 0, 0), (4, 5, .iload_n 0, 0, 0, 0, 0), (5, 6, .ineg, 0, 0, 0, 0), (6, 9, .goto 4, 0, 10, 0, 0), (9, 10, .iload_n 0, 0, 0, 0, 0), (10, 11, .ireturn, 0, 0, 0, 0)]
def cd_197 : List (Nat × Nat × gm_I) := [(0, 1, .iload_n 0, 0, 0, 0, 0), (1, 2, .iload_n 1, 0, 0, 0, 0), (2, 5, .if_icmp .gt 7, 0, 9, 0, 0), (5, 6, .iload_n 0, 0, 0, 0, 0), (6, 9, .goto 4, 0, 10, 0, 0), (9, 10, .iload_n 1, 0, 0, 0, 0), (10, 11, .ireturn, 0, 0, 0, 0)]
def cd_198 : List (Nat × Nat × gm_I) := [(0, 1, .iconst 0, 0, 0, 0, 0), (1, 2, .istore_n 2, 0, 0, 0, 0), (2, 3, .aload_n 0, 0, 0, 0, 0), (3, 4, .arraylength, 0, 0, 0, 0), (4, 5, .istore_n 3, 0, 0, 0, 0), (5, 6, .iload_n 2, 0, 0, 0, 0), (6, 7, .iload_n 3, 0, 0, 0, 0), (7, 10, .if_icmp .ge 13, 0, 20, 0, 0), (10, 11, .aload_n 0, 0, 0, 0, 0), (11, 12, .iload_n 2, 0, 0, 0, 0), (12, 13, .iload_n 1, 0, 0, 0, 0), (13, 14, .iastore, 0, 0, 0, 0), (14, 17, .iinc 2 1, 0, 0, 0, 0), (17, 20, .goto (-12), 0, 5, 0, 0), (20, 21, .return_, 0, 0, 0, 0)]
def cd_199 : List (Nat × Nat × gm_I) := [(0, 3, .new 7, 0, 6, 0, 0), (3, 4, .dup, 0, 0, 0, 0), (4, 7, .invokespecial 9, 0, 70, 0, 0), (7, 8, .astore_n 1, 0, 0, 0, 0), (8, 11, .new 10, 7, 7, 0, 0), (11, 12, .dup, 0, 0, 0, 0), (12, 15, .invokespecial 12, 154, 113, 0, 0), (15, 16, .astore_n 2, 0, 0, 0, 0), (16, 17, .iconst 0, 0, 0, 0, 0), (17, 18, .istore_n 3, 0, 0, 0, 0), (18, 19, .iload_n 3, 0, 0, 0, 0), (19, 20, .aload_n 0, 0, 0, 0, 0), (20, 21, .arraylength, 0, 0, 0, 0), (21, 23, .bipush 6, 0, 0, 0, 0), (23, 24, .isub, 0, 0, 0, 0), (24, 27, .if_icmp .gt 1033, 0, 1057, 0, 0), (27, 28, .aload_n 0, 0, 0, 0, 0), (28, 29, .iload_n 3, 0, 0, 0, 0), (29, 30, .iaload, 0, 0, 0, 0), (30, 32, .bipush 63, 0, 0, 0, 0), (32, 33, .iand, 0, 0, 0, 0), (33, 180, .tableswitch 1018 0 32 #[147, 180, 203, 226, 249, 282, 315, 348, 391, 404, 417, 430, 463, 496, 519, 532, 555, 568, 581, 604, 617, 631, 654, 677, 700, 723, 766, 789, 842, 885, 948, 981, 1004], 0, 0, 0, 0), (180, 181, .aload_n 1, 0, 0, 0, 0), (181, 182, .aload_n 0, 0, 0, 0, 0), (182, 183, .iload_n 3, 0, 0, 0, 0), (183, 184, .iconst 1, 0, 0, 0, 0), (184, 185, .iadd, 0, 0, 0, 0), (185, 186, .iaload, 0, 0, 0, 0), (186, 187, .aload_n 0, 0, 0, 0, 0), (187, 188, .iload_n 3, 0, 0, 0, 0), (188, 189, .iconst 2, 0, 0, 0, 0), (189, 190, .iadd, 0, 0, 0, 0), (190, 191, .iaload, 0, 0, 0, 0), (191, 194, .invokevirtual 13, 14, 71, 0, 0), (194, 195, .aload_n 2, 0, 0, 0, 0), (195, 196, .aload_n 0, 0, 0, 0, 0), (196, 197, .iload_n 3, 0, 0, 0, 0), (197, 198, .iconst 1, 0, 0, 0, 0), (198, 199, .iadd, 0, 0, 0, 0), (199, 200, .iaload, 0, 0, 0, 0), (200, 201, .aload_n 0, 0, 0, 0, 0), (201, 202, .iload_n 3, 0, 0, 0, 0), (202, 203, .iconst 2, 0, 0, 0, 0), (203, 204, .iadd, 0, 0, 0, 0), (204, 205, .iaload, 0, 0, 0, 0), (205, 208, .invokevirtual 17, 166, 132, 0, 0), (208, 211, .if_icmp .eq 843, 0, 1051, 0, 0), (211, 212, .iconst 0, 0, 0, 0, 0), (212, 213, .ireturn, 0, 0, 0, 0), (213, 214, .aload_n 1, 0, 0, 0, 0), (214, 215, .aload_n 0, 0, 0, 0, 0), (215, 216, .iload_n 3, 0, 0, 0, 0), (216, 217, .iconst 1, 0, 0, 0, 0), (217, 218, .iadd, 0, 0, 0, 0), (218, 219, .iaload, 0, 0, 0, 0), (219, 222, .invokevirtual 18, 19, 72, 0, 0), (222, 223, .aload_n 2, 0, 0, 0, 0), (223, 224, .aload_n 0, 0, 0, 0, 0), (224, 225, .iload_n 3, 0, 0, 0, 0), (225, 226, .iconst 1, 0, 0, 0, 0), (226, 227, .iadd, 0, 0, 0, 0), (227, 228, .iaload, 0, 0, 0, 0), (228, 231, .invokevirtual 22, 168, 133, 0, 0), (231, 234, .if_icmp .eq 820, 0, 1051, 0, 0), (234, 235, .iconst 0, 0, 0, 0, 0), (235, 236, .ireturn, 0, 0, 0, 0), (236, 237, .aload_n 1, 0, 0, 0, 0), (237, 238, .aload_n 0, 0, 0, 0, 0), (238, 239, .iload_n 3, 0, 0, 0, 0), (239, 240, .iconst 1, 0, 0, 0, 0), (240, 241, .iadd, 0, 0, 0, 0), (241, 242, .iaload, 0, 0, 0, 0), (242, 245, .invokevirtual 23, 21, 73, 0, 0), (245, 246, .aload_n 2, 0, 0, 0, 0), (246, 247, .aload_n 0, 0, 0, 0, 0), (247, 248, .iload_n 3, 0, 0, 0, 0), (248, 249, .iconst 1, 0, 0, 0, 0), (249, 250, .iadd, 0, 0, 0, 0), (250, 251, .iaload, 0, 0, 0, 0), (251, 254, .invokevirtual 26, 169, 134, 0, 0), (254, 257, .if_icmp .eq 797, 0, 1051, 0, 0), (257, 258, .iconst 0, 0, 0, 0, 0), (258, 259, .ireturn, 0, 0, 0, 0), (259, 260, .aload_n 1, 0, 0, 0, 0), (260, 261, .aload_n 0, 0, 0, 0, 0), (261, 262, .iload_n 3, 0, 0, 0, 0), (262, 263, .iconst 1, 0, 0, 0, 0), (263, 264, .iadd, 0, 0, 0, 0), (264, 265, .iaload, 0, 0, 0, 0), (265, 268, .invokevirtual 27, 23, 74, 0, 0), (268, 269, .aload_n 2, 0, 0, 0, 0), (269, 270, .aload_n 0, 0, 0, 0, 0), (270, 271, .iload_n 3, 0, 0, 0, 0), (271, 272, .iconst 1, 0, 0, 0, 0), (272, 273, .iadd, 0, 0, 0, 0), (273, 274, .iaload, 0, 0, 0, 0), (274, 277, .invokevirtual 30, 170, 135, 0, 0), (277, 280, .if_icmp .eq 774, 0, 1051, 0, 0), (280, 281, .iconst 0, 0, 0, 0, 0), (281, 282, .ireturn, 0, 0, 0, 0), (282, 283, .aload_n 1, 0, 0, 0, 0), (283, 284, .aload_n 0, 0, 0, 0, 0), (284, 285, .iload_n 3, 0, 0, 0, 0), (285, 286, .iconst 1, 0, 0, 0, 0), (286, 287, .iadd, 0, 0, 0, 0), (287, 288, .iaload, 0, 0, 0, 0), (288, 289, .aload_n 0, 0, 0, 0, 0), (289, 290, .iload_n 3, 0, 0, 0, 0), (290, 291, .iconst 2, 0, 0, 0, 0), (291, 292, .iadd, 0, 0, 0, 0), (292, 293, .iaload, 0, 0, 0, 0), (293, 296, .invokevirtual 31, 25, 75, 0, 0), (296, 297, .aload_n 2, 0, 0, 0, 0), (297, 298, .aload_n 0, 0, 0, 0, 0), (298, 299, .iload_n 3, 0, 0, 0, 0), (299, 300, .iconst 1, 0, 0, 0, 0), (300, 301, .iadd, 0, 0, 0, 0), (301, 302, .iaload, 0, 0, 0, 0), (302, 303, .aload_n 0, 0, 0, 0, 0), (303, 304, .iload_n 3, 0, 0, 0, 0), (304, 305, .iconst 2, 0, 0, 0, 0), (305, 306, .iadd, 0, 0, 0, 0), (306, 307, .iaload, 0, 0, 0, 0), (307, 310, .invokevirtual 34, 171, 136, 0, 0), (310, 313, .if_icmp .eq 741, 0, 1051, 0, 0), (313, 314, .iconst 0, 0, 0, 0, 0), (314, 315, .ireturn, 0, 0, 0, 0), (315, 316, .aload_n 1, 0, 0, 0, 0), (316, 317, .aload_n 0, 0, 0, 0, 0), (317, 318, .iload_n 3, 0, 0, 0, 0), (318, 319, .iconst 1, 0, 0, 0, 0), (319, 320, .iadd, 0, 0, 0, 0), (320, 321, .iaload, 0, 0, 0, 0), (321, 322, .aload_n 0, 0, 0, 0, 0), (322, 323, .iload_n 3, 0, 0, 0, 0), (323, 324, .iconst 2, 0, 0, 0, 0), (324, 325, .iadd, 0, 0, 0, 0), (325, 326, .iaload, 0, 0, 0, 0), (326, 329, .invokevirtual 35, 31, 76, 0, 0), (329, 330, .aload_n 2, 0, 0, 0, 0), (330, 331, .aload_n 0, 0, 0, 0, 0), (331, 332, .iload_n 3, 0, 0, 0, 0), (332, 333, .iconst 1, 0, 0, 0, 0), (333, 334, .iadd, 0, 0, 0, 0), (334, 335, .iaload, 0, 0, 0, 0), (335, 336, .aload_n 0, 0, 0, 0, 0), (336, 337, .iload_n 3, 0, 0, 0, 0), (337, 338, .iconst 2, 0, 0, 0, 0), (338, 339, .iadd, 0, 0, 0, 0), (339, 340, .iaload, 0, 0, 0, 0), (340, 343, .invokevirtual 38, 177, 138, 0, 0), (343, 346, .if_icmp .eq 708, 0, 1051, 0, 0), (346, 347, .iconst 0, 0, 0, 0, 0), (347, 348, .ireturn, 0, 0, 0, 0), (348, 349, .aload_n 1, 0, 0, 0, 0), (349, 350, .aload_n 0, 0, 0, 0, 0), (350, 351, .iload_n 3, 0, 0, 0, 0), (351, 352, .iconst 1, 0, 0, 0, 0), (352, 353, .iadd, 0, 0, 0, 0), (353, 354, .iaload, 0, 0, 0, 0), (354, 355, .aload_n 0, 0, 0, 0, 0), (355, 356, .iload_n 3, 0, 0, 0, 0), (356, 357, .iconst 2, 0, 0, 0, 0), (357, 358, .iadd, 0, 0, 0, 0), (358, 359, .iaload, 0, 0, 0, 0), (359, 362, .invokevirtual 39, 32, 77, 0, 0), (362, 363, .aload_n 2, 0, 0, 0, 0), (363, 364, .aload_n 0, 0, 0, 0, 0), (364, 365, .iload_n 3, 0, 0, 0, 0), (365, 366, .iconst 1, 0, 0, 0, 0), (366, 367, .iadd, 0, 0, 0, 0), (367, 368, .iaload, 0, 0, 0, 0), (368, 369, .aload_n 0, 0, 0, 0, 0), (369, 370, .iload_n 3, 0, 0, 0, 0), (370, 371, .iconst 2, 0, 0, 0, 0), (371, 372, .iadd, 0, 0, 0, 0), (372, 373, .iaload, 0, 0, 0, 0), (373, 376, .invokevirtual 42, 179, 139, 0, 0), (376, 379, .if_icmp .eq 675, 0, 1051, 0, 0), (379, 380, .iconst 0, 0, 0, 0, 0), (380, 381, .ireturn, 0, 0, 0, 0), (381, 382, .aload_n 1, 0, 0, 0, 0), (382, 383, .aload_n 0, 0, 0, 0, 0), (383, 384, .iload_n 3, 0, 0, 0, 0), (384, 385, .iconst 1, 0, 0, 0, 0), (385, 386, .iadd, 0, 0, 0, 0), (386, 387, .iaload, 0, 0, 0, 0), (387, 388, .aload_n 0, 0, 0, 0, 0), (388, 389, .iload_n 3, 0, 0, 0, 0), (389, 390, .iconst 2, 0, 0, 0, 0), (390, 391, .iadd, 0, 0, 0, 0), (391, 392, .iaload, 0, 0, 0, 0), (392, 393, .aload_n 0, 0, 0, 0, 0), (393, 394, .iload_n 3, 0, 0, 0, 0), (394, 395, .iconst 3, 0, 0, 0, 0), (395, 396, .iadd, 0, 0, 0, 0), (396, 397, .iaload, 0, 0, 0, 0), (397, 400, .invokevirtual 43, 37, 78, 0, 0), (400, 401, .aload_n 2, 0, 0, 0, 0), (401, 402, .aload_n 0, 0, 0, 0, 0), (402, 403, .iload_n 3, 0, 0, 0, 0), (403, 404, .iconst 1, 0, 0, 0, 0), (404, 405, .iadd, 0, 0, 0, 0), (405, 406, .iaload, 0, 0, 0, 0), (406, 407, .aload_n 0, 0, 0, 0, 0), (407, 408, .iload_n 3, 0, 0, 0, 0), (408, 409, .iconst 2, 0, 0, 0, 0), (409, 410, .iadd, 0, 0, 0, 0), (410, 411, .iaload, 0, 0, 0, 0), (411, 412, .aload_n 0, 0, 0, 0, 0), (412, 413, .iload_n 3, 0, 0, 0, 0), (413, 414, .iconst 3, 0, 0, 0, 0), (414, 415, .iadd, 0, 0, 0, 0), (415, 416, .iaload, 0, 0, 0, 0), (416, 419, .invokevirtual 47, 222, 182, 0, 0), (419, 422, .if_icmp .eq 632, 0, 1051, 0, 0), (422, 423, .iconst 0, 0, 0, 0, 0), (423, 424, .ireturn, 0, 0, 0, 0), (424, 425, .aload_n 1, 0, 0, 0, 0), (425, 428, .invokevirtual 48, 76, 79, 0, 0), (428, 429, .aload_n 2, 0, 0, 0, 0), (429, 432, .invokevirtual 52, 180, 146, 0, 0), (432, 435, .if_icmp .eq 619, 0, 1051, 0, 0), (435, 436, .iconst 0, 0, 0, 0, 0), (436, 437, .ireturn, 0, 0, 0, 0), (437, 438, .aload_n 1, 0, 0, 0, 0), (438, 441, .invokevirtual 53, 78, 80, 0, 0), (441, 442, .aload_n 2, 0, 0, 0, 0), (442, 445, .invokevirtual 56, 188, 151, 0, 0), (445, 448, .if_icmp .eq 606, 0, 1051, 0, 0), (448, 449, .iconst 0, 0, 0, 0, 0), (449, 450, .ireturn, 0, 0, 0, 0), (450, 451, .aload_n 1, 0, 0, 0, 0), (451, 454, .invokevirtual 57, 90, 81, 0, 0), (454, 455, .aload_n 2, 0, 0, 0, 0), (455, 458, .invokevirtual 60, 193, 153, 0, 0), (458, 461, .if_icmp .eq 593, 0, 1051, 0, 0), (461, 462, .iconst 0, 0, 0, 0, 0), (462, 463, .ireturn, 0, 0, 0, 0), (463, 464, .aload_n 1, 0, 0, 0, 0), (464, 465, .aload_n 0, 0, 0, 0, 0), (465, 466, .iload_n 3, 0, 0, 0, 0), (466, 467, .iconst 1, 0, 0, 0, 0), (467, 468, .iadd, 0, 0, 0, 0), (468, 469, .iaload, 0, 0, 0, 0), (469, 470, .aload_n 0, 0, 0, 0, 0), (470, 471, .iload_n 3, 0, 0, 0, 0), (471, 472, .iconst 2, 0, 0, 0, 0), (472, 473, .iadd, 0, 0, 0, 0), (473, 474, .iaload, 0, 0, 0, 0), (474, 477, .invokevirtual 61, 91, 82, 0, 0), (477, 478, .aload_n 2, 0, 0, 0, 0), (478, 479, .aload_n 0, 0, 0, 0, 0), (479, 480, .iload_n 3, 0, 0, 0, 0), (480, 481, .iconst 1, 0, 0, 0, 0), (481, 482, .iadd, 0, 0, 0, 0), (482, 483, .iaload, 0, 0, 0, 0), (483, 484, .aload_n 0, 0, 0, 0, 0), (484, 485, .iload_n 3, 0, 0, 0, 0), (485, 486, .iconst 2, 0, 0, 0, 0), (486, 487, .iadd, 0, 0, 0, 0), (487, 488, .iaload, 0, 0, 0, 0), (488, 491, .invokevirtual 64, 195, 154, 0, 0), (491, 494, .if_icmp .eq 560, 0, 1051, 0, 0), (494, 495, .iconst 0, 0, 0, 0, 0), (495, 496, .ireturn, 0, 0, 0, 0), (496, 497, .aload_n 1, 0, 0, 0, 0), (497, 498, .aload_n 0, 0, 0, 0, 0), (498, 499, .iload_n 3, 0, 0, 0, 0), (499, 500, .iconst 1, 0, 0, 0, 0), (500, 501, .iadd, 0, 0, 0, 0), (501, 502, .iaload, 0, 0, 0, 0), (502, 503, .aload_n 0, 0, 0, 0, 0), (503, 504, .iload_n 3, 0, 0, 0, 0), (504, 505, .iconst 2, 0, 0, 0, 0), (505, 506, .iadd, 0, 0, 0, 0), (506, 507, .iaload, 0, 0, 0, 0), (507, 510, .invokevirtual 65, 94, 83, 0, 0), (510, 511, .aload_n 2, 0, 0, 0, 0), (511, 512, .aload_n 0, 0, 0, 0, 0), (512, 513, .iload_n 3, 0, 0, 0, 0), (513, 514, .iconst 1, 0, 0, 0, 0), (514, 515, .iadd, 0, 0, 0, 0), (515, 516, .iaload, 0, 0, 0, 0), (516, 517, .aload_n 0, 0, 0, 0, 0), (517, 518, .iload_n 3, 0, 0, 0, 0), (518, 519, .iconst 2, 0, 0, 0, 0), (519, 520, .iadd, 0, 0, 0, 0), (520, 521, .iaload, 0, 0, 0, 0), (521, 524, .invokevirtual 68, 196, 156, 0, 0), (524, 527, .if_icmp .eq 527, 0, 1051, 0, 0), (527, 528, .iconst 0, 0, 0, 0, 0), (528, 529, .ireturn, 0, 0, 0, 0), (529, 530, .aload_n 1, 0, 0, 0, 0), (530, 531, .aload_n 0, 0, 0, 0, 0), (531, 532, .iload_n 3, 0, 0, 0, 0), (532, 533, .iconst 1, 0, 0, 0, 0), (533, 534, .iadd, 0, 0, 0, 0), (534, 535, .iaload, 0, 0, 0, 0), (535, 538, .invokevirtual 69, 95, 84, 0, 0), (538, 539, .aload_n 2, 0, 0, 0, 0), (539, 540, .aload_n 0, 0, 0, 0, 0), (540, 541, .iload_n 3, 0, 0, 0, 0), (541, 542, .iconst 1, 0, 0, 0, 0), (542, 543, .iadd, 0, 0, 0, 0), (543, 544, .iaload, 0, 0, 0, 0), (544, 547, .invokevirtual 72, 198, 158, 0, 0), (547, 550, .if_icmp .eq 504, 0, 1051, 0, 0), (550, 551, .iconst 0, 0, 0, 0, 0), (551, 552, .ireturn, 0, 0, 0, 0), (552, 553, .aload_n 1, 0, 0, 0, 0), (553, 556, .invokevirtual 73, 98, 85, 0, 0), (556, 557, .aload_n 2, 0, 0, 0, 0), (557, 560, .invokevirtual 76, 200, 160, 0, 0), (560, 563, .if_icmp .eq 491, 0, 1051, 0, 0), (563, 564, .iconst 0, 0, 0, 0, 0), (564, 565, .ireturn, 0, 0, 0, 0), (565, 566, .aload_n 1, 0, 0, 0, 0), (566, 567, .aload_n 0, 0, 0, 0, 0), (567, 568, .iload_n 3, 0, 0, 0, 0), (568, 569, .iconst 1, 0, 0, 0, 0), (569, 570, .iadd, 0, 0, 0, 0), (570, 571, .iaload, 0, 0, 0, 0), (571, 574, .invokevirtual 77, 105, 86, 0, 0), (574, 575, .aload_n 2, 0, 0, 0, 0), (575, 576, .aload_n 0, 0, 0, 0, 0), (576, 577, .iload_n 3, 0, 0, 0, 0), (577, 578, .iconst 1, 0, 0, 0, 0), (578, 579, .iadd, 0, 0, 0, 0), (579, 580, .iaload, 0, 0, 0, 0), (580, 583, .invokevirtual 80, 202, 162, 0, 0), (583, 586, .if_icmp .eq 468, 0, 1051, 0, 0), (586, 587, .iconst 0, 0, 0, 0, 0), (587, 588, .ireturn, 0, 0, 0, 0), (588, 589, .aload_n 1, 0, 0, 0, 0), (589, 592, .invokevirtual 81, 108, 87, 0, 0), (592, 593, .aload_n 2, 0, 0, 0, 0), (593, 596, .invokevirtual 84, 205, 165, 0, 0), (596, 599, .if_icmp .eq 455, 0, 1051, 0, 0), (599, 600, .iconst 0, 0, 0, 0, 0), (600, 601, .ireturn, 0, 0, 0, 0), (601, 602, .aload_n 1, 0, 0, 0, 0), (602, 605, .invokevirtual 85, 109, 88, 0, 0), (605, 606, .aload_n 2, 0, 0, 0, 0), (606, 609, .invokevirtual 88, 207, 166, 0, 0), (609, 612, .if_icmp .eq 442, 0, 1051, 0, 0), (612, 613, .iconst 0, 0, 0, 0, 0), (613, 614, .ireturn, 0, 0, 0, 0), (614, 615, .aload_n 1, 0, 0, 0, 0), (615, 616, .aload_n 0, 0, 0, 0, 0), (616, 617, .iload_n 3, 0, 0, 0, 0), (617, 618, .iconst 1, 0, 0, 0, 0), (618, 619, .iadd, 0, 0, 0, 0), (619, 620, .iaload, 0, 0, 0, 0), (620, 623, .invokevirtual 89, 110, 89, 0, 0), (623, 624, .aload_n 2, 0, 0, 0, 0), (624, 625, .aload_n 0, 0, 0, 0, 0), (625, 626, .iload_n 3, 0, 0, 0, 0), (626, 627, .iconst 1, 0, 0, 0, 0), (627, 628, .iadd, 0, 0, 0, 0), (628, 629, .iaload, 0, 0, 0, 0), (629, 632, .invokevirtual 92, 209, 168, 0, 0), (632, 635, .if_icmp .eq 419, 0, 1051, 0, 0), (635, 636, .iconst 0, 0, 0, 0, 0), (636, 637, .ireturn, 0, 0, 0, 0), (637, 638, .aload_n 1, 0, 0, 0, 0), (638, 641, .invokevirtual 93, 113, 90, 0, 0), (641, 642, .aload_n 2, 0, 0, 0, 0), (642, 645, .invokevirtual 96, 211, 177, 0, 0), (645, 648, .if_icmp .eq 406, 0, 1051, 0, 0), (648, 649, .iconst 0, 0, 0, 0, 0), (649, 650, .ireturn, 0, 0, 0, 0), (650, 651, .aload_n 1, 0, 0, 0, 0), (651, 654, .invokevirtual 97, 115, 91, 0, 0), (654, 655, .aload_n 2, 0, 0, 0, 0), (655, 658, .invokevirtual 101, 220, 179, 0, 0), (658, 659, .lcmp, 0, 0, 0, 0), (659, 662, .ifCond .eq 392, 0, 1051, 0, 0), (662, 663, .iconst 0, 0, 0, 0, 0), (663, 664, .ireturn, 0, 0, 0, 0), (664, 665, .aload_n 1, 0, 0, 0, 0), (665, 666, .aload_n 0, 0, 0, 0, 0), (666, 667, .iload_n 3, 0, 0, 0, 0), (667, 668, .iconst 1, 0, 0, 0, 0), (668, 669, .iadd, 0, 0, 0, 0), (669, 670, .iaload, 0, 0, 0, 0), (670, 673, .invokevirtual 102, 116, 92, 0, 0), (673, 674, .aload_n 2, 0, 0, 0, 0), (674, 675, .aload_n 0, 0, 0, 0, 0), (675, 676, .iload_n 3, 0, 0, 0, 0), (676, 677, .iconst 1, 0, 0, 0, 0), (677, 678, .iadd, 0, 0, 0, 0), (678, 679, .iaload, 0, 0, 0, 0), (679, 682, .invokevirtual 105, 225, 184, 0, 0), (682, 685, .if_icmp .eq 369, 0, 1051, 0, 0), (685, 686, .iconst 0, 0, 0, 0, 0), (686, 687, .ireturn, 0, 0, 0, 0), (687, 688, .aload_n 1, 0, 0, 0, 0), (688, 689, .aload_n 0, 0, 0, 0, 0), (689, 690, .iload_n 3, 0, 0, 0, 0), (690, 691, .iconst 1, 0, 0, 0, 0), (691, 692, .iadd, 0, 0, 0, 0), (692, 693, .iaload, 0, 0, 0, 0), (693, 696, .invokevirtual 106, 121, 93, 0, 0), (696, 697, .aload_n 2, 0, 0, 0, 0), (697, 698, .aload_n 0, 0, 0, 0, 0), (698, 699, .iload_n 3, 0, 0, 0, 0), (699, 700, .iconst 1, 0, 0, 0, 0), (700, 701, .iadd, 0, 0, 0, 0), (701, 702, .iaload, 0, 0, 0, 0), (702, 705, .invokevirtual 109, 227, 186, 0, 0), (705, 708, .if_icmp .eq 346, 0, 1051, 0, 0), (708, 709, .iconst 0, 0, 0, 0, 0), (709, 710, .ireturn, 0, 0, 0, 0), (710, 711, .aload_n 1, 0, 0, 0, 0), (711, 712, .aload_n 0, 0, 0, 0, 0), (712, 713, .iload_n 3, 0, 0, 0, 0), (713, 714, .iconst 1, 0, 0, 0, 0), (714, 715, .iadd, 0, 0, 0, 0), (715, 716, .iaload, 0, 0, 0, 0), (716, 719, .invokevirtual 110, 123, 94, 0, 0), (719, 720, .aload_n 2, 0, 0, 0, 0), (720, 721, .aload_n 0, 0, 0, 0, 0), (721, 722, .iload_n 3, 0, 0, 0, 0), (722, 723, .iconst 1, 0, 0, 0, 0), (723, 724, .iadd, 0, 0, 0, 0), (724, 725, .iaload, 0, 0, 0, 0), (725, 728, .invokevirtual 113, 229, 187, 0, 0), (728, 731, .if_icmp .eq 323, 0, 1051, 0, 0), (731, 732, .iconst 0, 0, 0, 0, 0), (732, 733, .ireturn, 0, 0, 0, 0), (733, 734, .aload_n 1, 0, 0, 0, 0), (734, 735, .aload_n 0, 0, 0, 0, 0), (735, 736, .iload_n 3, 0, 0, 0, 0), (736, 737, .iconst 1, 0, 0, 0, 0), (737, 738, .iadd, 0, 0, 0, 0), (738, 739, .iaload, 0, 0, 0, 0), (739, 742, .invokevirtual 114, 125, 95, 0, 0), (742, 743, .aload_n 2, 0, 0, 0, 0), (743, 744, .aload_n 0, 0, 0, 0, 0), (744, 745, .iload_n 3, 0, 0, 0, 0), (745, 746, .iconst 1, 0, 0, 0, 0), (746, 747, .iadd, 0, 0, 0, 0), (747, 748, .iaload, 0, 0, 0, 0), (748, 751, .invokevirtual 117, 230, 188, 0, 0), (751, 754, .if_icmp .eq 300, 0, 1051, 0, 0), (754, 755, .iconst 0, 0, 0, 0, 0), (755, 756, .ireturn, 0, 0, 0, 0), (756, 757, .aload_n 1, 0, 0, 0, 0), (757, 758, .aload_n 0, 0, 0, 0, 0), (758, 759, .iload_n 3, 0, 0, 0, 0), (759, 760, .iconst 1, 0, 0, 0, 0), (760, 761, .iadd, 0, 0, 0, 0), (761, 762, .iaload, 0, 0, 0, 0), (762, 763, .aload_n 0, 0, 0, 0, 0), (763, 764, .iload_n 3, 0, 0, 0, 0), (764, 765, .iconst 2, 0, 0, 0, 0), (765, 766, .iadd, 0, 0, 0, 0), (766, 767, .iaload, 0, 0, 0, 0), (767, 768, .aload_n 0, 0, 0, 0, 0), (768, 769, .iload_n 3, 0, 0, 0, 0), (769, 770, .iconst 3, 0, 0, 0, 0), (770, 771, .iadd, 0, 0, 0, 0), (771, 772, .iaload, 0, 0, 0, 0), (772, 775, .invokevirtual 118, 126, 96, 0, 0), (775, 776, .aload_n 2, 0, 0, 0, 0), (776, 777, .aload_n 0, 0, 0, 0, 0), (777, 778, .iload_n 3, 0, 0, 0, 0), (778, 779, .iconst 1, 0, 0, 0, 0), (779, 780, .iadd, 0, 0, 0, 0), (780, 781, .iaload, 0, 0, 0, 0), (781, 782, .aload_n 0, 0, 0, 0, 0), (782, 783, .iload_n 3, 0, 0, 0, 0), (783, 784, .iconst 2, 0, 0, 0, 0), (784, 785, .iadd, 0, 0, 0, 0), (785, 786, .iaload, 0, 0, 0, 0), (786, 787, .aload_n 0, 0, 0, 0, 0), (787, 788, .iload_n 3, 0, 0, 0, 0), (788, 789, .iconst 3, 0, 0, 0, 0), (789, 790, .iadd, 0, 0, 0, 0), (790, 791, .iaload, 0, 0, 0, 0), (791, 794, .invokevirtual 121, 156, 122, 0, 0), (794, 797, .if_icmp .eq 257, 0, 1051, 0, 0), (797, 798, .iconst 0, 0, 0, 0, 0), (798, 799, .ireturn, 0, 0, 0, 0), (799, 800, .aload_n 1, 0, 0, 0, 0), (800, 801, .aload_n 0, 0, 0, 0, 0), (801, 802, .iload_n 3, 0, 0, 0, 0), (802, 803, .iconst 1, 0, 0, 0, 0), (803, 804, .iadd, 0, 0, 0, 0), (804, 805, .iaload, 0, 0, 0, 0), (805, 808, .invokevirtual 122, 130, 97, 0, 0), (808, 809, .aload_n 2, 0, 0, 0, 0), (809, 810, .aload_n 0, 0, 0, 0, 0), (810, 811, .iload_n 3, 0, 0, 0, 0), (811, 812, .iconst 1, 0, 0, 0, 0), (812, 813, .iadd, 0, 0, 0, 0), (813, 814, .iaload, 0, 0, 0, 0), (814, 817, .invokevirtual 125, 160, 123, 0, 0), (817, 820, .if_icmp .eq 234, 0, 1051, 0, 0), (820, 821, .iconst 0, 0, 0, 0, 0), (821, 822, .ireturn, 0, 0, 0, 0), (822, 823, .aload_n 1, 0, 0, 0, 0), (823, 824, .aload_n 0, 0, 0, 0, 0), (824, 825, .iload_n 3, 0, 0, 0, 0), (825, 826, .iconst 1, 0, 0, 0, 0), (826, 827, .iadd, 0, 0, 0, 0), (827, 828, .iaload, 0, 0, 0, 0), (828, 829, .aload_n 0, 0, 0, 0, 0), (829, 830, .iload_n 3, 0, 0, 0, 0), (830, 831, .iconst 2, 0, 0, 0, 0), (831, 832, .iadd, 0, 0, 0, 0), (832, 833, .iaload, 0, 0, 0, 0), (833, 834, .aload_n 0, 0, 0, 0, 0), (834, 835, .iload_n 3, 0, 0, 0, 0), (835, 836, .iconst 3, 0, 0, 0, 0), (836, 837, .iadd, 0, 0, 0, 0), (837, 838, .iaload, 0, 0, 0, 0), (838, 839, .aload_n 0, 0, 0, 0, 0), (839, 840, .iload_n 3, 0, 0, 0, 0), (840, 841, .iconst 4, 0, 0, 0, 0), (841, 842, .iadd, 0, 0, 0, 0), (842, 843, .iaload, 0, 0, 0, 0), (843, 846, .invokevirtual 126, 131, 98, 0, 0), (846, 847, .aload_n 2, 0, 0, 0, 0), (847, 848, .aload_n 0, 0, 0, 0, 0), (848, 849, .iload_n 3, 0, 0, 0, 0), (849, 850, .iconst 1, 0, 0, 0, 0), (850, 851, .iadd, 0, 0, 0, 0), (851, 852, .iaload, 0, 0, 0, 0), (852, 853, .aload_n 0, 0, 0, 0, 0), (853, 854, .iload_n 3, 0, 0, 0, 0), (854, 855, .iconst 2, 0, 0, 0, 0), (855, 856, .iadd, 0, 0, 0, 0), (856, 857, .iaload, 0, 0, 0, 0), (857, 858, .aload_n 0, 0, 0, 0, 0), (858, 859, .iload_n 3, 0, 0, 0, 0), (859, 860, .iconst 3, 0, 0, 0, 0), (860, 861, .iadd, 0, 0, 0, 0), (861, 862, .iaload, 0, 0, 0, 0), (862, 863, .aload_n 0, 0, 0, 0, 0), (863, 864, .iload_n 3, 0, 0, 0, 0), (864, 865, .iconst 4, 0, 0, 0, 0), (865, 866, .iadd, 0, 0, 0, 0), (866, 867, .iaload, 0, 0, 0, 0), (867, 870, .invokevirtual 130, 161, 126, 0, 0), (870, 873, .if_icmp .eq 181, 0, 1051, 0, 0), (873, 874, .iconst 0, 0, 0, 0, 0), (874, 875, .ireturn, 0, 0, 0, 0), (875, 876, .aload_n 1, 0, 0, 0, 0), (876, 877, .aload_n 0, 0, 0, 0, 0), (877, 878, .iload_n 3, 0, 0, 0, 0), (878, 879, .iconst 1, 0, 0, 0, 0), (879, 880, .iadd, 0, 0, 0, 0), (880, 881, .iaload, 0, 0, 0, 0), (881, 882, .aload_n 0, 0, 0, 0, 0), (882, 883, .iload_n 3, 0, 0, 0, 0), (883, 884, .iconst 2, 0, 0, 0, 0), (884, 885, .iadd, 0, 0, 0, 0), (885, 886, .iaload, 0, 0, 0, 0), (886, 887, .aload_n 0, 0, 0, 0, 0), (887, 888, .iload_n 3, 0, 0, 0, 0), (888, 889, .iconst 3, 0, 0, 0, 0), (889, 890, .iadd, 0, 0, 0, 0), (890, 891, .iaload, 0, 0, 0, 0), (891, 894, .invokevirtual 131, 134, 99, 0, 0), (894, 895, .aload_n 2, 0, 0, 0, 0), (895, 896, .aload_n 0, 0, 0, 0, 0), (896, 897, .iload_n 3, 0, 0, 0, 0), (897, 898, .iconst 1, 0, 0, 0, 0), (898, 899, .iadd, 0, 0, 0, 0), (899, 900, .iaload, 0, 0, 0, 0), (900, 901, .aload_n 0, 0, 0, 0, 0), (901, 902, .iload_n 3, 0, 0, 0, 0), (902, 903, .iconst 2, 0, 0, 0, 0), (903, 904, .iadd, 0, 0, 0, 0), (904, 905, .iaload, 0, 0, 0, 0), (905, 906, .aload_n 0, 0, 0, 0, 0), (906, 907, .iload_n 3, 0, 0, 0, 0), (907, 908, .iconst 3, 0, 0, 0, 0), (908, 909, .iadd, 0, 0, 0, 0), (909, 910, .iaload, 0, 0, 0, 0), (910, 913, .invokevirtual 134, 164, 127, 0, 0), (913, 916, .if_icmp .eq 138, 0, 1051, 0, 0), (916, 917, .iconst 0, 0, 0, 0, 0), (917, 918, .ireturn, 0, 0, 0, 0), (918, 919, .aload_n 1, 0, 0, 0, 0), (919, 920, .aload_n 0, 0, 0, 0, 0), (920, 921, .iload_n 3, 0, 0, 0, 0), (921, 922, .iconst 1, 0, 0, 0, 0), (922, 923, .iadd, 0, 0, 0, 0), (923, 924, .iaload, 0, 0, 0, 0), (924, 925, .aload_n 0, 0, 0, 0, 0), (925, 926, .iload_n 3, 0, 0, 0, 0), (926, 927, .iconst 2, 0, 0, 0, 0), (927, 928, .iadd, 0, 0, 0, 0), (928, 929, .iaload, 0, 0, 0, 0), (929, 930, .aload_n 0, 0, 0, 0, 0), (930, 931, .iload_n 3, 0, 0, 0, 0), (931, 932, .iconst 3, 0, 0, 0, 0), (932, 933, .iadd, 0, 0, 0, 0), (933, 934, .iaload, 0, 0, 0, 0), (934, 935, .aload_n 0, 0, 0, 0, 0), (935, 936, .iload_n 3, 0, 0, 0, 0), (936, 937, .iconst 4, 0, 0, 0, 0), (937, 938, .iadd, 0, 0, 0, 0), (938, 939, .iaload, 0, 0, 0, 0), (939, 940, .aload_n 0, 0, 0, 0, 0), (940, 941, .iload_n 3, 0, 0, 0, 0), (941, 942, .iconst 5, 0, 0, 0, 0), (942, 943, .iadd, 0, 0, 0, 0), (943, 944, .iaload, 0, 0, 0, 0), (944, 947, .invokevirtual 135, 135, 100, 0, 0), (947, 948, .aload_n 2, 0, 0, 0, 0), (948, 949, .aload_n 0, 0, 0, 0, 0), (949, 950, .iload_n 3, 0, 0, 0, 0), (950, 951, .iconst 1, 0, 0, 0, 0), (951, 952, .iadd, 0, 0, 0, 0), (952, 953, .iaload, 0, 0, 0, 0), (953, 954, .aload_n 0, 0, 0, 0, 0), (954, 955, .iload_n 3, 0, 0, 0, 0), (955, 956, .iconst 2, 0, 0, 0, 0), (956, 957, .iadd, 0, 0, 0, 0), (957, 958, .iaload, 0, 0, 0, 0), (958, 959, .aload_n 0, 0, 0, 0, 0), (959, 960, .iload_n 3, 0, 0, 0, 0), (960, 961, .iconst 3, 0, 0, 0, 0), (961, 962, .iadd, 0, 0, 0, 0), (962, 963, .iaload, 0, 0, 0, 0), (963, 964, .aload_n 0, 0, 0, 0, 0), (964, 965, .iload_n 3, 0, 0, 0, 0), (965, 966, .iconst 4, 0, 0, 0, 0), (966, 967, .iadd, 0, 0, 0, 0), (967, 968, .iaload, 0, 0, 0, 0), (968, 969, .aload_n 0, 0, 0, 0, 0), (969, 970, .iload_n 3, 0, 0, 0, 0), (970, 971, .iconst 5, 0, 0, 0, 0), (971, 972, .iadd, 0, 0, 0, 0), (972, 973, .iaload, 0, 0, 0, 0), (973, 976, .invokevirtual 139, 165, 128, 0, 0), (976, 979, .if_icmp .eq 75, 0, 1051, 0, 0), (979, 980, .iconst 0, 0, 0, 0, 0), (980, 981, .ireturn, 0, 0, 0, 0), (981, 982, .aload_n 1, 0, 0, 0, 0), (982, 983, .aload_n 0, 0, 0, 0, 0), (983, 984, .iload_n 3, 0, 0, 0, 0), (984, 985, .iconst 1, 0, 0, 0, 0), (985, 986, .iadd, 0, 0, 0, 0), (986, 987, .iaload, 0, 0, 0, 0), (987, 988, .aload_n 0, 0, 0, 0, 0), (988, 989, .iload_n 3, 0, 0, 0, 0), (989, 990, .iconst 2, 0, 0, 0, 0), (990, 991, .iadd, 0, 0, 0, 0), (991, 992, .iaload, 0, 0, 0, 0), (992, 995, .invokevirtual 140, 138, 101, 0, 0), (995, 996, .aload_n 2, 0, 0, 0, 0), (996, 997, .aload_n 0, 0, 0, 0, 0), (997, 998, .iload_n 3, 0, 0, 0, 0), (998, 999, .iconst 1, 0, 0, 0, 0), (999, 1000, .iadd, 0, 0, 0, 0), (1000, 1001, .iaload, 0, 0, 0, 0), (1001, 1002, .aload_n 0, 0, 0, 0, 0), (1002, 1003, .iload_n 3, 0, 0, 0, 0), (1003, 1004, .iconst 2, 0, 0, 0, 0), (1004, 1005, .iadd, 0, 0, 0, 0), (1005, 1006, .iaload, 0, 0, 0, 0), (1006, 1009, .invokevirtual 143, 231, 189, 0, 0), (1009, 1012, .if_icmp .eq 42, 0, 1051, 0, 0), (1012, 1013, .iconst 0, 0, 0, 0, 0), (1013, 1014, .ireturn, 0, 0, 0, 0), (1014, 1015, .aload_n 1, 0, 0, 0, 0), (1015, 1016, .aload_n 0, 0, 0, 0, 0), (1016, 1017, .iload_n 3, 0, 0, 0, 0), (1017, 1018, .iconst 1, 0, 0, 0, 0), (1018, 1019, .iadd, 0, 0, 0, 0), (1019, 1020, .iaload, 0, 0, 0, 0), (1020, 1023, .invokevirtual 144, 139, 102, 0, 0), (1023, 1024, .aload_n 2, 0, 0, 0, 0), (1024, 1025, .aload_n 0, 0, 0, 0, 0), (1025, 1026, .iload_n 3, 0, 0, 0, 0), (1026, 1027, .iconst 1, 0, 0, 0, 0), (1027, 1028, .iadd, 0, 0, 0, 0), (1028, 1029, .iaload, 0, 0, 0, 0), (1029, 1032, .invokevirtual 147, 232, 192, 0, 0), (1032, 1035, .if_icmp .eq 19, 0, 1051, 0, 0), (1035, 1036, .iconst 0, 0, 0, 0, 0), (1036, 1037, .ireturn, 0, 0, 0, 0), (1037, 1038, .aload_n 1, 0, 0, 0, 0), (1038, 1041, .invokevirtual 148, 141, 103, 0, 0), (1041, 1042, .aload_n 2, 0, 0, 0, 0), (1042, 1045, .invokevirtual 151, 235, 193, 0, 0), (1045, 1046, .lcmp, 0, 0, 0, 0), (1046, 1049, .ifCond .eq 5, 0, 1051, 0, 0), (1049, 1050, .iconst 0, 0, 0, 0, 0), (1050, 1051, .ireturn, 0, 0, 0, 0), (1051, 1054, .iinc 3 6, 0, 0, 0, 0), (1054, 1057, .goto (-1036), 0, 18, 0, 0), (1057, 1058, .iconst 1, 0, 0, 0, 0), (1058, 1059, .ireturn, 0, 0, 0, 0)]
def gm_PT : List gm_M := [(yX0_init, cX0_init, 1, none, 0, 0, 1, 20, 1, 7, cd_0),
  (yX0_resize, cX0_resize, 3, none, 0, 2, 1, 23, 0, 0, cd_1),
  (yX0_changeWish, cX0_changeWish, 2, none, 0, 1, 0, 0, 0, 0, cd_2),
  (yX0_changeLength, cX0_changeLength, 2, none, 0, 1, 0, 0, 0, 0, cd_3),
  (yX0_changeSides, cX0_changeSides, 2, none, 0, 1, 0, 0, 0, 0, cd_4),
  (yX0_changeRow, cX0_changeRow, 3, none, 0, 2, 0, 0, 0, 0, cd_5),
  (yX0_hasRow, cX0_hasRow, 2, (some .boolean), 0, 1, 0, 0, 0, 0, cd_6),
  (yX0_hasCell, cX0_hasCell, 3, (some .boolean), 0, 2, 1, 21, 0, 0, cd_7),
  (yX0_isAtOpenSide, cX0_isAtOpenSide, 3, (some .boolean), 0, 2, 0, 0, 0, 0, cd_8),
  (yX0_numberOf, cX0_numberOf, 3, (some .int), 0, 2, 0, 0, 0, 0, cd_9),
  (yX0_cellCount, cX0_cellCount, 1, (some .int), 0, 0, 0, 0, 0, 0, cd_10),
  (yX0_faultyCount, cX0_faultyCount, 3, (some .int), 0, 0, 1, 20, 0, 0, cd_11),
  (yX1_init, cX1_init, 2, none, 1, 1, 1, 20, 4, 486, cd_12),
  (yX1_chainCount, cX1_chainCount, 1, (some .int), 1, 0, 4, 88, 0, 0, cd_13),
  (yX1_stoppingCells, cX1_stoppingCells, 1, (some .long), 1, 0, 4, 88, 0, 0, cd_14),
  (yX1_refresh, cX1_refresh, 3, none, 1, 0, 3, 66, 0, 0, cd_15),
  (yX1_takeKinds, cX1_takeKinds, 4, none, 1, 0, 1, 23, 0, 0, cd_16),
  (yX1_lastNodeOfNewChain, cX1_lastNodeOfNewChain, 3, (some .int), 1, 0, 2, 44, 0, 0, cd_17),
  (yX1_goOnFromEntry, cX1_goOnFromEntry, 3, none, 1, 1, 1, 22, 0, 0, cd_18),
  (yX1_goOnFromExit, cX1_goOnFromExit, 3, none, 1, 1, 1, 22, 0, 0, cd_19),
  (yX1_reach, cX1_reach, 3, none, 1, 2, 0, 0, 0, 0, cd_20),
  (yX1_addChain, cX1_addChain, 5, none, 1, 1, 0, 0, 0, 0, cd_21),
  (yX1_cellsNotPassed, cX1_cellsNotPassed, 6, (some .long), 1, 0, 1, 22, 0, 0, cd_22),
  (yX1_placeOf, cX1_placeOf, 2, (some .int), 1, 2, 0, 0, 0, 0, cd_23),
  (yX2_init, cX2_init, 1, none, 2, 0, 1, 20, 1, 7, cd_24),
  (yX2_become, cX2_become, 2, none, 2, 1, 1, 49, 0, 0, cd_25),
  (yX2_beginOn, cX2_beginOn, 2, none, 2, 1, 0, 0, 0, 0, cd_26),
  (yX2_suits, cX2_suits, 2, (some .boolean), 2, 1, 0, 0, 0, 0, cd_27),
  (yX2_seatOrFirst, cX2_seatOrFirst, 3, (some .int), 2, 2, 0, 0, 0, 0, cd_28),
  (yX2_brokenOn, cX2_brokenOn, 4, (some .int), 2, 1, 3, 68, 0, 0, cd_29),
  (yX2_wideGaps, cX2_wideGaps, 4, (some .int), 2, 2, 2, 44, 0, 0, cd_30),
  (yX2_farTasks, cX2_farTasks, 5, (some .int), 2, 3, 2, 44, 0, 0, cd_31),
  (yX3_init, cX3_init, 2, none, 3, 1, 2, 40, 14, 924, cd_32),
  (yX3_refresh, cX3_refresh, 1, none, 3, 0, 3, 74, 0, 0, cd_33),
  (yX3_canPlaceBy, cX3_canPlaceBy, 4, (some .boolean), 3, 2, 2, 51, 0, 0, cd_34),
  (yX3_canPlace, cX3_canPlace, 7, (some .boolean), 3, 4, 1, 25, 0, 0, cd_35),
  (yX3_isWhole, cX3_isWhole, 1, (some .boolean), 3, 0, 4, 94, 0, 0, cd_36),
  (yX3_seatsOfRow, cX3_seatsOfRow, 2, (some .int), 3, 1, 4, 94, 0, 0, cd_37),
  (yX3_seatsOfAllRows, cX3_seatsOfAllRows, 3, (some .int), 3, 0, 4, 94, 0, 0, cd_38),
  (yX3_firstRowOfWitness, cX3_firstRowOfWitness, 1, (some .int), 3, 0, 4, 96, 0, 0, cd_39),
  (yX3_lastRowOfWitness, cX3_lastRowOfWitness, 1, (some .int), 3, 0, 4, 96, 0, 0, cd_40),
  (yX3_coreOfRow, cX3_coreOfRow, 2, (some .int), 3, 1, 4, 96, 0, 0, cd_41),
  (yX3_criticalOfRow, cX3_criticalOfRow, 2, (some .int), 3, 1, 4, 96, 0, 0, cd_42),
  (yX3_refreshMarks, cX3_refreshMarks, 1, none, 3, 0, 3, 76, 0, 0, cd_43),
  (yX3_markCritical, cX3_markCritical, 3, none, 3, 0, 1, 25, 0, 0, cd_44),
  (yX3_markWitness, cX3_markWitness, 3, none, 3, 0, 2, 51, 0, 0, cd_45),
  (yX3_markCore, cX3_markCore, 6, none, 3, 0, 2, 51, 0, 0, cd_46),
  (yX3_leastLength, cX3_leastLength, 2, (some .int), 3, 0, 3, 74, 0, 0, cd_47),
  (yX3_greatestWish, cX3_greatestWish, 2, (some .int), 3, 0, 3, 74, 0, 0, cd_48),
  (yX3_fewestMoves, cX3_fewestMoves, 3, (some .int), 3, 1, 4, 94, 0, 0, cd_49),
  (yX3_addMovesOfRow, cX3_addMovesOfRow, 4, none, 3, 2, 2, 49, 0, 0, cd_50),
  (yX3_movesTo, cX3_movesTo, 4, (some .int), 3, 1, 1, 22, 0, 0, cd_51),
  (yX3_fewestBelow, cX3_fewestBelow, 4, (some .int), 3, 2, 1, 26, 0, 0, cd_52),
  (yX3_cheapest, cX3_cheapest, 7, (some .int), 3, 2, 0, 0, 0, 0, cd_53),
  (yX3_layFewest, cX3_layFewest, 7, none, 3, 1, 1, 26, 0, 0, cd_54),
  (yX4_init, cX4_init, 1, none, 4, 0, 1, 20, 3, 315, cd_55),
  (yX4_prepare, cX4_prepare, 5, none, 4, 3, 2, 46, 0, 0, cd_56),
  (yX4_addUnlessWide, cX4_addUnlessWide, 5, none, 4, 1, 1, 21, 0, 0, cd_57),
  (yX4_joinSeats, cX4_joinSeats, 3, none, 4, 0, 1, 24, 0, 0, cd_58),
  (yX4_areNear, cX4_areNear, 5, (some .boolean), 4, 2, 0, 0, 0, 0, cd_59),
  (yX4_columnAt, cX4_columnAt, 3, (some .int), 4, 2, 0, 0, 0, 0, cd_60),
  (yX4_seatsFitting, cX4_seatsFitting, 2, (some .long), 4, 1, 0, 0, 0, 0, cd_61),
  (yX4_seatsWithout, cX4_seatsWithout, 5, (some .long), 4, 1, 0, 0, 0, 0, cd_62),
  (yX4_seatsFittingAny, cX4_seatsFittingAny, 6, (some .long), 4, 1, 0, 0, 0, 0, cd_63),
  (yX4_columnsOfAll, cX4_columnsOfAll, 5, (some .int), 4, 1, 0, 0, 0, 0, cd_64),
  (yX5_init, cX5_init, 1, none, 5, 0, 1, 20, 1, 60, cd_65),
  (yX5_begin, cX5_begin, 3, none, 5, 2, 1, 23, 0, 0, cd_66),
  (yX5_findingAt, cX5_findingAt, 3, (some .int), 5, 2, 0, 0, 0, 0, cd_67),
  (yX5_hasItems, cX5_hasItems, 3, (some .boolean), 5, 2, 0, 0, 0, 0, cd_68),
  (yX5_put, cX5_put, 3, none, 5, 2, 0, 0, 0, 0, cd_69),
  (yX6_init, cX6_init, 2, none, 6, 0, 3, 61, 46, 1797, cd_70),
  (yX6_grid, cX6_grid, 3, (some .int), 6, 2, 2, 45, 0, 0, cd_71),
  (yX6_wish, cX6_wish, 3, (some .int), 6, 1, 1, 21, 0, 0, cd_72),
  (yX6_length, cX6_length, 3, (some .int), 6, 1, 1, 21, 0, 0, cd_73),
  (yX6_sides, cX6_sides, 3, (some .int), 6, 1, 1, 21, 0, 0, cd_74),
  (yX6_fault, cX6_fault, 3, (some .int), 6, 2, 2, 43, 0, 0, cd_75),
  (yX6_lots, cX6_lots, 7, (some .int), 6, 2, 2, 42, 0, 0, cd_76),
  (yX6_read, cX6_read, 7, (some .int), 6, 2, 1, 22, 0, 0, cd_77),
  (yX6_cell, cX6_cell, 4, (some .int), 6, 3, 5, 117, 0, 0, cd_78),
  (yX6_whole, cX6_whole, 1, (some .int), 6, 0, 5, 114, 0, 0, cd_79),
  (yX6_mend, cX6_mend, 2, (some .int), 6, 0, 5, 116, 0, 0, cd_80),
  (yX6_moves, cX6_moves, 1, (some .int), 6, 0, 5, 116, 0, 0, cd_81),
  (yX6_seat, cX6_seat, 4, (some .int), 6, 2, 3, 68, 0, 0, cd_82),
  (yX6_column, cX6_column, 3, (some .int), 6, 2, 2, 44, 0, 0, cd_83),
  (yX6_seats, cX6_seats, 2, (some .int), 6, 1, 5, 115, 0, 0, cd_84),
  (yX6_broken, cX6_broken, 1, (some .int), 6, 0, 4, 91, 0, 0, cd_85),
  (yX6_witness, cX6_witness, 2, (some .int), 6, 1, 5, 116, 0, 0, cd_86),
  (yX6_core, cX6_core, 3, (some .int), 6, 0, 5, 117, 0, 0, cd_87),
  (yX6_critical, cX6_critical, 3, (some .int), 6, 0, 5, 117, 0, 0, cd_88),
  (yX6_least, cX6_least, 2, (some .int), 6, 1, 4, 95, 0, 0, cd_89),
  (yX6_chains, cX6_chains, 1, (some .int), 6, 0, 5, 108, 0, 0, cd_90),
  (yX6_cut, cX6_cut, 1, (some .long), 6, 0, 5, 108, 0, 0, cd_91),
  (yX6_keep, cX6_keep, 3, (some .int), 6, 1, 2, 70, 0, 0, cd_92),
  (yX6_go, cX6_go, 3, (some .int), 6, 1, 4, 91, 0, 0, cd_93),
  (yX6_differ, cX6_differ, 5, (some .int), 6, 1, 3, 68, 0, 0, cd_94),
  (yX6_drop, cX6_drop, 3, (some .int), 6, 1, 1, 22, 0, 0, cd_95),
  (yX6_sheet, cX6_sheet, 5, (some .int), 6, 3, 2, 45, 0, 0, cd_96),
  (yX6_lose, cX6_lose, 3, (some .int), 6, 1, 1, 21, 0, 0, cd_97),
  (yX6_lay, cX6_lay, 7, (some .int), 6, 4, 1, 22, 0, 0, cd_98),
  (yX6_get, cX6_get, 6, (some .int), 6, 3, 1, 22, 0, 0, cd_99),
  (yX6_copy, cX6_copy, 8, (some .int), 6, 5, 1, 49, 0, 0, cd_100),
  (yX6_write, cX6_write, 6, (some .int), 6, 2, 2, 44, 0, 0, cd_101),
  (yX6_count, cX6_count, 2, (some .int), 6, 1, 5, 116, 0, 0, cd_102),
  (yX6_digest, cX6_digest, 6, (some .long), 6, 0, 6, 140, 0, 0, cd_103),
  (yX6_found, cX6_found, 2, (some .int), 6, 1, 0, 0, 0, 0, cd_104),
  (yX6_slotAt, cX6_slotAt, 2, (some (.object "GridMender$Laying")), 6, 1, 0, 0, 0, 0, cd_105),
  (yX6_sheetAt, cX6_sheetAt, 2, (some (.object "GridMender$Sheet")), 6, 1, 0, 0, 0, 0, cd_106),
  (yX6_filledSlots, cX6_filledSlots, 3, (some .int), 6, 0, 0, 0, 0, 0, cd_107),
  (yX6_isForm, cX6_isForm, 1, (some .boolean), 6, 1, 0, 0, 0, 0, cd_108),
  (yX6_bitOf, cX6_bitOf, 2, (some .int), 6, 2, 0, 0, 0, 0, cd_109),
  (yX6_columnOf, cX6_columnOf, 4, (some .int), 6, 2, 1, 21, 0, 0, cd_110),
  (yX6_taskAt, cX6_taskAt, 2, (some .int), 6, 2, 1, 21, 0, 0, cd_111),
  (yX6_tasksMoved, cX6_tasksMoved, 5, (some .int), 6, 3, 2, 44, 0, 0, cd_112),
  (yX7_init, cX7_init, 2, none, 7, 0, 1, 20, 22, 3150, cd_113),
  (yX7_in, cX7_in, 6, (some .boolean), 7, 3, 0, 0, 0, 0, cd_114),
  (yX7_isTwo, cX7_isTwo, 1, (some .boolean), 7, 1, 1, 25, 0, 0, cd_115),
  (yX7_isIn, cX7_isIn, 3, (some .boolean), 7, 2, 0, 0, 0, 0, cd_116),
  (yX7_lesser, cX7_lesser, 2, (some .int), 7, 2, 0, 0, 0, 0, cd_117),
  (yX7_away, cX7_away, 1, (some .int), 7, 1, 0, 0, 0, 0, cd_118),
  (yX7_size, cX7_size, 4, (some .int), 7, 1, 1, 22, 0, 0, cd_119),
  (yX7_finding, cX7_finding, 2, (some .int), 7, 1, 0, 0, 0, 0, cd_120),
  (yX7_isSheet, cX7_isSheet, 1, (some .boolean), 7, 1, 1, 25, 0, 0, cd_121),
  (yX7_sheet, cX7_sheet, 5, (some .int), 7, 3, 2, 45, 0, 0, cd_122),
  (yX7_lose, cX7_lose, 2, (some .int), 7, 1, 2, 45, 0, 0, cd_123),
  (yX7_lacks, cX7_lacks, 4, (some .int), 7, 3, 1, 25, 0, 0, cd_124),
  (yX7_cutTo, cX7_cutTo, 2, (some .int), 7, 2, 0, 0, 0, 0, cd_125),
  (yX7_lay, cX7_lay, 6, (some .int), 7, 4, 2, 48, 0, 0, cd_126),
  (yX7_get, cX7_get, 4, (some .int), 7, 3, 2, 48, 0, 0, cd_127),
  (yX7_copy, cX7_copy, 7, (some .int), 7, 5, 2, 45, 0, 0, cd_128),
  (yX7_isRow, cX7_isRow, 2, (some .boolean), 7, 1, 1, 25, 0, 0, cd_129),
  (yX7_isCell, cX7_isCell, 3, (some .boolean), 7, 2, 2, 46, 0, 0, cd_130),
  (yX7_faulty, cX7_faulty, 3, (some .int), 7, 0, 2, 45, 0, 0, cd_131),
  (yX7_grid, cX7_grid, 4, (some .int), 7, 2, 1, 25, 0, 0, cd_132),
  (yX7_wish, cX7_wish, 3, (some .int), 7, 1, 1, 25, 0, 0, cd_133),
  (yX7_length, cX7_length, 3, (some .int), 7, 1, 1, 25, 0, 0, cd_134),
  (yX7_sides, cX7_sides, 3, (some .int), 7, 1, 1, 25, 0, 0, cd_135),
  (yX7_fault, cX7_fault, 3, (some .int), 7, 2, 3, 68, 0, 0, cd_136),
  (yX7_becomes, cX7_becomes, 4, none, 7, 3, 0, 0, 0, 0, cd_137),
  (yX7_lots, cX7_lots, 5, (some .int), 7, 2, 3, 67, 0, 0, cd_138),
  (yX7_read, cX7_read, 5, (some .int), 7, 2, 2, 46, 0, 0, cd_139),
  (yX7_columnOf, cX7_columnOf, 4, (some .int), 7, 2, 1, 22, 0, 0, cd_140),
  (yX7_seatsOf, cX7_seatsOf, 7, none, 7, 2, 2, 45, 0, 0, cd_141),
  (yX7_seatsNow, cX7_seatsNow, 1, none, 7, 0, 3, 71, 0, 0, cd_142),
  (yX7_fits, cX7_fits, 3, (some .boolean), 7, 2, 0, 0, 0, 0, cd_143),
  (yX7_isWhole, cX7_isWhole, 8, (some .boolean), 7, 2, 1, 22, 0, 0, cd_144),
  (yX7_isWholeNow, cX7_isWholeNow, 1, (some .boolean), 7, 0, 2, 49, 0, 0, cd_145),
  (yX7_whole, cX7_whole, 1, (some .int), 7, 0, 4, 91, 0, 0, cd_146),
  (yX7_columnNow, cX7_columnNow, 3, (some .int), 7, 2, 2, 45, 0, 0, cd_147),
  (yX7_movesTo, cX7_movesTo, 5, (some .int), 7, 2, 3, 67, 0, 0, cd_148),
  (yX7_fewest, cX7_fewest, 6, (some .int), 7, 0, 4, 91, 0, 0, cd_149),
  (yX7_chooses, cX7_chooses, 7, none, 7, 1, 4, 91, 0, 0, cd_150),
  (yX7_mend, cX7_mend, 3, (some .int), 7, 0, 5, 117, 0, 0, cd_151),
  (yX7_movesNow, cX7_movesNow, 2, (some .int), 7, 0, 5, 116, 0, 0, cd_152),
  (yX7_moves, cX7_moves, 1, (some .int), 7, 0, 6, 137, 0, 0, cd_153),
  (yX7_seat, cX7_seat, 4, (some .int), 7, 2, 4, 91, 0, 0, cd_154),
  (yX7_columnBy, cX7_columnBy, 3, (some .int), 7, 2, 2, 45, 0, 0, cd_155),
  (yX7_column, cX7_column, 3, (some .int), 7, 2, 3, 67, 0, 0, cd_156),
  (yX7_seatsBy, cX7_seatsBy, 4, (some .int), 7, 1, 1, 22, 0, 0, cd_157),
  (yX7_seats, cX7_seats, 2, (some .int), 7, 1, 4, 91, 0, 0, cd_158),
  (yX7_brokenNow, cX7_brokenNow, 5, (some .int), 7, 0, 2, 45, 0, 0, cd_159),
  (yX7_broken, cX7_broken, 1, (some .int), 7, 0, 3, 69, 0, 0, cd_160),
  (yX7_witnessBy, cX7_witnessBy, 4, (some .int), 7, 1, 2, 49, 0, 0, cd_161),
  (yX7_witness, cX7_witness, 2, (some .int), 7, 1, 4, 91, 0, 0, cd_162),
  (yX7_coreNow, cX7_coreNow, 9, (some .long), 7, 0, 3, 69, 0, 0, cd_163),
  (yX7_criticalNow, cX7_criticalNow, 6, (some .long), 7, 0, 3, 69, 0, 0, cd_164),
  (yX7_core, cX7_core, 1, (some .int), 7, 0, 4, 97, 0, 0, cd_165),
  (yX7_critical, cX7_critical, 1, (some .int), 7, 0, 4, 94, 0, 0, cd_166),
  (yX7_leastBy, cX7_leastBy, 5, (some .int), 7, 1, 4, 91, 0, 0, cd_167),
  (yX7_least, cX7_least, 2, (some .int), 7, 1, 5, 115, 0, 0, cd_168),
  (yX7_isOut, cX7_isOut, 4, (some .boolean), 7, 1, 1, 22, 0, 0, cd_169),
  (yX7_isBad, cX7_isBad, 2, (some .boolean), 7, 1, 1, 22, 0, 0, cd_170),
  (yX7_beside, cX7_beside, 5, (some .int), 7, 2, 3, 68, 0, 0, cd_171),
  (yX7_reaches, cX7_reaches, 3, none, 7, 2, 0, 0, 0, 0, cd_172),
  (yX7_goesOn, cX7_goesOn, 5, none, 7, 1, 4, 92, 0, 0, cd_173),
  (yX7_finds, cX7_finds, 3, (some .int), 7, 0, 5, 116, 0, 0, cd_174),
  (yX7_turns, cX7_turns, 6, none, 7, 2, 4, 92, 0, 0, cd_175),
  (yX7_chainsNow, cX7_chainsNow, 6, (some .int), 7, 0, 6, 138, 0, 0, cd_176),
  (yX7_chains, cX7_chains, 1, (some .int), 7, 0, 7, 163, 0, 0, cd_177),
  (yX7_cutNow, cX7_cutNow, 4, (some .long), 7, 0, 7, 163, 0, 0, cd_178),
  (yX7_cut, cX7_cut, 1, (some .long), 7, 0, 8, 186, 0, 0, cd_179),
  (yX7_taskAt, cX7_taskAt, 4, (some .int), 7, 2, 2, 45, 0, 0, cd_180),
  (yX7_cellBy, cX7_cellBy, 5, (some .int), 7, 3, 3, 68, 0, 0, cd_181),
  (yX7_cell, cX7_cell, 6, (some .int), 7, 3, 8, 186, 0, 0, cd_182),
  (yX7_isSlot, cX7_isSlot, 1, (some .boolean), 7, 1, 1, 25, 0, 0, cd_183),
  (yX7_keep, cX7_keep, 3, (some .int), 7, 1, 2, 45, 0, 0, cd_184),
  (yX7_lacksSlot, cX7_lacksSlot, 2, (some .int), 7, 1, 2, 45, 0, 0, cd_185),
  (yX7_go, cX7_go, 4, (some .int), 7, 1, 3, 69, 0, 0, cd_186),
  (yX7_differ, cX7_differ, 5, (some .int), 7, 1, 4, 91, 0, 0, cd_187),
  (yX7_drop, cX7_drop, 2, (some .int), 7, 1, 2, 45, 0, 0, cd_188),
  (yX7_write, cX7_write, 5, (some .int), 7, 2, 2, 46, 0, 0, cd_189),
  (yX7_countBy, cX7_countBy, 2, (some .int), 7, 1, 7, 163, 0, 0, cd_190),
  (yX7_allSeats, cX7_allSeats, 3, (some .int), 7, 0, 2, 45, 0, 0, cd_191),
  (yX7_count, cX7_count, 2, (some .int), 7, 1, 8, 184, 0, 0, cd_192),
  (yX7_digest, cX7_digest, 11, (some .long), 7, 0, 8, 186, 0, 0, cd_193),
  (yJ6_bitCount_0f7a4, cJ6_bitCount_0f7a4, 1, (some .int), 8, 1, 0, 0, 0, 0, cd_194),
  (yJ13_bitCount_95d88, cJ13_bitCount_95d88, 2, (some .int), 9, 1, 0, 0, 0, 0, cd_195),
  (yJ9_abs_0f7a4, cJ9_abs_0f7a4, 1, (some .int), 10, 1, 0, 0, 0, 0, cd_196),
  (yJ9_min_7cf53, cJ9_min_7cf53, 2, (some .int), 10, 2, 0, 0, 0, 0, cd_197),
  (yJ7_fill_53178, cJ7_fill_53178, 4, none, 11, 2, 0, 0, 0, 0, cd_198),
  (yL_law, cL_law, 4, (some .boolean), 12, 1, 11, 434, 600000, 7302250, cd_199)]
end
section
/-! the checks of the tables, by the kernel -/
def gm_PP : List (Nat × Nat × Nat × Nat × Nat) := [(88, 64, 87, 0, 2), (330, 64, 328, 329, 0), (348, 64, 346, 347, 0), (356, 64, 354, 355, 0), (364, 64, 362, 363, 0), (380, 64, 378, 379, 0), (376, 64, 374, 375, 0), (372, 64, 370, 371, 0), (510, 64, 508, 509, 0), (538, 64, 536, 537, 0), (340, 64, 338, 339, 0), (384, 64, 382, 383, 0), (218, 67, 217, 0, 2), (683, 67, 681, 682, 0), (493, 67, 491, 492, 0), (497, 67, 496, 11, 0), (501, 67, 500, 12, 0), (514, 67, 513, 13, 0), (522, 67, 521, 15, 0), (526, 67, 525, 16, 0), (518, 67, 517, 14, 0), (530, 67, 529, 17, 0), (534, 67, 533, 18, 0), (506, 67, 505, 0, 1), (252, 68, 251, 0, 2), (699, 68, 697, 698, 0), (594, 68, 592, 593, 0), (712, 68, 710, 711, 0), (559, 68, 557, 558, 0), (632, 68, 630, 631, 0), (636, 68, 635, 0, 1), (640, 68, 639, 0, 1), (138, 65, 137, 0, 2), (428, 65, 427, 2, 0), (450, 65, 449, 6, 0), (457, 65, 456, 0, 1), (547, 65, 545, 546, 0), (618, 65, 616, 617, 0), (776, 65, 774, 775, 0), (651, 65, 649, 650, 0), (655, 65, 653, 654, 0), (489, 65, 487, 488, 0), (424, 65, 422, 423, 0), (465, 65, 464, 7, 0), (470, 65, 469, 8, 0), (478, 65, 477, 9, 0), (482, 65, 481, 10, 0), (671, 65, 669, 670, 0), (675, 65, 673, 674, 0), (555, 65, 553, 554, 0), (563, 65, 562, 19, 0), (570, 65, 569, 20, 0), (578, 65, 577, 21, 0), (586, 65, 585, 22, 0), (590, 65, 588, 589, 0), (144, 66, 143, 0, 2), (432, 66, 430, 431, 0), (437, 66, 436, 3, 0), (442, 66, 441, 4, 0), (446, 66, 445, 5, 0), (574, 66, 572, 573, 0), (582, 66, 580, 581, 0), (454, 66, 452, 453, 0), (461, 66, 459, 460, 0), (474, 66, 472, 473, 0), (279, 69, 278, 0, 2), (732, 69, 730, 731, 0), (745, 69, 743, 744, 0), (763, 69, 761, 762, 0), (749, 69, 747, 748, 0), (80, 63, 79, 0, 2), (326, 63, 324, 325, 0), (344, 63, 342, 343, 0), (352, 63, 350, 351, 0), (360, 63, 358, 359, 0), (368, 63, 366, 367, 0), (394, 63, 392, 393, 0), (399, 63, 397, 398, 0), (413, 63, 411, 412, 0), (543, 63, 541, 542, 0), (551, 63, 549, 550, 0), (598, 63, 596, 597, 0), (602, 63, 600, 601, 0), (610, 63, 608, 609, 0), (614, 63, 612, 613, 0), (628, 63, 626, 627, 0), (647, 63, 645, 646, 0), (659, 63, 657, 658, 0), (663, 63, 661, 662, 0), (667, 63, 665, 666, 0), (679, 63, 677, 678, 0), (687, 63, 685, 686, 0), (691, 63, 689, 690, 0), (708, 63, 706, 707, 0), (716, 63, 714, 715, 0), (721, 63, 719, 720, 0), (725, 63, 723, 724, 0), (737, 63, 735, 736, 0), (741, 63, 739, 740, 0), (754, 63, 752, 753, 0), (759, 63, 757, 758, 0), (768, 63, 766, 767, 0), (772, 63, 770, 771, 0), (780, 63, 778, 779, 0), (408, 63, 407, 1, 0), (695, 63, 694, 23, 0), (403, 63, 402, 0, 0), (704, 63, 703, 24, 0), (728, 63, 727, 0, 1), (416, 63, 415, 0, 1), (566, 63, 565, 0, 1), (419, 63, 418, 0, 1), (605, 63, 604, 0, 1), (799, 70, 798, 0, 2), (912, 70, 911, 0, 1), (1092, 70, 1091, 0, 1), (984, 70, 983, 0, 1), (949, 70, 948, 0, 1), (1016, 70, 1015, 0, 1), (981, 70, 980, 0, 1), (917, 70, 916, 25, 0), (908, 70, 907, 0, 1), (905, 70, 903, 904, 0), (921, 70, 919, 920, 0), (929, 70, 928, 26, 0), (932, 70, 931, 0, 1), (925, 70, 923, 924, 0), (936, 70, 934, 935, 0), (941, 70, 939, 940, 0), (974, 70, 973, 28, 0), (970, 70, 969, 27, 0), (978, 70, 977, 29, 0), (945, 70, 943, 944, 0), (953, 70, 951, 952, 0), (957, 70, 955, 956, 0), (961, 70, 959, 960, 0), (966, 70, 964, 965, 0), (994, 70, 993, 30, 0), (988, 70, 986, 987, 0), (998, 70, 996, 997, 0), (1013, 70, 1012, 0, 1), (1010, 70, 1009, 32, 0), (1006, 70, 1005, 31, 0), (1028, 70, 1027, 35, 0), (1024, 70, 1023, 34, 0), (1020, 70, 1019, 33, 0), (1002, 70, 1000, 1001, 0), (1045, 70, 1044, 38, 0), (1041, 70, 1040, 37, 0), (1036, 70, 1035, 36, 0), (1049, 70, 1048, 39, 0), (1032, 70, 1030, 1031, 0), (1057, 70, 1056, 40, 0), (1053, 70, 1051, 1052, 0), (1061, 70, 1059, 1060, 0), (1069, 70, 1068, 41, 0), (1065, 70, 1063, 1064, 0), (1077, 70, 1076, 42, 0), (1073, 70, 1071, 1072, 0), (1085, 70, 1084, 43, 0), (1081, 70, 1079, 1080, 0), (1096, 70, 1095, 44, 0), (1089, 70, 1087, 1088, 0), (1104, 70, 1103, 45, 0), (1112, 70, 1111, 46, 0), (1100, 70, 1098, 1099, 0), (1108, 70, 1106, 1107, 0), (1120, 70, 1119, 47, 0), (1116, 70, 1114, 1115, 0), (1144, 70, 1143, 52, 0), (1136, 70, 1135, 50, 0), (1152, 70, 1151, 54, 0), (1140, 70, 1139, 51, 0), (1148, 70, 1147, 53, 0), (1132, 70, 1131, 49, 0), (1156, 70, 1155, 55, 0), (1128, 70, 1127, 48, 0), (1124, 70, 1122, 1123, 0), (1164, 70, 1163, 56, 0), (1160, 70, 1158, 1159, 0), (1177, 70, 1176, 58, 0), (1173, 70, 1172, 57, 0), (1168, 70, 1166, 1167, 0), (1184, 70, 1183, 0, 1), (1181, 70, 1179, 1180, 0), (1193, 70, 1192, 59, 0), (1189, 70, 1187, 1188, 0), (1197, 70, 1195, 1196, 0), (1201, 70, 1199, 1200, 0), (1205, 70, 1203, 1204, 0), (1213, 70, 1212, 60, 0), (1217, 70, 1216, 61, 0), (1209, 70, 1207, 1208, 0), (1221, 70, 1219, 1220, 0), (387, 73, 386, 0, 1), (621, 75, 620, 0, 1), (643, 71, 642, 0, 4), (333, 71, 332, 0, 4), (336, 72, 335, 0, 1), (0, 62, 0, 0, 3)]
def gm_CP : List (Nat × Nat) := [(85, 64), (215, 67), (249, 68), (135, 65), (141, 66), (276, 69), (77, 63), (796, 70)]
def gm_len : Instr → Nat
  | .aload _ | .astore _ | .iload _ | .istore _ | .lload _ | .lstore _ | .bipush _ | .ldc _ | .newarray _ => 2
  | .sipush _ | .iinc _ _ | .ldc_w _ | .ldc2_w _ | .getfield _ | .putfield _ | .new _ | .anewarray _ | .invokevirtual _ | .invokestatic _ | .invokespecial _ | .goto _ | .ifCond _ _ | .if_icmp _ _ | .ifnull _ | .ifnonnull _ => 3
  | _ => 1
def gm_own (n : Nat) : String := gm_nm.getD n ""
def gm_isTab : Instr → Bool
  | .tableswitch _ _ _ _ => true
  | _ => false
/-- an entry of a code list: what its bytes are, where it goes on -/
def gm_c1 (bs : ByteArray) (r : Nat × Nat × gm_I) : Bool := decide (decode bs r.1 = .ok (r.2.2.1, r.2.1 - r.1)) && decide (r.1 ≤ r.2.1) && (gm_isTab r.2.2.1 || decide (r.2.1 = r.1 + gm_len r.2.2.1))
/-- .. its links and its targets -/
def gm_lk (own pc : Nat) (fr lo : Nat) (ins : Instr) (lk a b : Nat) (z : Int) : Bool := match ins with
  | .getfield idx => decide ((gm_FT[lk]?).map (fun f => (f.1, f.2.1, f.2.2.1, f.2.2.2.1)) = some (own, idx, a, b))
  | .putfield idx => decide ((gm_FT[lk]?).map (fun f => (f.1, f.2.1, f.2.2.1, f.2.2.2.1)) = some (own, idx, a, b))
  | .ldc idx => decide ((gm_KT[lk]?).map (fun f => (f.1, f.2.1, f.2.2.1)) = some (own, idx, z))
  | .ldc_w idx => decide ((gm_KT[lk]?).map (fun f => (f.1, f.2.1, f.2.2.1)) = some (own, idx, z))
  | .ldc2_w idx => decide ((gm_LT[lk]?).map (fun f => (f.1, f.2.1, f.2.2.1)) = some (own, idx, z))
  | .new idx => decide ((gm_CT[lk]?).map (fun f => (f.1, f.2.1, f.2.2.1)) = some (own, idx, a))
  | .anewarray idx => decide ((gm_CT[lk]?).map (fun f => (f.1, f.2.1, f.2.2.1)) = some (own, idx, a)) && (decide (a = 2) || decide (a = 5))
  | .invokevirtual idx => decide ((gm_MT[lk]?).map (fun f => (f.1, f.2.1, f.2.2.1, f.2.2.2.1)) = some (own, idx, b, a)) && decide (b = 0) && decide ((gm_PP[a]?).map (fun r => r.2.2.2.2) = some 0) && (gm_PT[a]?).any (fun q => decide (q.2.2.2.2.2.2.1 + 1 ≤ fr) && decide (8 + (q.2.2.1 + 11) + q.2.2.2.2.2.2.2.1 ≤ lo))
  | .invokestatic idx => decide ((gm_MT[lk]?).map (fun f => (f.1, f.2.1, f.2.2.1, f.2.2.2.1)) = some (own, idx, b, a)) && (if b = 2 then decide (1 ≤ fr) && decide (8 + 18 ≤ lo) else if b = 4 ∨ b = 5 then decide (1 ≤ fr) && decide (8 + 13 ≤ lo) else (decide (b = 0) || decide (b = 1)) && decide ((gm_PP[a]?).map (fun r => r.2.2.2.2) = some 1) && (gm_PT[a]?).any (fun q => decide (q.2.2.2.2.2.2.1 + 1 ≤ fr) && decide (8 + (q.2.2.1 + 11) + q.2.2.2.2.2.2.2.1 ≤ lo)))
  | .invokespecial idx => decide ((gm_MT[lk]?).map (fun f => (f.1, f.2.1, f.2.2.1, f.2.2.2.1)) = some (own, idx, b, a)) && (if b = 3 then decide (1 ≤ fr) && decide (20 ≤ lo) else (decide (b = 0) || decide (b = 1)) && decide ((gm_PP[a]?).map (fun r => r.2.2.2.2) = some 2) && (gm_PT[a]?).any (fun q => decide (q.2.2.2.2.2.2.1 + 1 ≤ fr) && decide (8 + (q.2.2.1 + 11) + q.2.2.2.2.2.2.2.1 ≤ lo)))
  | .goto off => decide ((pc : Int) + off = (a : Int))
  | .ifCond _ off => decide ((pc : Int) + off = (a : Int))
  | .if_icmp _ off => decide ((pc : Int) + off = (a : Int))
  | .ifnull off => decide ((pc : Int) + off = (a : Int))
  | .ifnonnull off => decide ((pc : Int) + off = (a : Int))
  | _ => true
def gm_c2 (q : gm_M) (r : Nat × Nat × gm_I) : Bool := gm_lk q.2.2.2.2.1 r.1 q.2.2.2.2.2.2.1 q.2.2.2.2.2.2.2.1 r.2.2.1 r.2.2.2.1 r.2.2.2.2.1 r.2.2.2.2.2.1 r.2.2.2.2.2.2
def gm_cM (q : gm_M) : Bool := q.2.2.2.2.2.2.2.2.2.2.all (fun r => gm_c1 q.2.1 r && gm_c2 q r)
end
section
theorem gm_ck0 : (((gm_PT.drop 0).take 45).all gm_cM) = true := by decide +kernel
theorem gm_ck1 : (((gm_PT.drop 45).take 40).all gm_cM) = true := by decide +kernel
end
section
theorem gm_ck2 : (((gm_PT.drop 85).take 28).all gm_cM) = true := by decide +kernel
theorem gm_ck3 : (((gm_PT.drop 113).take 27).all gm_cM) = true := by decide +kernel
end
section
theorem gm_ck4 : (((gm_PT.drop 140).take 30).all gm_cM) = true := by decide +kernel
theorem gm_ck5 : (((gm_PT.drop 170).take 29).all gm_cM) = true := by decide +kernel
end
section
theorem gm_lw0 : ((cd_199.drop 0).take 50).all (fun r => gm_c1 code r) = true := by decide +kernel
theorem gm_lw1 : ((cd_199.drop 50).take 50).all (fun r => gm_c1 code r) = true := by decide +kernel
theorem gm_lw2 : ((cd_199.drop 100).take 50).all (fun r => gm_c1 code r) = true := by decide +kernel
theorem gm_lw3 : ((cd_199.drop 150).take 50).all (fun r => gm_c1 code r) = true := by decide +kernel
theorem gm_lw4 : ((cd_199.drop 200).take 50).all (fun r => gm_c1 code r) = true := by decide +kernel
end
section
theorem gm_lw5 : ((cd_199.drop 250).take 50).all (fun r => gm_c1 code r) = true := by decide +kernel
theorem gm_lw6 : ((cd_199.drop 300).take 50).all (fun r => gm_c1 code r) = true := by decide +kernel
theorem gm_lw7 : ((cd_199.drop 350).take 50).all (fun r => gm_c1 code r) = true := by decide +kernel
theorem gm_lw8 : ((cd_199.drop 400).take 50).all (fun r => gm_c1 code r) = true := by decide +kernel
theorem gm_lw9 : ((cd_199.drop 450).take 50).all (fun r => gm_c1 code r) = true := by decide +kernel
end
section
theorem gm_lw10 : ((cd_199.drop 500).take 50).all (fun r => gm_c1 code r) = true := by decide +kernel
theorem gm_lw11 : ((cd_199.drop 550).take 50).all (fun r => gm_c1 code r) = true := by decide +kernel
theorem gm_lw12 : ((cd_199.drop 600).take 50).all (fun r => gm_c1 code r) = true := by decide +kernel
theorem gm_lw13 : ((cd_199.drop 650).take 49).all (fun r => gm_c1 code r) = true := by decide +kernel
end
section
set_option maxRecDepth 100000 in
theorem gm_lwB : cd_199.all (fun r => gm_lk 12 r.1 11 434 r.2.2.1 r.2.2.2.1 r.2.2.2.2.1 r.2.2.2.2.2.1 r.2.2.2.2.2.2) = true := by decide +kernel
theorem gm_all_cut {α : Type} (f : α → Bool) (l : List α) (j c : Nat) (h1 : ((l.drop j).take c).all f = true) (h2 : (l.drop (j + c)).all f = true) : (l.drop j).all f = true := by
  rw [← List.take_append_drop c (l.drop j), List.all_append, h1, Bool.true_and, List.drop_drop]
  exact h2
theorem gm_lwA : cd_199.all (fun r => gm_c1 code r) = true := by
  show (cd_199.drop 0).all _ = true
  refine gm_all_cut _ _ 0 50 gm_lw0 ?_
  refine gm_all_cut _ _ 50 50 gm_lw1 ?_
  refine gm_all_cut _ _ 100 50 gm_lw2 ?_
  refine gm_all_cut _ _ 150 50 gm_lw3 ?_
  refine gm_all_cut _ _ 200 50 gm_lw4 ?_
  refine gm_all_cut _ _ 250 50 gm_lw5 ?_
  refine gm_all_cut _ _ 300 50 gm_lw6 ?_
  refine gm_all_cut _ _ 350 50 gm_lw7 ?_
  refine gm_all_cut _ _ 400 50 gm_lw8 ?_
  refine gm_all_cut _ _ 450 50 gm_lw9 ?_
  refine gm_all_cut _ _ 500 50 gm_lw10 ?_
  refine gm_all_cut _ _ 550 50 gm_lw11 ?_
  refine gm_all_cut _ _ 600 50 gm_lw12 ?_
  refine gm_all_cut _ _ 650 49 gm_lw13 ?_
  rw [List.drop_eq_nil_of_le (by decide +kernel)]; rfl
theorem gm_ckL : ((gm_PT.drop 199).take 1).all gm_cM = true := by
  show (gm_cM (yL_law, cL_law, 4, some .boolean, 12, 1, 11, 434, 600000, 7302250, cd_199) && true) = true
  rw [Bool.and_true]
  show cd_199.all (fun r => gm_c1 code r && gm_lk 12 r.1 11 434 r.2.2.1 r.2.2.2.1 r.2.2.2.2.1 r.2.2.2.2.2.1 r.2.2.2.2.2.2) = true
  rw [List.all_eq_true]
  intro r hr
  rw [List.all_eq_true.mp gm_lwA r hr, List.all_eq_true.mp gm_lwB r hr]
  rfl
theorem gm_ck : gm_PT.all gm_cM = true := by
  show (gm_PT.drop 0).all _ = true
  refine gm_all_cut _ _ 0 45 gm_ck0 ?_
  refine gm_all_cut _ _ 45 40 gm_ck1 ?_
  refine gm_all_cut _ _ 85 28 gm_ck2 ?_
  refine gm_all_cut _ _ 113 27 gm_ck3 ?_
  refine gm_all_cut _ _ 140 30 gm_ck4 ?_
  refine gm_all_cut _ _ 170 29 gm_ck5 ?_
  refine gm_all_cut _ _ 199 1 gm_ckL ?_
  rw [List.drop_eq_nil_of_le (by decide +kernel)]; rfl
end
section
def gm_fOk (f : Nat × Nat × Nat × Nat × Nat) : Bool := (gm_cl[f.2.2.1]?).any fun c => decide (f.2.2.2.1 < c.2.2) && decide (lw_tbl[f.2.2.2.2]? = some (.fieldLink (gm_own f.1) f.2.1 (c.2.1 f.2.2.2.1).1 (c.2.1 f.2.2.2.1).2.1 (c.2.1 f.2.2.2.1).2.2.1))
theorem gm_ckF : gm_FT.all gm_fOk = true := by decide +kernel
theorem gm_ckK : gm_KT.all (fun f => decide (lw_tbl[f.2.2.2]? = some (.constant (gm_own f.1) f.2.1 (Int32.ofInt f.2.2.1)))) = true := by decide +kernel
theorem gm_ckJ : gm_LT.all (fun f => decide (lw_tbl[f.2.2.2]? = some (.constantLong (gm_own f.1) f.2.1 (Int64.ofInt f.2.2.1)))) = true := by decide +kernel
theorem gm_ckC : gm_CT.all (fun f => decide (lw_tbl[f.2.2.2]? = some (.classLink (gm_own f.1) f.2.1 (gm_own f.2.2.1)))) = true := by decide +kernel
def gm_arrc : MethodName := arraycopyName
def gm_mOk (f : Nat × Nat × Nat × Nat × Nat) : Bool := match f.2.2.1 with
  | 0 => (gm_PT[f.2.2.2.1]?).any fun q => decide (lw_tbl[f.2.2.2.2]? = some (.methodLink (gm_own f.1) f.2.1 q.1))
  | 1 => (gm_PT[f.2.2.2.1]?).any fun q => decide (lw_tbl[f.2.2.2.2]? = some (.methodLinkNest (gm_own f.1) f.2.1 q.1 "GridMender"))
  | 2 => decide (lw_tbl[f.2.2.2.2]? = some (.methodLink (gm_own f.1) f.2.1 arraycopyName))
  | 3 => decide (lw_tbl[f.2.2.2.2]? = some (.methodLink (gm_own f.1) f.2.1 objectInit))
  | 4 => decide (lw_tbl[f.2.2.2.2]? = some (.methodLink (gm_own f.1) f.2.1 Lib.Math.min.name))
  | 5 => decide (lw_tbl[f.2.2.2.2]? = some (.methodLink (gm_own f.1) f.2.1 Lib.Math.abs.name))
  | _ => false
theorem gm_ckM : gm_MT.all gm_mOk = true := by decide +kernel
/-- a method's own words -/
def gm_pOk (q : gm_M) (r : Nat × Nat × Nat × Nat × Nat) : Bool :=
  (decide (r.2.2.2.2 = 4) || (decide (q.1.cls = gm_own q.2.2.2.2.1) && plainName q.1.cls && decide (q.1.cls ≠ "java/lang/invoke/MethodHandle") && decide (q.1.cls ≠ "java/lang/invoke/VarHandle") && decide ((parseMethodDescriptor q.1.desc).map (fun d => d.parameters.length) = some q.2.2.2.2.2.1) &&
  decide (lw_tbl[r.2.1]? = some (.initialized q.1.cls)) &&
  (match r.2.2.2.2 with
  | 0 => decide (lw_tbl[r.2.2.1]? = some (.instanceMethod q.1)) && decide (lw_tbl[r.2.2.2.1]? = some (.selects q.1.cls q.1 q.1))
  | 1 => decide (lw_tbl[r.2.2.1]? = some (.static q.1))
  | 2 => decide (lw_tbl[r.2.2.1]? = some (.instanceMethod q.1)) && decide (q.1.name = "<init>") && decide (q.2.2.2.1 = none)
  | _ => true)))
theorem gm_cp0 : ((((gm_PT.zip gm_PP).drop 0).take 100).all fun x => gm_pOk x.1 x.2) = true := by decide +kernel
theorem gm_cp1 : ((((gm_PT.zip gm_PP).drop 100).take 100).all fun x => gm_pOk x.1 x.2) = true := by decide +kernel
theorem gm_ckP : ((gm_PT.zip gm_PP).all fun x => gm_pOk x.1 x.2) = true := by
  show ((gm_PT.zip gm_PP).drop 0).all _ = true
  refine gm_all_cut _ _ 0 100 gm_cp0 ?_
  refine gm_all_cut _ _ 100 100 gm_cp1 ?_
  rw [List.drop_eq_nil_of_le (by decide +kernel)]; rfl
theorem gm_ckW : ((gm_PT.zip gm_PP).all fun x => decide (x.1.2.2.2.2.1 ≠ 12) || decide (x.2.2.2.2.2 = 3)) = true := by decide +kernel
end
section
theorem gm_inT {w : Cond} (h : w ∈ tables_1) : w ∈ lw_tbl := List.mem_append_right _ h
theorem gm_T1 {w : Cond} (h : w ∈ tables_1_1) : w ∈ lw_tbl := gm_inT (List.mem_append_left _ h)
theorem gm_T2 {w : Cond} (h : w ∈ tables_1_2) : w ∈ lw_tbl := gm_inT (List.mem_append_right _ (List.mem_append_left _ h))
theorem gm_T3 {w : Cond} (h : w ∈ tables_1_3) : w ∈ lw_tbl := gm_inT (List.mem_append_right _ (List.mem_append_right _ (List.mem_append_left _ h)))
theorem gm_T4 {w : Cond} (h : w ∈ tables_1_4) : w ∈ lw_tbl := gm_inT (List.mem_append_right _ (List.mem_append_right _ (List.mem_append_right _ (List.mem_append_left _ h))))
theorem gm_T5 {w : Cond} (h : w ∈ tables_1_5) : w ∈ lw_tbl := gm_inT (List.mem_append_right _ (List.mem_append_right _ (List.mem_append_right _ (List.mem_append_right _ (h)))))
theorem gm_cw0 : Cond.code yX0_init cX0_init 1 none ∈ lw_tbl := gm_T1 (List.mem_of_getElem? (i := 26) rfl)
theorem gm_cw1 : Cond.code yX0_resize cX0_resize 3 none ∈ lw_tbl := gm_T2 (List.mem_of_getElem? (i := 28) rfl)
theorem gm_cw2 : Cond.code yX0_changeWish cX0_changeWish 2 none ∈ lw_tbl := gm_T2 (List.mem_of_getElem? (i := 46) rfl)
theorem gm_cw3 : Cond.code yX0_changeLength cX0_changeLength 2 none ∈ lw_tbl := gm_T2 (List.mem_of_getElem? (i := 54) rfl)
theorem gm_cw4 : Cond.code yX0_changeSides cX0_changeSides 2 none ∈ lw_tbl := gm_T2 (List.mem_of_getElem? (i := 62) rfl)
theorem gm_cw5 : Cond.code yX0_changeRow cX0_changeRow 3 none ∈ lw_tbl := gm_T2 (List.mem_of_getElem? (i := 78) rfl)
theorem gm_cw6 : Cond.code yX0_hasRow cX0_hasRow 2 (some .boolean) ∈ lw_tbl := gm_T2 (List.mem_of_getElem? (i := 74) rfl)
theorem gm_cw7 : Cond.code yX0_hasCell cX0_hasCell 3 (some .boolean) ∈ lw_tbl := gm_T2 (List.mem_of_getElem? (i := 70) rfl)
theorem gm_cw8 : Cond.code yX0_isAtOpenSide cX0_isAtOpenSide 3 (some .boolean) ∈ lw_tbl := gm_T2 (List.mem_of_getElem? (i := 208) rfl)
theorem gm_cw9 : Cond.code yX0_numberOf cX0_numberOf 3 (some .int) ∈ lw_tbl := gm_T2 (List.mem_of_getElem? (i := 236) rfl)
theorem gm_cw10 : Cond.code yX0_cellCount cX0_cellCount 1 (some .int) ∈ lw_tbl := gm_T2 (List.mem_of_getElem? (i := 38) rfl)
theorem gm_cw11 : Cond.code yX0_faultyCount cX0_faultyCount 3 (some .int) ∈ lw_tbl := gm_T2 (List.mem_of_getElem? (i := 82) rfl)
theorem gm_cw12 : Cond.code yX1_init cX1_init 2 none ∈ lw_tbl := gm_T1 (List.mem_of_getElem? (i := 156) rfl)
theorem gm_cw13 : Cond.code yX1_chainCount cX1_chainCount 1 (some .int) ∈ lw_tbl := gm_T3 (List.mem_of_getElem? (i := 141) rfl)
theorem gm_cw14 : Cond.code yX1_stoppingCells cX1_stoppingCells 1 (some .long) ∈ lw_tbl := gm_T2 (List.mem_of_getElem? (i := 191) rfl)
theorem gm_cw15 : Cond.code yX1_refresh cX1_refresh 3 none ∈ lw_tbl := gm_T2 (List.mem_of_getElem? (i := 195) rfl)
theorem gm_cw16 : Cond.code yX1_takeKinds cX1_takeKinds 4 none ∈ lw_tbl := gm_T2 (List.mem_of_getElem? (i := 199) rfl)
theorem gm_cw17 : Cond.code yX1_lastNodeOfNewChain cX1_lastNodeOfNewChain 3 (some .int) ∈ lw_tbl := gm_T2 (List.mem_of_getElem? (i := 212) rfl)
theorem gm_cw18 : Cond.code yX1_goOnFromEntry cX1_goOnFromEntry 3 none ∈ lw_tbl := gm_T2 (List.mem_of_getElem? (i := 220) rfl)
theorem gm_cw19 : Cond.code yX1_goOnFromExit cX1_goOnFromExit 3 none ∈ lw_tbl := gm_T2 (List.mem_of_getElem? (i := 224) rfl)
theorem gm_cw20 : Cond.code yX1_reach cX1_reach 3 none ∈ lw_tbl := gm_T2 (List.mem_of_getElem? (i := 216) rfl)
theorem gm_cw21 : Cond.code yX1_addChain cX1_addChain 5 none ∈ lw_tbl := gm_T2 (List.mem_of_getElem? (i := 228) rfl)
theorem gm_cw22 : Cond.code yX1_cellsNotPassed cX1_cellsNotPassed 6 (some .long) ∈ lw_tbl := gm_T2 (List.mem_of_getElem? (i := 232) rfl)
theorem gm_cw23 : Cond.code yX1_placeOf cX1_placeOf 2 (some .int) ∈ lw_tbl := gm_T2 (List.mem_of_getElem? (i := 204) rfl)
theorem gm_cw24 : Cond.code yX2_init cX2_init 1 none ∈ lw_tbl := gm_T1 (List.mem_of_getElem? (i := 190) rfl)
theorem gm_cw25 : Cond.code yX2_become cX2_become 2 none ∈ lw_tbl := gm_T3 (List.mem_of_getElem? (i := 157) rfl)
theorem gm_cw26 : Cond.code yX2_beginOn cX2_beginOn 2 none ∈ lw_tbl := gm_T3 (List.mem_of_getElem? (i := 52) rfl)
theorem gm_cw27 : Cond.code yX2_suits cX2_suits 2 (some .boolean) ∈ lw_tbl := gm_T3 (List.mem_of_getElem? (i := 170) rfl)
theorem gm_cw28 : Cond.code yX2_seatOrFirst cX2_seatOrFirst 3 (some .int) ∈ lw_tbl := gm_T3 (List.mem_of_getElem? (i := 17) rfl)
theorem gm_cw29 : Cond.code yX2_brokenOn cX2_brokenOn 4 (some .int) ∈ lw_tbl := gm_T3 (List.mem_of_getElem? (i := 90) rfl)
theorem gm_cw30 : Cond.code yX2_wideGaps cX2_wideGaps 4 (some .int) ∈ lw_tbl := gm_T3 (List.mem_of_getElem? (i := 94) rfl)
theorem gm_cw31 : Cond.code yX2_farTasks cX2_farTasks 5 (some .int) ∈ lw_tbl := gm_T3 (List.mem_of_getElem? (i := 98) rfl)
theorem gm_cw32 : Cond.code yX3_init cX3_init 2 none ∈ lw_tbl := gm_T1 (List.mem_of_getElem? (i := 76) rfl)
theorem gm_cw33 : Cond.code yX3_refresh cX3_refresh 1 none ∈ lw_tbl := gm_T2 (List.mem_of_getElem? (i := 126) rfl)
theorem gm_cw34 : Cond.code yX3_canPlaceBy cX3_canPlaceBy 4 (some .boolean) ∈ lw_tbl := gm_T2 (List.mem_of_getElem? (i := 148) rfl)
theorem gm_cw35 : Cond.code yX3_canPlace cX3_canPlace 7 (some .boolean) ∈ lw_tbl := gm_T2 (List.mem_of_getElem? (i := 155) rfl)
theorem gm_cw36 : Cond.code yX3_isWhole cX3_isWhole 1 (some .boolean) ∈ lw_tbl := gm_T3 (List.mem_of_getElem? (i := 5) rfl)
theorem gm_cw37 : Cond.code yX3_seatsOfRow cX3_seatsOfRow 2 (some .int) ∈ lw_tbl := gm_T3 (List.mem_of_getElem? (i := 76) rfl)
theorem gm_cw38 : Cond.code yX3_seatsOfAllRows cX3_seatsOfAllRows 3 (some .int) ∈ lw_tbl := gm_T3 (List.mem_of_getElem? (i := 234) rfl)
theorem gm_cw39 : Cond.code yX3_firstRowOfWitness cX3_firstRowOfWitness 1 (some .int) ∈ lw_tbl := gm_T3 (List.mem_of_getElem? (i := 109) rfl)
theorem gm_cw40 : Cond.code yX3_lastRowOfWitness cX3_lastRowOfWitness 1 (some .int) ∈ lw_tbl := gm_T3 (List.mem_of_getElem? (i := 113) rfl)
theorem gm_cw41 : Cond.code yX3_coreOfRow cX3_coreOfRow 2 (some .int) ∈ lw_tbl := gm_T2 (List.mem_of_getElem? (i := 187) rfl)
theorem gm_cw42 : Cond.code yX3_criticalOfRow cX3_criticalOfRow 2 (some .int) ∈ lw_tbl := gm_T2 (List.mem_of_getElem? (i := 122) rfl)
theorem gm_cw43 : Cond.code yX3_refreshMarks cX3_refreshMarks 1 none ∈ lw_tbl := gm_T2 (List.mem_of_getElem? (i := 163) rfl)
theorem gm_cw44 : Cond.code yX3_markCritical cX3_markCritical 3 none ∈ lw_tbl := gm_T2 (List.mem_of_getElem? (i := 168) rfl)
theorem gm_cw45 : Cond.code yX3_markWitness cX3_markWitness 3 none ∈ lw_tbl := gm_T2 (List.mem_of_getElem? (i := 176) rfl)
theorem gm_cw46 : Cond.code yX3_markCore cX3_markCore 6 none ∈ lw_tbl := gm_T2 (List.mem_of_getElem? (i := 180) rfl)
theorem gm_cw47 : Cond.code yX3_leastLength cX3_leastLength 2 (some .int) ∈ lw_tbl := gm_T3 (List.mem_of_getElem? (i := 129) rfl)
theorem gm_cw48 : Cond.code yX3_greatestWish cX3_greatestWish 2 (some .int) ∈ lw_tbl := gm_T3 (List.mem_of_getElem? (i := 133) rfl)
theorem gm_cw49 : Cond.code yX3_fewestMoves cX3_fewestMoves 3 (some .int) ∈ lw_tbl := gm_T3 (List.mem_of_getElem? (i := 13) rfl)
theorem gm_cw50 : Cond.code yX3_addMovesOfRow cX3_addMovesOfRow 4 none ∈ lw_tbl := gm_T3 (List.mem_of_getElem? (i := 21) rfl)
theorem gm_cw51 : Cond.code yX3_movesTo cX3_movesTo 4 (some .int) ∈ lw_tbl := gm_T3 (List.mem_of_getElem? (i := 28) rfl)
theorem gm_cw52 : Cond.code yX3_fewestBelow cX3_fewestBelow 4 (some .int) ∈ lw_tbl := gm_T3 (List.mem_of_getElem? (i := 36) rfl)
theorem gm_cw53 : Cond.code yX3_cheapest cX3_cheapest 7 (some .int) ∈ lw_tbl := gm_T3 (List.mem_of_getElem? (i := 44) rfl)
theorem gm_cw54 : Cond.code yX3_layFewest cX3_layFewest 7 none ∈ lw_tbl := gm_T3 (List.mem_of_getElem? (i := 48) rfl)
theorem gm_cw55 : Cond.code yX4_init cX4_init 1 none ∈ lw_tbl := gm_T1 (List.mem_of_getElem? (i := 82) rfl)
theorem gm_cw56 : Cond.code yX4_prepare cX4_prepare 5 none ∈ lw_tbl := gm_T2 (List.mem_of_getElem? (i := 130) rfl)
theorem gm_cw57 : Cond.code yX4_addUnlessWide cX4_addUnlessWide 5 none ∈ lw_tbl := gm_T2 (List.mem_of_getElem? (i := 135) rfl)
theorem gm_cw58 : Cond.code yX4_joinSeats cX4_joinSeats 3 none ∈ lw_tbl := gm_T2 (List.mem_of_getElem? (i := 140) rfl)
theorem gm_cw59 : Cond.code yX4_areNear cX4_areNear 5 (some .boolean) ∈ lw_tbl := gm_T2 (List.mem_of_getElem? (i := 144) rfl)
theorem gm_cw60 : Cond.code yX4_columnAt cX4_columnAt 3 (some .int) ∈ lw_tbl := gm_T3 (List.mem_of_getElem? (i := 32) rfl)
theorem gm_cw61 : Cond.code yX4_seatsFitting cX4_seatsFitting 2 (some .long) ∈ lw_tbl := gm_T3 (List.mem_of_getElem? (i := 40) rfl)
theorem gm_cw62 : Cond.code yX4_seatsWithout cX4_seatsWithout 5 (some .long) ∈ lw_tbl := gm_T2 (List.mem_of_getElem? (i := 152) rfl)
theorem gm_cw63 : Cond.code yX4_seatsFittingAny cX4_seatsFittingAny 6 (some .long) ∈ lw_tbl := gm_T2 (List.mem_of_getElem? (i := 159) rfl)
theorem gm_cw64 : Cond.code yX4_columnsOfAll cX4_columnsOfAll 5 (some .int) ∈ lw_tbl := gm_T2 (List.mem_of_getElem? (i := 172) rfl)
theorem gm_cw65 : Cond.code yX5_init cX5_init 1 none ∈ lw_tbl := gm_T1 (List.mem_of_getElem? (i := 217) rfl)
theorem gm_cw66 : Cond.code yX5_begin cX5_begin 3 none ∈ lw_tbl := gm_T3 (List.mem_of_getElem? (i := 190) rfl)
theorem gm_cw67 : Cond.code yX5_findingAt cX5_findingAt 3 (some .int) ∈ lw_tbl := gm_T3 (List.mem_of_getElem? (i := 203) rfl)
theorem gm_cw68 : Cond.code yX5_hasItems cX5_hasItems 3 (some .boolean) ∈ lw_tbl := gm_T3 (List.mem_of_getElem? (i := 221) rfl)
theorem gm_cw69 : Cond.code yX5_put cX5_put 3 none ∈ lw_tbl := gm_T3 (List.mem_of_getElem? (i := 207) rfl)
theorem gm_cw70 : Cond.code yX6_init cX6_init 2 none ∈ lw_tbl := gm_T1 (List.mem_of_getElem? (i := 18) rfl)
theorem gm_cw71 : Cond.code yX6_grid cX6_grid 3 (some .int) ∈ lw_tbl := gm_T2 (List.mem_of_getElem? (i := 24) rfl)
theorem gm_cw72 : Cond.code yX6_wish cX6_wish 3 (some .int) ∈ lw_tbl := gm_T2 (List.mem_of_getElem? (i := 42) rfl)
theorem gm_cw73 : Cond.code yX6_length cX6_length 3 (some .int) ∈ lw_tbl := gm_T2 (List.mem_of_getElem? (i := 50) rfl)
theorem gm_cw74 : Cond.code yX6_sides cX6_sides 3 (some .int) ∈ lw_tbl := gm_T2 (List.mem_of_getElem? (i := 58) rfl)
theorem gm_cw75 : Cond.code yX6_fault cX6_fault 3 (some .int) ∈ lw_tbl := gm_T2 (List.mem_of_getElem? (i := 66) rfl)
theorem gm_cw76 : Cond.code yX6_lots cX6_lots 7 (some .int) ∈ lw_tbl := gm_T2 (List.mem_of_getElem? (i := 92) rfl)
theorem gm_cw77 : Cond.code yX6_read cX6_read 7 (some .int) ∈ lw_tbl := gm_T2 (List.mem_of_getElem? (i := 97) rfl)
theorem gm_cw78 : Cond.code yX6_cell cX6_cell 4 (some .int) ∈ lw_tbl := gm_T2 (List.mem_of_getElem? (i := 111) rfl)
theorem gm_cw79 : Cond.code yX6_whole cX6_whole 1 (some .int) ∈ lw_tbl := gm_T3 (List.mem_of_getElem? (i := 1) rfl)
theorem gm_cw80 : Cond.code yX6_mend cX6_mend 2 (some .int) ∈ lw_tbl := gm_T3 (List.mem_of_getElem? (i := 9) rfl)
theorem gm_cw81 : Cond.code yX6_moves cX6_moves 1 (some .int) ∈ lw_tbl := gm_T3 (List.mem_of_getElem? (i := 56) rfl)
theorem gm_cw82 : Cond.code yX6_seat cX6_seat 4 (some .int) ∈ lw_tbl := gm_T3 (List.mem_of_getElem? (i := 60) rfl)
theorem gm_cw83 : Cond.code yX6_column cX6_column 3 (some .int) ∈ lw_tbl := gm_T3 (List.mem_of_getElem? (i := 68) rfl)
theorem gm_cw84 : Cond.code yX6_seats cX6_seats 2 (some .int) ∈ lw_tbl := gm_T3 (List.mem_of_getElem? (i := 72) rfl)
theorem gm_cw85 : Cond.code yX6_broken cX6_broken 1 (some .int) ∈ lw_tbl := gm_T3 (List.mem_of_getElem? (i := 86) rfl)
theorem gm_cw86 : Cond.code yX6_witness cX6_witness 2 (some .int) ∈ lw_tbl := gm_T3 (List.mem_of_getElem? (i := 105) rfl)
theorem gm_cw87 : Cond.code yX6_core cX6_core 3 (some .int) ∈ lw_tbl := gm_T3 (List.mem_of_getElem? (i := 117) rfl)
theorem gm_cw88 : Cond.code yX6_critical cX6_critical 3 (some .int) ∈ lw_tbl := gm_T3 (List.mem_of_getElem? (i := 121) rfl)
theorem gm_cw89 : Cond.code yX6_least cX6_least 2 (some .int) ∈ lw_tbl := gm_T3 (List.mem_of_getElem? (i := 125) rfl)
theorem gm_cw90 : Cond.code yX6_chains cX6_chains 1 (some .int) ∈ lw_tbl := gm_T3 (List.mem_of_getElem? (i := 137) rfl)
theorem gm_cw91 : Cond.code yX6_cut cX6_cut 1 (some .long) ∈ lw_tbl := gm_T3 (List.mem_of_getElem? (i := 145) rfl)
theorem gm_cw92 : Cond.code yX6_keep cX6_keep 3 (some .int) ∈ lw_tbl := gm_T3 (List.mem_of_getElem? (i := 149) rfl)
theorem gm_cw93 : Cond.code yX6_go cX6_go 3 (some .int) ∈ lw_tbl := gm_T3 (List.mem_of_getElem? (i := 166) rfl)
theorem gm_cw94 : Cond.code yX6_differ cX6_differ 5 (some .int) ∈ lw_tbl := gm_T3 (List.mem_of_getElem? (i := 174) rfl)
theorem gm_cw95 : Cond.code yX6_drop cX6_drop 3 (some .int) ∈ lw_tbl := gm_T3 (List.mem_of_getElem? (i := 179) rfl)
theorem gm_cw96 : Cond.code yX6_sheet cX6_sheet 5 (some .int) ∈ lw_tbl := gm_T3 (List.mem_of_getElem? (i := 183) rfl)
theorem gm_cw97 : Cond.code yX6_lose cX6_lose 3 (some .int) ∈ lw_tbl := gm_T3 (List.mem_of_getElem? (i := 195) rfl)
theorem gm_cw98 : Cond.code yX6_lay cX6_lay 7 (some .int) ∈ lw_tbl := gm_T3 (List.mem_of_getElem? (i := 199) rfl)
theorem gm_cw99 : Cond.code yX6_get cX6_get 6 (some .int) ∈ lw_tbl := gm_T3 (List.mem_of_getElem? (i := 212) rfl)
theorem gm_cw100 : Cond.code yX6_copy cX6_copy 8 (some .int) ∈ lw_tbl := gm_T3 (List.mem_of_getElem? (i := 217) rfl)
theorem gm_cw101 : Cond.code yX6_write cX6_write 6 (some .int) ∈ lw_tbl := gm_T3 (List.mem_of_getElem? (i := 226) rfl)
theorem gm_cw102 : Cond.code yX6_count cX6_count 2 (some .int) ∈ lw_tbl := gm_T3 (List.mem_of_getElem? (i := 230) rfl)
theorem gm_cw103 : Cond.code yX6_digest cX6_digest 6 (some .long) ∈ lw_tbl := gm_T3 (List.mem_of_getElem? (i := 238) rfl)
theorem gm_cw104 : Cond.code yX6_found cX6_found 2 (some .int) ∈ lw_tbl := gm_T2 (List.mem_of_getElem? (i := 106) rfl)
theorem gm_cw105 : Cond.code yX6_slotAt cX6_slotAt 2 (some (.object "GridMender$Laying")) ∈ lw_tbl := gm_T3 (List.mem_of_getElem? (i := 153) rfl)
theorem gm_cw106 : Cond.code yX6_sheetAt cX6_sheetAt 2 (some (.object "GridMender$Sheet")) ∈ lw_tbl := gm_T2 (List.mem_of_getElem? (i := 101) rfl)
theorem gm_cw107 : Cond.code yX6_filledSlots cX6_filledSlots 3 (some .int) ∈ lw_tbl := gm_T3 (List.mem_of_getElem? (i := 162) rfl)
theorem gm_cw108 : Cond.code yX6_isForm cX6_isForm 1 (some .boolean) ∈ lw_tbl := gm_T3 (List.mem_of_getElem? (i := 186) rfl)
theorem gm_cw109 : Cond.code yX6_bitOf cX6_bitOf 2 (some .int) ∈ lw_tbl := gm_T2 (List.mem_of_getElem? (i := 114) rfl)
theorem gm_cw110 : Cond.code yX6_columnOf cX6_columnOf 4 (some .int) ∈ lw_tbl := gm_T3 (List.mem_of_getElem? (i := 24) rfl)
theorem gm_cw111 : Cond.code yX6_taskAt cX6_taskAt 2 (some .int) ∈ lw_tbl := gm_T2 (List.mem_of_getElem? (i := 117) rfl)
theorem gm_cw112 : Cond.code yX6_tasksMoved cX6_tasksMoved 5 (some .int) ∈ lw_tbl := gm_T3 (List.mem_of_getElem? (i := 63) rfl)
theorem gm_cw113 : Cond.code yX7_init cX7_init 2 none ∈ lw_tbl := gm_T4 (List.mem_of_getElem? (i := 17) rfl)
theorem gm_cw114 : Cond.code yX7_in cX7_in 6 (some .boolean) ∈ lw_tbl := gm_T4 (List.mem_of_getElem? (i := 130) rfl)
theorem gm_cw115 : Cond.code yX7_isTwo cX7_isTwo 1 (some .boolean) ∈ lw_tbl := gm_T5 (List.mem_of_getElem? (i := 70) rfl)
theorem gm_cw116 : Cond.code yX7_isIn cX7_isIn 3 (some .boolean) ∈ lw_tbl := gm_T4 (List.mem_of_getElem? (i := 202) rfl)
theorem gm_cw117 : Cond.code yX7_lesser cX7_lesser 2 (some .int) ∈ lw_tbl := gm_T4 (List.mem_of_getElem? (i := 167) rfl)
theorem gm_cw118 : Cond.code yX7_away cX7_away 1 (some .int) ∈ lw_tbl := gm_T4 (List.mem_of_getElem? (i := 234) rfl)
theorem gm_cw119 : Cond.code yX7_size cX7_size 4 (some .int) ∈ lw_tbl := gm_T4 (List.mem_of_getElem? (i := 199) rfl)
theorem gm_cw120 : Cond.code yX7_finding cX7_finding 2 (some .int) ∈ lw_tbl := gm_T4 (List.mem_of_getElem? (i := 135) rfl)
theorem gm_cw121 : Cond.code yX7_isSheet cX7_isSheet 1 (some .boolean) ∈ lw_tbl := gm_T4 (List.mem_of_getElem? (i := 126) rfl)
theorem gm_cw122 : Cond.code yX7_sheet cX7_sheet 5 (some .int) ∈ lw_tbl := gm_T4 (List.mem_of_getElem? (i := 123) rfl)
theorem gm_cw123 : Cond.code yX7_lose cX7_lose 2 (some .int) ∈ lw_tbl := gm_T4 (List.mem_of_getElem? (i := 139) rfl)
theorem gm_cw124 : Cond.code yX7_lacks cX7_lacks 4 (some .int) ∈ lw_tbl := gm_T4 (List.mem_of_getElem? (i := 147) rfl)
theorem gm_cw125 : Cond.code yX7_cutTo cX7_cutTo 2 (some .int) ∈ lw_tbl := gm_T4 (List.mem_of_getElem? (i := 150) rfl)
theorem gm_cw126 : Cond.code yX7_lay cX7_lay 6 (some .int) ∈ lw_tbl := gm_T4 (List.mem_of_getElem? (i := 143) rfl)
theorem gm_cw127 : Cond.code yX7_get cX7_get 4 (some .int) ∈ lw_tbl := gm_T4 (List.mem_of_getElem? (i := 154) rfl)
theorem gm_cw128 : Cond.code yX7_copy cX7_copy 7 (some .int) ∈ lw_tbl := gm_T4 (List.mem_of_getElem? (i := 159) rfl)
theorem gm_cw129 : Cond.code yX7_isRow cX7_isRow 2 (some .boolean) ∈ lw_tbl := gm_T4 (List.mem_of_getElem? (i := 192) rfl)
theorem gm_cw130 : Cond.code yX7_isCell cX7_isCell 3 (some .boolean) ∈ lw_tbl := gm_T4 (List.mem_of_getElem? (i := 188) rfl)
theorem gm_cw131 : Cond.code yX7_faulty cX7_faulty 3 (some .int) ∈ lw_tbl := gm_T4 (List.mem_of_getElem? (i := 196) rfl)
theorem gm_cw132 : Cond.code yX7_grid cX7_grid 4 (some .int) ∈ lw_tbl := gm_T4 (List.mem_of_getElem? (i := 163) rfl)
theorem gm_cw133 : Cond.code yX7_wish cX7_wish 3 (some .int) ∈ lw_tbl := gm_T4 (List.mem_of_getElem? (i := 171) rfl)
theorem gm_cw134 : Cond.code yX7_length cX7_length 3 (some .int) ∈ lw_tbl := gm_T4 (List.mem_of_getElem? (i := 175) rfl)
theorem gm_cw135 : Cond.code yX7_sides cX7_sides 3 (some .int) ∈ lw_tbl := gm_T4 (List.mem_of_getElem? (i := 179) rfl)
theorem gm_cw136 : Cond.code yX7_fault cX7_fault 3 (some .int) ∈ lw_tbl := gm_T4 (List.mem_of_getElem? (i := 184) rfl)
theorem gm_cw137 : Cond.code yX7_becomes cX7_becomes 4 none ∈ lw_tbl := gm_T4 (List.mem_of_getElem? (i := 212) rfl)
theorem gm_cw138 : Cond.code yX7_lots cX7_lots 5 (some .int) ∈ lw_tbl := gm_T4 (List.mem_of_getElem? (i := 206) rfl)
theorem gm_cw139 : Cond.code yX7_read cX7_read 5 (some .int) ∈ lw_tbl := gm_T4 (List.mem_of_getElem? (i := 216) rfl)
theorem gm_cw140 : Cond.code yX7_columnOf cX7_columnOf 4 (some .int) ∈ lw_tbl := gm_T4 (List.mem_of_getElem? (i := 231) rfl)
theorem gm_cw141 : Cond.code yX7_seatsOf cX7_seatsOf 7 none ∈ lw_tbl := gm_T4 (List.mem_of_getElem? (i := 228) rfl)
theorem gm_cw142 : Cond.code yX7_seatsNow cX7_seatsNow 1 none ∈ lw_tbl := gm_T4 (List.mem_of_getElem? (i := 224) rfl)
theorem gm_cw143 : Cond.code yX7_fits cX7_fits 3 (some .boolean) ∈ lw_tbl := gm_T5 (List.mem_of_getElem? (i := 6) rfl)
theorem gm_cw144 : Cond.code yX7_isWhole cX7_isWhole 8 (some .boolean) ∈ lw_tbl := gm_T5 (List.mem_of_getElem? (i := 2) rfl)
theorem gm_cw145 : Cond.code yX7_isWholeNow cX7_isWholeNow 1 (some .boolean) ∈ lw_tbl := gm_T4 (List.mem_of_getElem? (i := 238) rfl)
theorem gm_cw146 : Cond.code yX7_whole cX7_whole 1 (some .int) ∈ lw_tbl := gm_T4 (List.mem_of_getElem? (i := 220) rfl)
theorem gm_cw147 : Cond.code yX7_columnNow cX7_columnNow 3 (some .int) ∈ lw_tbl := gm_T5 (List.mem_of_getElem? (i := 23) rfl)
theorem gm_cw148 : Cond.code yX7_movesTo cX7_movesTo 5 (some .int) ∈ lw_tbl := gm_T5 (List.mem_of_getElem? (i := 19) rfl)
theorem gm_cw149 : Cond.code yX7_fewest cX7_fewest 6 (some .int) ∈ lw_tbl := gm_T5 (List.mem_of_getElem? (i := 14) rfl)
theorem gm_cw150 : Cond.code yX7_chooses cX7_chooses 7 none ∈ lw_tbl := gm_T5 (List.mem_of_getElem? (i := 27) rfl)
theorem gm_cw151 : Cond.code yX7_mend cX7_mend 3 (some .int) ∈ lw_tbl := gm_T5 (List.mem_of_getElem? (i := 10) rfl)
theorem gm_cw152 : Cond.code yX7_movesNow cX7_movesNow 2 (some .int) ∈ lw_tbl := gm_T5 (List.mem_of_getElem? (i := 35) rfl)
theorem gm_cw153 : Cond.code yX7_moves cX7_moves 1 (some .int) ∈ lw_tbl := gm_T5 (List.mem_of_getElem? (i := 31) rfl)
theorem gm_cw154 : Cond.code yX7_seat cX7_seat 4 (some .int) ∈ lw_tbl := gm_T5 (List.mem_of_getElem? (i := 39) rfl)
theorem gm_cw155 : Cond.code yX7_columnBy cX7_columnBy 3 (some .int) ∈ lw_tbl := gm_T5 (List.mem_of_getElem? (i := 47) rfl)
theorem gm_cw156 : Cond.code yX7_column cX7_column 3 (some .int) ∈ lw_tbl := gm_T5 (List.mem_of_getElem? (i := 43) rfl)
theorem gm_cw157 : Cond.code yX7_seatsBy cX7_seatsBy 4 (some .int) ∈ lw_tbl := gm_T5 (List.mem_of_getElem? (i := 55) rfl)
theorem gm_cw158 : Cond.code yX7_seats cX7_seats 2 (some .int) ∈ lw_tbl := gm_T5 (List.mem_of_getElem? (i := 51) rfl)
theorem gm_cw159 : Cond.code yX7_brokenNow cX7_brokenNow 5 (some .int) ∈ lw_tbl := gm_T5 (List.mem_of_getElem? (i := 63) rfl)
theorem gm_cw160 : Cond.code yX7_broken cX7_broken 1 (some .int) ∈ lw_tbl := gm_T5 (List.mem_of_getElem? (i := 59) rfl)
theorem gm_cw161 : Cond.code yX7_witnessBy cX7_witnessBy 4 (some .int) ∈ lw_tbl := gm_T5 (List.mem_of_getElem? (i := 74) rfl)
theorem gm_cw162 : Cond.code yX7_witness cX7_witness 2 (some .int) ∈ lw_tbl := gm_T5 (List.mem_of_getElem? (i := 67) rfl)
theorem gm_cw163 : Cond.code yX7_coreNow cX7_coreNow 9 (some .long) ∈ lw_tbl := gm_T5 (List.mem_of_getElem? (i := 82) rfl)
theorem gm_cw164 : Cond.code yX7_criticalNow cX7_criticalNow 6 (some .long) ∈ lw_tbl := gm_T5 (List.mem_of_getElem? (i := 90) rfl)
theorem gm_cw165 : Cond.code yX7_core cX7_core 1 (some .int) ∈ lw_tbl := gm_T5 (List.mem_of_getElem? (i := 78) rfl)
theorem gm_cw166 : Cond.code yX7_critical cX7_critical 1 (some .int) ∈ lw_tbl := gm_T5 (List.mem_of_getElem? (i := 86) rfl)
theorem gm_cw167 : Cond.code yX7_leastBy cX7_leastBy 5 (some .int) ∈ lw_tbl := gm_T5 (List.mem_of_getElem? (i := 98) rfl)
theorem gm_cw168 : Cond.code yX7_least cX7_least 2 (some .int) ∈ lw_tbl := gm_T5 (List.mem_of_getElem? (i := 94) rfl)
theorem gm_cw169 : Cond.code yX7_isOut cX7_isOut 4 (some .boolean) ∈ lw_tbl := gm_T5 (List.mem_of_getElem? (i := 122) rfl)
theorem gm_cw170 : Cond.code yX7_isBad cX7_isBad 2 (some .boolean) ∈ lw_tbl := gm_T5 (List.mem_of_getElem? (i := 114) rfl)
theorem gm_cw171 : Cond.code yX7_beside cX7_beside 5 (some .int) ∈ lw_tbl := gm_T5 (List.mem_of_getElem? (i := 130) rfl)
theorem gm_cw172 : Cond.code yX7_reaches cX7_reaches 3 none ∈ lw_tbl := gm_T5 (List.mem_of_getElem? (i := 118) rfl)
theorem gm_cw173 : Cond.code yX7_goesOn cX7_goesOn 5 none ∈ lw_tbl := gm_T5 (List.mem_of_getElem? (i := 126) rfl)
theorem gm_cw174 : Cond.code yX7_finds cX7_finds 3 (some .int) ∈ lw_tbl := gm_T5 (List.mem_of_getElem? (i := 110) rfl)
theorem gm_cw175 : Cond.code yX7_turns cX7_turns 6 none ∈ lw_tbl := gm_T5 (List.mem_of_getElem? (i := 134) rfl)
theorem gm_cw176 : Cond.code yX7_chainsNow cX7_chainsNow 6 (some .int) ∈ lw_tbl := gm_T5 (List.mem_of_getElem? (i := 106) rfl)
theorem gm_cw177 : Cond.code yX7_chains cX7_chains 1 (some .int) ∈ lw_tbl := gm_T5 (List.mem_of_getElem? (i := 102) rfl)
theorem gm_cw178 : Cond.code yX7_cutNow cX7_cutNow 4 (some .long) ∈ lw_tbl := gm_T5 (List.mem_of_getElem? (i := 142) rfl)
theorem gm_cw179 : Cond.code yX7_cut cX7_cut 1 (some .long) ∈ lw_tbl := gm_T5 (List.mem_of_getElem? (i := 138) rfl)
theorem gm_cw180 : Cond.code yX7_taskAt cX7_taskAt 4 (some .int) ∈ lw_tbl := gm_T5 (List.mem_of_getElem? (i := 155) rfl)
theorem gm_cw181 : Cond.code yX7_cellBy cX7_cellBy 5 (some .int) ∈ lw_tbl := gm_T5 (List.mem_of_getElem? (i := 151) rfl)
theorem gm_cw182 : Cond.code yX7_cell cX7_cell 6 (some .int) ∈ lw_tbl := gm_T5 (List.mem_of_getElem? (i := 146) rfl)
theorem gm_cw183 : Cond.code yX7_isSlot cX7_isSlot 1 (some .boolean) ∈ lw_tbl := gm_T5 (List.mem_of_getElem? (i := 162) rfl)
theorem gm_cw184 : Cond.code yX7_keep cX7_keep 3 (some .int) ∈ lw_tbl := gm_T5 (List.mem_of_getElem? (i := 159) rfl)
theorem gm_cw185 : Cond.code yX7_lacksSlot cX7_lacksSlot 2 (some .int) ∈ lw_tbl := gm_T5 (List.mem_of_getElem? (i := 171) rfl)
theorem gm_cw186 : Cond.code yX7_go cX7_go 4 (some .int) ∈ lw_tbl := gm_T5 (List.mem_of_getElem? (i := 167) rfl)
theorem gm_cw187 : Cond.code yX7_differ cX7_differ 5 (some .int) ∈ lw_tbl := gm_T5 (List.mem_of_getElem? (i := 175) rfl)
theorem gm_cw188 : Cond.code yX7_drop cX7_drop 2 (some .int) ∈ lw_tbl := gm_T5 (List.mem_of_getElem? (i := 179) rfl)
theorem gm_cw189 : Cond.code yX7_write cX7_write 5 (some .int) ∈ lw_tbl := gm_T5 (List.mem_of_getElem? (i := 183) rfl)
theorem gm_cw190 : Cond.code yX7_countBy cX7_countBy 2 (some .int) ∈ lw_tbl := gm_T5 (List.mem_of_getElem? (i := 191) rfl)
theorem gm_cw191 : Cond.code yX7_allSeats cX7_allSeats 3 (some .int) ∈ lw_tbl := gm_T5 (List.mem_of_getElem? (i := 195) rfl)
theorem gm_cw192 : Cond.code yX7_count cX7_count 2 (some .int) ∈ lw_tbl := gm_T5 (List.mem_of_getElem? (i := 187) rfl)
theorem gm_cw193 : Cond.code yX7_digest cX7_digest 11 (some .long) ∈ lw_tbl := gm_T5 (List.mem_of_getElem? (i := 199) rfl)
theorem gm_cw194 : Cond.code yJ6_bitCount_0f7a4 cJ6_bitCount_0f7a4 1 (some .int) ∈ lw_tbl := gm_T2 (List.mem_of_getElem? (i := 85) rfl)
theorem gm_cw195 : Cond.code yJ13_bitCount_95d88 cJ13_bitCount_95d88 2 (some .int) ∈ lw_tbl := gm_T3 (List.mem_of_getElem? (i := 79) rfl)
theorem gm_cw196 : Cond.code yJ9_abs_0f7a4 cJ9_abs_0f7a4 1 (some .int) ∈ lw_tbl := gm_T3 (List.mem_of_getElem? (i := 101) rfl)
theorem gm_cw197 : Cond.code yJ9_min_7cf53 cJ9_min_7cf53 2 (some .int) ∈ lw_tbl := gm_T2 (List.mem_of_getElem? (i := 31) rfl)
theorem gm_cw198 : Cond.code yJ7_fill_53178 cJ7_fill_53178 4 none ∈ lw_tbl := gm_T2 (List.mem_of_getElem? (i := 34) rfl)
set_option maxRecDepth 100000 in
theorem gm_cws : ∀ q ∈ gm_PT, q.2.2.2.2.1 = 12 ∨ Cond.code q.1 q.2.1 q.2.2.1 q.2.2.2.1 ∈ lw_tbl := List.forall_mem_cons.mpr ⟨Or.inr gm_cw0, List.forall_mem_cons.mpr ⟨Or.inr gm_cw1, List.forall_mem_cons.mpr ⟨Or.inr gm_cw2, List.forall_mem_cons.mpr ⟨Or.inr gm_cw3, List.forall_mem_cons.mpr ⟨Or.inr gm_cw4, List.forall_mem_cons.mpr ⟨Or.inr gm_cw5, List.forall_mem_cons.mpr ⟨Or.inr gm_cw6, List.forall_mem_cons.mpr ⟨Or.inr gm_cw7, List.forall_mem_cons.mpr ⟨Or.inr gm_cw8, List.forall_mem_cons.mpr ⟨Or.inr gm_cw9, List.forall_mem_cons.mpr ⟨Or.inr gm_cw10, List.forall_mem_cons.mpr ⟨Or.inr gm_cw11, List.forall_mem_cons.mpr ⟨Or.inr gm_cw12, List.forall_mem_cons.mpr ⟨Or.inr gm_cw13, List.forall_mem_cons.mpr ⟨Or.inr gm_cw14, List.forall_mem_cons.mpr ⟨Or.inr gm_cw15, List.forall_mem_cons.mpr ⟨Or.inr gm_cw16, List.forall_mem_cons.mpr ⟨Or.inr gm_cw17, List.forall_mem_cons.mpr ⟨Or.inr gm_cw18, List.forall_mem_cons.mpr ⟨Or.inr gm_cw19, List.forall_mem_cons.mpr ⟨Or.inr gm_cw20, List.forall_mem_cons.mpr ⟨Or.inr gm_cw21, List.forall_mem_cons.mpr ⟨Or.inr gm_cw22, List.forall_mem_cons.mpr ⟨Or.inr gm_cw23, List.forall_mem_cons.mpr ⟨Or.inr gm_cw24, List.forall_mem_cons.mpr ⟨Or.inr gm_cw25, List.forall_mem_cons.mpr ⟨Or.inr gm_cw26, List.forall_mem_cons.mpr ⟨Or.inr gm_cw27, List.forall_mem_cons.mpr ⟨Or.inr gm_cw28, List.forall_mem_cons.mpr ⟨Or.inr gm_cw29, List.forall_mem_cons.mpr ⟨Or.inr gm_cw30, List.forall_mem_cons.mpr ⟨Or.inr gm_cw31, List.forall_mem_cons.mpr ⟨Or.inr gm_cw32, List.forall_mem_cons.mpr ⟨Or.inr gm_cw33, List.forall_mem_cons.mpr ⟨Or.inr gm_cw34, List.forall_mem_cons.mpr ⟨Or.inr gm_cw35, List.forall_mem_cons.mpr ⟨Or.inr gm_cw36, List.forall_mem_cons.mpr ⟨Or.inr gm_cw37, List.forall_mem_cons.mpr ⟨Or.inr gm_cw38, List.forall_mem_cons.mpr ⟨Or.inr gm_cw39, List.forall_mem_cons.mpr ⟨Or.inr gm_cw40, List.forall_mem_cons.mpr ⟨Or.inr gm_cw41, List.forall_mem_cons.mpr ⟨Or.inr gm_cw42, List.forall_mem_cons.mpr ⟨Or.inr gm_cw43, List.forall_mem_cons.mpr ⟨Or.inr gm_cw44, List.forall_mem_cons.mpr ⟨Or.inr gm_cw45, List.forall_mem_cons.mpr ⟨Or.inr gm_cw46, List.forall_mem_cons.mpr ⟨Or.inr gm_cw47, List.forall_mem_cons.mpr ⟨Or.inr gm_cw48, List.forall_mem_cons.mpr ⟨Or.inr gm_cw49, List.forall_mem_cons.mpr ⟨Or.inr gm_cw50, List.forall_mem_cons.mpr ⟨Or.inr gm_cw51, List.forall_mem_cons.mpr ⟨Or.inr gm_cw52, List.forall_mem_cons.mpr ⟨Or.inr gm_cw53, List.forall_mem_cons.mpr ⟨Or.inr gm_cw54, List.forall_mem_cons.mpr ⟨Or.inr gm_cw55, List.forall_mem_cons.mpr ⟨Or.inr gm_cw56, List.forall_mem_cons.mpr ⟨Or.inr gm_cw57, List.forall_mem_cons.mpr ⟨Or.inr gm_cw58, List.forall_mem_cons.mpr ⟨Or.inr gm_cw59, List.forall_mem_cons.mpr ⟨Or.inr gm_cw60, List.forall_mem_cons.mpr ⟨Or.inr gm_cw61, List.forall_mem_cons.mpr ⟨Or.inr gm_cw62, List.forall_mem_cons.mpr ⟨Or.inr gm_cw63, List.forall_mem_cons.mpr ⟨Or.inr gm_cw64, List.forall_mem_cons.mpr ⟨Or.inr gm_cw65, List.forall_mem_cons.mpr ⟨Or.inr gm_cw66, List.forall_mem_cons.mpr ⟨Or.inr gm_cw67, List.forall_mem_cons.mpr ⟨Or.inr gm_cw68, List.forall_mem_cons.mpr ⟨Or.inr gm_cw69, List.forall_mem_cons.mpr ⟨Or.inr gm_cw70, List.forall_mem_cons.mpr ⟨Or.inr gm_cw71, List.forall_mem_cons.mpr ⟨Or.inr gm_cw72, List.forall_mem_cons.mpr ⟨Or.inr gm_cw73, List.forall_mem_cons.mpr ⟨Or.inr gm_cw74, List.forall_mem_cons.mpr ⟨Or.inr gm_cw75, List.forall_mem_cons.mpr ⟨Or.inr gm_cw76, List.forall_mem_cons.mpr ⟨Or.inr gm_cw77, List.forall_mem_cons.mpr ⟨Or.inr gm_cw78, List.forall_mem_cons.mpr ⟨Or.inr gm_cw79, List.forall_mem_cons.mpr ⟨Or.inr gm_cw80, List.forall_mem_cons.mpr ⟨Or.inr gm_cw81, List.forall_mem_cons.mpr ⟨Or.inr gm_cw82, List.forall_mem_cons.mpr ⟨Or.inr gm_cw83, List.forall_mem_cons.mpr ⟨Or.inr gm_cw84, List.forall_mem_cons.mpr ⟨Or.inr gm_cw85, List.forall_mem_cons.mpr ⟨Or.inr gm_cw86, List.forall_mem_cons.mpr ⟨Or.inr gm_cw87, List.forall_mem_cons.mpr ⟨Or.inr gm_cw88, List.forall_mem_cons.mpr ⟨Or.inr gm_cw89, List.forall_mem_cons.mpr ⟨Or.inr gm_cw90, List.forall_mem_cons.mpr ⟨Or.inr gm_cw91, List.forall_mem_cons.mpr ⟨Or.inr gm_cw92, List.forall_mem_cons.mpr ⟨Or.inr gm_cw93, List.forall_mem_cons.mpr ⟨Or.inr gm_cw94, List.forall_mem_cons.mpr ⟨Or.inr gm_cw95, List.forall_mem_cons.mpr ⟨Or.inr gm_cw96, List.forall_mem_cons.mpr ⟨Or.inr gm_cw97, List.forall_mem_cons.mpr ⟨Or.inr gm_cw98, List.forall_mem_cons.mpr ⟨Or.inr gm_cw99, List.forall_mem_cons.mpr ⟨Or.inr gm_cw100, List.forall_mem_cons.mpr ⟨Or.inr gm_cw101, List.forall_mem_cons.mpr ⟨Or.inr gm_cw102, List.forall_mem_cons.mpr ⟨Or.inr gm_cw103, List.forall_mem_cons.mpr ⟨Or.inr gm_cw104, List.forall_mem_cons.mpr ⟨Or.inr gm_cw105, List.forall_mem_cons.mpr ⟨Or.inr gm_cw106, List.forall_mem_cons.mpr ⟨Or.inr gm_cw107, List.forall_mem_cons.mpr ⟨Or.inr gm_cw108, List.forall_mem_cons.mpr ⟨Or.inr gm_cw109, List.forall_mem_cons.mpr ⟨Or.inr gm_cw110, List.forall_mem_cons.mpr ⟨Or.inr gm_cw111, List.forall_mem_cons.mpr ⟨Or.inr gm_cw112, List.forall_mem_cons.mpr ⟨Or.inr gm_cw113, List.forall_mem_cons.mpr ⟨Or.inr gm_cw114, List.forall_mem_cons.mpr ⟨Or.inr gm_cw115, List.forall_mem_cons.mpr ⟨Or.inr gm_cw116, List.forall_mem_cons.mpr ⟨Or.inr gm_cw117, List.forall_mem_cons.mpr ⟨Or.inr gm_cw118, List.forall_mem_cons.mpr ⟨Or.inr gm_cw119, List.forall_mem_cons.mpr ⟨Or.inr gm_cw120, List.forall_mem_cons.mpr ⟨Or.inr gm_cw121, List.forall_mem_cons.mpr ⟨Or.inr gm_cw122, List.forall_mem_cons.mpr ⟨Or.inr gm_cw123, List.forall_mem_cons.mpr ⟨Or.inr gm_cw124, List.forall_mem_cons.mpr ⟨Or.inr gm_cw125, List.forall_mem_cons.mpr ⟨Or.inr gm_cw126, List.forall_mem_cons.mpr ⟨Or.inr gm_cw127, List.forall_mem_cons.mpr ⟨Or.inr gm_cw128, List.forall_mem_cons.mpr ⟨Or.inr gm_cw129, List.forall_mem_cons.mpr ⟨Or.inr gm_cw130, List.forall_mem_cons.mpr ⟨Or.inr gm_cw131, List.forall_mem_cons.mpr ⟨Or.inr gm_cw132, List.forall_mem_cons.mpr ⟨Or.inr gm_cw133, List.forall_mem_cons.mpr ⟨Or.inr gm_cw134, List.forall_mem_cons.mpr ⟨Or.inr gm_cw135, List.forall_mem_cons.mpr ⟨Or.inr gm_cw136, List.forall_mem_cons.mpr ⟨Or.inr gm_cw137, List.forall_mem_cons.mpr ⟨Or.inr gm_cw138, List.forall_mem_cons.mpr ⟨Or.inr gm_cw139, List.forall_mem_cons.mpr ⟨Or.inr gm_cw140, List.forall_mem_cons.mpr ⟨Or.inr gm_cw141, List.forall_mem_cons.mpr ⟨Or.inr gm_cw142, List.forall_mem_cons.mpr ⟨Or.inr gm_cw143, List.forall_mem_cons.mpr ⟨Or.inr gm_cw144, List.forall_mem_cons.mpr ⟨Or.inr gm_cw145, List.forall_mem_cons.mpr ⟨Or.inr gm_cw146, List.forall_mem_cons.mpr ⟨Or.inr gm_cw147, List.forall_mem_cons.mpr ⟨Or.inr gm_cw148, List.forall_mem_cons.mpr ⟨Or.inr gm_cw149, List.forall_mem_cons.mpr ⟨Or.inr gm_cw150, List.forall_mem_cons.mpr ⟨Or.inr gm_cw151, List.forall_mem_cons.mpr ⟨Or.inr gm_cw152, List.forall_mem_cons.mpr ⟨Or.inr gm_cw153, List.forall_mem_cons.mpr ⟨Or.inr gm_cw154, List.forall_mem_cons.mpr ⟨Or.inr gm_cw155, List.forall_mem_cons.mpr ⟨Or.inr gm_cw156, List.forall_mem_cons.mpr ⟨Or.inr gm_cw157, List.forall_mem_cons.mpr ⟨Or.inr gm_cw158, List.forall_mem_cons.mpr ⟨Or.inr gm_cw159, List.forall_mem_cons.mpr ⟨Or.inr gm_cw160, List.forall_mem_cons.mpr ⟨Or.inr gm_cw161, List.forall_mem_cons.mpr ⟨Or.inr gm_cw162, List.forall_mem_cons.mpr ⟨Or.inr gm_cw163, List.forall_mem_cons.mpr ⟨Or.inr gm_cw164, List.forall_mem_cons.mpr ⟨Or.inr gm_cw165, List.forall_mem_cons.mpr ⟨Or.inr gm_cw166, List.forall_mem_cons.mpr ⟨Or.inr gm_cw167, List.forall_mem_cons.mpr ⟨Or.inr gm_cw168, List.forall_mem_cons.mpr ⟨Or.inr gm_cw169, List.forall_mem_cons.mpr ⟨Or.inr gm_cw170, List.forall_mem_cons.mpr ⟨Or.inr gm_cw171, List.forall_mem_cons.mpr ⟨Or.inr gm_cw172, List.forall_mem_cons.mpr ⟨Or.inr gm_cw173, List.forall_mem_cons.mpr ⟨Or.inr gm_cw174, List.forall_mem_cons.mpr ⟨Or.inr gm_cw175, List.forall_mem_cons.mpr ⟨Or.inr gm_cw176, List.forall_mem_cons.mpr ⟨Or.inr gm_cw177, List.forall_mem_cons.mpr ⟨Or.inr gm_cw178, List.forall_mem_cons.mpr ⟨Or.inr gm_cw179, List.forall_mem_cons.mpr ⟨Or.inr gm_cw180, List.forall_mem_cons.mpr ⟨Or.inr gm_cw181, List.forall_mem_cons.mpr ⟨Or.inr gm_cw182, List.forall_mem_cons.mpr ⟨Or.inr gm_cw183, List.forall_mem_cons.mpr ⟨Or.inr gm_cw184, List.forall_mem_cons.mpr ⟨Or.inr gm_cw185, List.forall_mem_cons.mpr ⟨Or.inr gm_cw186, List.forall_mem_cons.mpr ⟨Or.inr gm_cw187, List.forall_mem_cons.mpr ⟨Or.inr gm_cw188, List.forall_mem_cons.mpr ⟨Or.inr gm_cw189, List.forall_mem_cons.mpr ⟨Or.inr gm_cw190, List.forall_mem_cons.mpr ⟨Or.inr gm_cw191, List.forall_mem_cons.mpr ⟨Or.inr gm_cw192, List.forall_mem_cons.mpr ⟨Or.inr gm_cw193, List.forall_mem_cons.mpr ⟨Or.inr gm_cw194, List.forall_mem_cons.mpr ⟨Or.inr gm_cw195, List.forall_mem_cons.mpr ⟨Or.inr gm_cw196, List.forall_mem_cons.mpr ⟨Or.inr gm_cw197, List.forall_mem_cons.mpr ⟨Or.inr gm_cw198, List.forall_mem_cons.mpr ⟨Or.inl rfl, fun _ h => absurd h List.not_mem_nil⟩⟩⟩⟩⟩⟩⟩⟩⟩⟩⟩⟩⟩⟩⟩⟩⟩⟩⟩⟩⟩⟩⟩⟩⟩⟩⟩⟩⟩⟩⟩⟩⟩⟩⟩⟩⟩⟩⟩⟩⟩⟩⟩⟩⟩⟩⟩⟩⟩⟩⟩⟩⟩⟩⟩⟩⟩⟩⟩⟩⟩⟩⟩⟩⟩⟩⟩⟩⟩⟩⟩⟩⟩⟩⟩⟩⟩⟩⟩⟩⟩⟩⟩⟩⟩⟩⟩⟩⟩⟩⟩⟩⟩⟩⟩⟩⟩⟩⟩⟩⟩⟩⟩⟩⟩⟩⟩⟩⟩⟩⟩⟩⟩⟩⟩⟩⟩⟩⟩⟩⟩⟩⟩⟩⟩⟩⟩⟩⟩⟩⟩⟩⟩⟩⟩⟩⟩⟩⟩⟩⟩⟩⟩⟩⟩⟩⟩⟩⟩⟩⟩⟩⟩⟩⟩⟩⟩⟩⟩⟩⟩⟩⟩⟩⟩⟩⟩⟩⟩⟩⟩⟩⟩⟩⟩⟩⟩⟩⟩⟩⟩⟩⟩⟩⟩⟩⟩⟩⟩⟩⟩⟩⟩⟩⟩⟩⟩⟩⟩⟩
end
section
theorem gm_lenP : gm_PP.length = gm_PT.length := by decide +kernel
theorem gm_ckI : ((gm_cl.zip gm_CP).all fun x => decide (lw_tbl[x.2.1]? = some (.instantiable x.1.1 x.1.2.2)) && decide (lw_tbl[x.2.2]? = some (.initialized x.1.1))) = true := by decide +kernel
theorem gm_wArr : lw_tbl[133]? = some (.arrayClass .int) ∧ lw_tbl[170]? = some (.arrayClass .long) ∧ lw_tbl[901]? = some (.arrayClass .boolean) ∧ lw_tbl[273]? = some (.arrayOver (.object "GridMender$Laying")) ∧ lw_tbl[275]? = some (.arrayOver (.object "GridMender$Sheet")) := by decide +kernel
theorem gm_wSys : lw_tbl[485]? = some (.native arraycopyName) ∧ lw_tbl[484]? = some (.static arraycopyName) ∧ lw_tbl[74]? = some (.initialized "java/lang/System") := by decide +kernel
theorem gm_wObj : lw_tbl[82]? = some (.instanceMethod objectInit) ∧ lw_tbl[83]? = some (.code objectInit ⟨#[0xb1]⟩ 1 none) := by decide +kernel
theorem gm_wMath : (lw_tbl[332]? = some (.static Lib.Math.min.name) ∧ lw_tbl[333]? = some (.code Lib.Math.min.name Lib.Math.min.code 2 (some .int))) ∧ (lw_tbl[642]? = some (.static Lib.Math.abs.name) ∧ lw_tbl[643]? = some (.code Lib.Math.abs.name Lib.Math.abs.code 1 (some .int))) ∧ lw_tbl[71]? = some (.initialized "java/lang/Math") := by decide +kernel
theorem gm_in0 : ∀ w ∈ u_ws RX0 TX0 7, w ∈ lw_tbl := by
  have e : u_ws RX0 TX0 7 = [118, 120, 122, 124, 126, 128, 130].filterMap (fun i => lw_tbl[i]?) := by decide +kernel
  intro w hw
  rw [e] at hw
  obtain ⟨i, -, hi⟩ := List.mem_filterMap.mp hw
  exact List.mem_of_getElem? hi
theorem gm_in1 : ∀ w ∈ u_ws RX1 TX1 9, w ∈ lw_tbl := by
  have e : u_ws RX1 TX1 9 = [229, 231, 233, 235, 237, 239, 241, 243, 245].filterMap (fun i => lw_tbl[i]?) := by decide +kernel
  intro w hw
  rw [e] at hw
  obtain ⟨i, -, hi⟩ := List.mem_filterMap.mp hw
  exact List.mem_of_getElem? hi
theorem gm_in2 : ∀ w ∈ u_ws RX2 TX2 5, w ∈ lw_tbl := by
  have e : u_ws RX2 TX2 5 = [262, 264, 266, 268, 270].filterMap (fun i => lw_tbl[i]?) := by decide +kernel
  intro w hw
  rw [e] at hw
  obtain ⟨i, -, hi⟩ := List.mem_filterMap.mp hw
  exact List.mem_of_getElem? hi
theorem gm_in3 : ∀ w ∈ u_ws RX3 TX3 14, w ∈ lw_tbl := by
  have e : u_ws RX3 TX3 14 = [185, 187, 189, 191, 193, 195, 197, 199, 201, 203, 205, 207, 209, 211].filterMap (fun i => lw_tbl[i]?) := by decide +kernel
  intro w hw
  rw [e] at hw
  obtain ⟨i, -, hi⟩ := List.mem_filterMap.mp hw
  exact List.mem_of_getElem? hi
theorem gm_in4 : ∀ w ∈ u_ws RX4 TX4 7, w ∈ lw_tbl := by
  have e : u_ws RX4 TX4 7 = [155, 157, 159, 161, 163, 165, 167].filterMap (fun i => lw_tbl[i]?) := by decide +kernel
  intro w hw
  rw [e] at hw
  obtain ⟨i, -, hi⟩ := List.mem_filterMap.mp hw
  exact List.mem_of_getElem? hi
theorem gm_in5 : ∀ w ∈ u_ws RX5 TX5 4, w ∈ lw_tbl := by
  have e : u_ws RX5 TX5 4 = [289, 291, 293, 295].filterMap (fun i => lw_tbl[i]?) := by decide +kernel
  intro w hw
  rw [e] at hw
  obtain ⟨i, -, hi⟩ := List.mem_filterMap.mp hw
  exact List.mem_of_getElem? hi
theorem gm_in6 : ∀ w ∈ u_ws RX6 TX6 8, w ∈ lw_tbl := by
  have e : u_ws RX6 TX6 8 = [306, 308, 310, 312, 314, 316, 318, 320].filterMap (fun i => lw_tbl[i]?) := by decide +kernel
  intro w hw
  rw [e] at hw
  obtain ⟨i, -, hi⟩ := List.mem_filterMap.mp hw
  exact List.mem_of_getElem? hi
theorem gm_in7 : ∀ w ∈ u_ws RX7 TX7 33, w ∈ lw_tbl := by
  have e : u_ws RX7 TX7 33 = [834, 836, 838, 840, 842, 844, 846, 848, 850, 852, 854, 856, 858, 860, 862, 864, 866, 868, 870, 872, 874, 876, 878, 880, 882, 884, 886, 888, 890, 892, 894, 896, 898].filterMap (fun i => lw_tbl[i]?) := by decide +kernel
  intro w hw
  rw [e] at hw
  obtain ⟨i, -, hi⟩ := List.mem_filterMap.mp hw
  exact List.mem_of_getElem? hi
end
section
/-! the abstract machine: values are the machine's, a reference is a cell's number (the script: .retAddr), the heap is shapes, ints, longs and references by cell and place -/
abbrev gm_H : Type := List (Nat × Nat) × (Nat → Nat → Int32) × (Nat → Nat → Int64) × (Nat → Nat → Option Nat)
abbrev gm_L : Type := List (Option Value)
abbrev gm_X : Type := Nat → Nat → gm_L → List Value → gm_H → Nat → Nat → (Value → gm_H → Prop) → Prop
def gm_find (pc : Nat) : List (Nat × Nat × gm_I) → Option (Nat × gm_I)
  | [] => none
  | r :: t => if r.1 = pc then some r.2 else gm_find pc t
def gm_fetch (m pc : Nat) : Option (Nat × gm_I) := match gm_PT[m]? with
  | some q => gm_find pc q.2.2.2.2.2.2.2.2.2.2
  | none => none
def gm_psh (ins : Instr) (z : Int) : Option Value := match ins with
  | .iconst n => some (.int (Int32.ofInt n))
  | .bipush n => some (.int (Int8.ofInt n).toInt32)
  | .sipush n => some (.int (Int16.ofInt n).toInt32)
  | .lconst n => some (.long (Int64.ofNat (n : Nat)))
  | .ldc _ => some (.int (Int32.ofInt z))
  | .ldc_w _ => some (.int (Int32.ofInt z))
  | .ldc2_w _ => some (.long (Int64.ofInt z))
  | .aconst_null => some .null
  | _ => none
def gm_kd : Value → Nat
  | .int _ => 0
  | .long _ => 1
  | .null => 2
  | .ref _ => 2
  | .retAddr _ => 2
  | _ => 3
def gm_ldi : Instr → Option (Nat × Nat)
  | .iload k => some (0, k)
  | .iload_n k => some (0, (k : Nat))
  | .lload k => some (1, k)
  | .lload_n k => some (1, (k : Nat))
  | .aload k => some (2, k)
  | .aload_n k => some (2, (k : Nat))
  | _ => none
def gm_sti : Instr → Option (Nat × Nat)
  | .istore k => some (0, k)
  | .istore_n k => some (0, (k : Nat))
  | .lstore k => some (1, k)
  | .lstore_n k => some (1, (k : Nat))
  | .astore k => some (2, k)
  | .astore_n k => some (2, (k : Nat))
  | _ => none
def gm_kill : Option Value → Option Value
  | some (.long _) => none
  | some (.double _) => none
  | x => x
def gm_s1 : gm_L → Nat → Value → gm_L
  | [], _, _ => []
  | _ :: t, 0, v => some v :: t
  | x :: t, 1, v => gm_kill x :: gm_s1 t 0 v
  | x :: t, k + 2, v => x :: gm_s1 t (k + 1) v
def gm_tn : gm_L → gm_L
  | [] => []
  | _ :: t => none :: t
def gm_s2 : gm_L → Nat → Value → gm_L
  | [], _, _ => []
  | _ :: t, 0, v => some v :: gm_tn t
  | x :: t, 1, v => gm_kill x :: gm_s2 t 0 v
  | x :: t, k + 2, v => x :: gm_s2 t (k + 1) v
def gm_sl : List Value → gm_L
  | [] => []
  | v :: t => if v.category = 2 then some v :: none :: gm_sl t else some v :: gm_sl t
def gm_ent (n : Nat) (vs : List Value) : gm_L := gm_sl vs ++ List.replicate (n - (gm_sl vs).length) none
/-- places of the locals that aren't wanted any more -/
def gm_dr (ls : gm_L) : List Nat → gm_L
  | [] => ls
  | k :: ks => gm_dr (ls.set k none) ks
def ushr (x y : Int32) : Int32 := (x.toUInt32 >>> (y.toUInt32 &&& Int32.toUInt32 31)).toInt32
def i2ch (x : Int32) : Int32 := (x.toUInt32 % 65536).toInt32
def lshl (x : Int64) (y : Int32) : Int64 := x <<< (y.toInt64 &&& 63)
def lshr (x : Int64) (y : Int32) : Int64 := x >>> (y.toInt64 &&& 63)
def lushr (x : Int64) (y : Int32) : Int64 := (x.toUInt64 >>> (y.toInt64.toUInt64 &&& Int64.toUInt64 63)).toInt64
def gm_bin : Instr → Option (Int32 → Int32 → Int32)
  | .iadd => some (fun x y => x + y)
  | .isub => some (fun x y => x - y)
  | .imul => some (fun x y => x * y)
  | .iand => some (fun x y => x &&& y)
  | .ior => some (fun x y => x ||| y)
  | .ixor => some (fun x y => x ^^^ y)
  | .ishl => some (fun x y => x <<< (y &&& 31))
  | .iushr => some ushr
  | _ => none
def gm_un : Instr → Option (Int32 → Int32)
  | .ineg => some (fun x => -x)
  | .i2c => some i2ch
  | _ => none
def gm_binl : Instr → Option (Int64 → Int64 → Int64)
  | .ladd => some (fun x y => x + y)
  | .lsub => some (fun x y => x - y)
  | .lmul => some (fun x y => x * y)
  | .land => some (fun x y => x &&& y)
  | .lor => some (fun x y => x ||| y)
  | _ => none
def gm_shl : Instr → Option (Int64 → Int32 → Int64)
  | .lshl => some lshl
  | .lshr => some lshr
  | .lushr => some lushr
  | _ => none
def gm_cnd : ClassFile.Cond → Int32 → Int32 → Prop
  | .eq, x, y => x = y
  | .ne, x, y => ¬ x = y
  | .lt, x, y => x < y
  | .ge, x, y => y ≤ x
  | .gt, x, y => y < x
  | .le, x, y => x ≤ y
def gm_ak : ArrayType → Option Nat
  | .int => some 1
  | .long => some 2
  | .boolean => some 3
  | _ => none
def gm_tys : List (Nat → FieldType) := [tyX0, tyX1, tyX2, tyX3, tyX4, tyX5, tyX6, tyX7]
def gm_ty (ci k : Nat) : FieldType := (gm_tys.getD ci tyX0) k
def gm_ftt : FieldType → Nat
  | .int => 0
  | .boolean => 0
  | .long => 1
  | _ => 2
def gm_ft (ci k : Nat) : Nat := gm_ftt (gm_ty ci k)
def gm_fin (ci k : Nat) : Bool := match gm_cl[ci]? with
  | some c => (c.2.1 k).2.2.2
  | none => false
def gm_ov : Option Nat → Value
  | some k => .ref k
  | none => .null
def gm_fv (h : gm_H) (r ci k : Nat) : Value := match gm_ft ci k with
  | 0 => .int (h.2.1 r k)
  | 1 => .long (h.2.2.1 r k)
  | _ => gm_ov (h.2.2.2 r k)

def rl_psh (L : Nat) (xs : Nat → Int32) (X : gm_X) : Prop := ∀ {m pc nx lk a b : Nat} {z : Int} {ls : gm_L} {st : List Value} {h : gm_H} {nc ns : Nat} {Q : Value → gm_H → Prop} {ins : Instr} {v : Value}, (gm_fetch m pc = some (nx, ins, lk, a, b, z)) → (gm_psh ins z = some v) → (X m nx ls (v :: st) h nc ns Q) → X m pc ls st h nc ns Q
def rl_ld (L : Nat) (xs : Nat → Int32) (X : gm_X) : Prop := ∀ {m pc nx lk a b : Nat} {z : Int} {ls : gm_L} {st : List Value} {h : gm_H} {nc ns : Nat} {Q : Value → gm_H → Prop} {ins : Instr} {v : Value} {k : Nat}, (gm_fetch m pc = some (nx, ins, lk, a, b, z)) → (gm_ldi ins = some (gm_kd v, k)) → (ls[k]? = some (some v)) → (X m nx ls (v :: st) h nc ns Q) → X m pc ls st h nc ns Q
def rl_st1 (L : Nat) (xs : Nat → Int32) (X : gm_X) : Prop := ∀ {m pc nx lk a b : Nat} {z : Int} {ls : gm_L} {st : List Value} {h : gm_H} {nc ns : Nat} {Q : Value → gm_H → Prop} {ins : Instr} {v : Value} {k : Nat}, (gm_fetch m pc = some (nx, ins, lk, a, b, z)) → (gm_sti ins = some (gm_kd v, k)) → (¬ gm_kd v = 1) → (k < ls.length) → (X m nx (gm_s1 ls k v) st h nc ns Q) → X m pc ls (v :: st) h nc ns Q
def rl_st2 (L : Nat) (xs : Nat → Int32) (X : gm_X) : Prop := ∀ {m pc nx lk a b : Nat} {z : Int} {ls : gm_L} {st : List Value} {h : gm_H} {nc ns : Nat} {Q : Value → gm_H → Prop} {ins : Instr} {x : Int64} {k : Nat}, (gm_fetch m pc = some (nx, ins, lk, a, b, z)) → (gm_sti ins = some (1, k)) → (k + 1 < ls.length) → (X m nx (gm_s2 ls k (.long x)) st h nc ns Q) → X m pc ls (.long x :: st) h nc ns Q
def rl_inc (L : Nat) (xs : Nat → Int32) (X : gm_X) : Prop := ∀ {m pc nx lk a b : Nat} {z : Int} {ls : gm_L} {st : List Value} {h : gm_H} {nc ns : Nat} {Q : Value → gm_H → Prop} {k : Nat} {n : Int} {x : Int32}, (gm_fetch m pc = some (nx, .iinc k n, lk, a, b, z)) → (ls[k]? = some (some (.int x))) → (X m nx (gm_s1 ls k (.int (x + Int32.ofInt n))) st h nc ns Q) → X m pc ls st h nc ns Q
def rl_bin (L : Nat) (xs : Nat → Int32) (X : gm_X) : Prop := ∀ {m pc nx lk a b : Nat} {z : Int} {ls : gm_L} {st : List Value} {h : gm_H} {nc ns : Nat} {Q : Value → gm_H → Prop} {ins : Instr} {f : Int32 → Int32 → Int32} {x y : Int32}, (gm_fetch m pc = some (nx, ins, lk, a, b, z)) → (gm_bin ins = some f) → (X m nx ls (.int (f x y) :: st) h nc ns Q) → X m pc ls (.int y :: .int x :: st) h nc ns Q
def rl_div (L : Nat) (xs : Nat → Int32) (X : gm_X) : Prop := ∀ {m pc nx lk a b : Nat} {z : Int} {ls : gm_L} {st : List Value} {h : gm_H} {nc ns : Nat} {Q : Value → gm_H → Prop} {x y : Int32}, (gm_fetch m pc = some (nx, .idiv, lk, a, b, z)) → (¬ y = 0) → (X m nx ls (.int (x / y) :: st) h nc ns Q) → X m pc ls (.int y :: .int x :: st) h nc ns Q
def rl_rem (L : Nat) (xs : Nat → Int32) (X : gm_X) : Prop := ∀ {m pc nx lk a b : Nat} {z : Int} {ls : gm_L} {st : List Value} {h : gm_H} {nc ns : Nat} {Q : Value → gm_H → Prop} {x y : Int32}, (gm_fetch m pc = some (nx, .irem, lk, a, b, z)) → (¬ y = 0) → (X m nx ls (.int (x - x / y * y) :: st) h nc ns Q) → X m pc ls (.int y :: .int x :: st) h nc ns Q
def rl_un (L : Nat) (xs : Nat → Int32) (X : gm_X) : Prop := ∀ {m pc nx lk a b : Nat} {z : Int} {ls : gm_L} {st : List Value} {h : gm_H} {nc ns : Nat} {Q : Value → gm_H → Prop} {ins : Instr} {f : Int32 → Int32} {x : Int32}, (gm_fetch m pc = some (nx, ins, lk, a, b, z)) → (gm_un ins = some f) → (X m nx ls (.int (f x) :: st) h nc ns Q) → X m pc ls (.int x :: st) h nc ns Q
def rl_binl (L : Nat) (xs : Nat → Int32) (X : gm_X) : Prop := ∀ {m pc nx lk a b : Nat} {z : Int} {ls : gm_L} {st : List Value} {h : gm_H} {nc ns : Nat} {Q : Value → gm_H → Prop} {ins : Instr} {f : Int64 → Int64 → Int64} {x y : Int64}, (gm_fetch m pc = some (nx, ins, lk, a, b, z)) → (gm_binl ins = some f) → (X m nx ls (.long (f x y) :: st) h nc ns Q) → X m pc ls (.long y :: .long x :: st) h nc ns Q
def rl_shl (L : Nat) (xs : Nat → Int32) (X : gm_X) : Prop := ∀ {m pc nx lk a b : Nat} {z : Int} {ls : gm_L} {st : List Value} {h : gm_H} {nc ns : Nat} {Q : Value → gm_H → Prop} {ins : Instr} {f : Int64 → Int32 → Int64} {x : Int64} {y : Int32}, (gm_fetch m pc = some (nx, ins, lk, a, b, z)) → (gm_shl ins = some f) → (X m nx ls (.long (f x y) :: st) h nc ns Q) → X m pc ls (.int y :: .long x :: st) h nc ns Q
def rl_lcmp (L : Nat) (xs : Nat → Int32) (X : gm_X) : Prop := ∀ {m pc nx lk a b : Nat} {z : Int} {ls : gm_L} {st : List Value} {h : gm_H} {nc ns : Nat} {Q : Value → gm_H → Prop} {x y : Int64}, (gm_fetch m pc = some (nx, .lcmp, lk, a, b, z)) → (X m nx ls (.int (lg_cmp x y) :: st) h nc ns Q) → X m pc ls (.long y :: .long x :: st) h nc ns Q
def rl_i2l (L : Nat) (xs : Nat → Int32) (X : gm_X) : Prop := ∀ {m pc nx lk a b : Nat} {z : Int} {ls : gm_L} {st : List Value} {h : gm_H} {nc ns : Nat} {Q : Value → gm_H → Prop} {x : Int32}, (gm_fetch m pc = some (nx, .i2l, lk, a, b, z)) → (X m nx ls (.long x.toInt64 :: st) h nc ns Q) → X m pc ls (.int x :: st) h nc ns Q
def rl_l2i (L : Nat) (xs : Nat → Int32) (X : gm_X) : Prop := ∀ {m pc nx lk a b : Nat} {z : Int} {ls : gm_L} {st : List Value} {h : gm_H} {nc ns : Nat} {Q : Value → gm_H → Prop} {x : Int64}, (gm_fetch m pc = some (nx, .l2i, lk, a, b, z)) → (X m nx ls (.int x.toInt32 :: st) h nc ns Q) → X m pc ls (.long x :: st) h nc ns Q
def rl_dup (L : Nat) (xs : Nat → Int32) (X : gm_X) : Prop := ∀ {m pc nx lk a b : Nat} {z : Int} {ls : gm_L} {st : List Value} {h : gm_H} {nc ns : Nat} {Q : Value → gm_H → Prop} {v : Value}, (gm_fetch m pc = some (nx, .dup, lk, a, b, z)) → (v.category = 1) → (X m nx ls (v :: v :: st) h nc ns Q) → X m pc ls (v :: st) h nc ns Q
def rl_pop (L : Nat) (xs : Nat → Int32) (X : gm_X) : Prop := ∀ {m pc nx lk a b : Nat} {z : Int} {ls : gm_L} {st : List Value} {h : gm_H} {nc ns : Nat} {Q : Value → gm_H → Prop} {v : Value}, (gm_fetch m pc = some (nx, .pop, lk, a, b, z)) → (v.category = 1) → (X m nx ls st h nc ns Q) → X m pc ls (v :: st) h nc ns Q
def rl_dup2 (L : Nat) (xs : Nat → Int32) (X : gm_X) : Prop := ∀ {m pc nx lk a b : Nat} {z : Int} {ls : gm_L} {st : List Value} {h : gm_H} {nc ns : Nat} {Q : Value → gm_H → Prop} {v w : Value}, (gm_fetch m pc = some (nx, .dup2, lk, a, b, z)) → (v.category = 1) → (w.category = 1) → (X m nx ls (v :: w :: v :: w :: st) h nc ns Q) → X m pc ls (v :: w :: st) h nc ns Q
def rl_if (L : Nat) (xs : Nat → Int32) (X : gm_X) : Prop := ∀ {m pc nx lk a b : Nat} {z : Int} {ls : gm_L} {st : List Value} {h : gm_H} {nc ns : Nat} {Q : Value → gm_H → Prop} {c : ClassFile.Cond} {off : Int} {x : Int32}, (gm_fetch m pc = some (nx, .ifCond c off, lk, a, b, z)) → (gm_cnd c x 0 → X m a ls st h nc ns Q) → (¬ gm_cnd c x 0 → X m nx ls st h nc ns Q) → X m pc ls (.int x :: st) h nc ns Q
def rl_icmp (L : Nat) (xs : Nat → Int32) (X : gm_X) : Prop := ∀ {m pc nx lk a b : Nat} {z : Int} {ls : gm_L} {st : List Value} {h : gm_H} {nc ns : Nat} {Q : Value → gm_H → Prop} {c : ClassFile.Cond} {off : Int} {x y : Int32}, (gm_fetch m pc = some (nx, .if_icmp c off, lk, a, b, z)) → (gm_cnd c x y → X m a ls st h nc ns Q) → (¬ gm_cnd c x y → X m nx ls st h nc ns Q) → X m pc ls (.int y :: .int x :: st) h nc ns Q
def rl_goto (L : Nat) (xs : Nat → Int32) (X : gm_X) : Prop := ∀ {m pc nx lk a b : Nat} {z : Int} {ls : gm_L} {st : List Value} {h : gm_H} {nc ns : Nat} {Q : Value → gm_H → Prop} {off : Int}, (gm_fetch m pc = some (nx, .goto off, lk, a, b, z)) → (X m a ls st h nc ns Q) → X m pc ls st h nc ns Q
def rl_ifnull (L : Nat) (xs : Nat → Int32) (X : gm_X) : Prop := ∀ {m pc nx lk a b : Nat} {z : Int} {ls : gm_L} {st : List Value} {h : gm_H} {nc ns : Nat} {Q : Value → gm_H → Prop} {off : Int} {r : Nat}, (gm_fetch m pc = some (nx, .ifnull off, lk, a, b, z)) → (X m nx ls st h nc ns Q) → X m pc ls (.ref r :: st) h nc ns Q
def rl_ifnullN (L : Nat) (xs : Nat → Int32) (X : gm_X) : Prop := ∀ {m pc nx lk a b : Nat} {z : Int} {ls : gm_L} {st : List Value} {h : gm_H} {nc ns : Nat} {Q : Value → gm_H → Prop} {off : Int}, (gm_fetch m pc = some (nx, .ifnull off, lk, a, b, z)) → (X m a ls st h nc ns Q) → X m pc ls (.null :: st) h nc ns Q
def rl_ifnn (L : Nat) (xs : Nat → Int32) (X : gm_X) : Prop := ∀ {m pc nx lk a b : Nat} {z : Int} {ls : gm_L} {st : List Value} {h : gm_H} {nc ns : Nat} {Q : Value → gm_H → Prop} {off : Int} {r : Nat}, (gm_fetch m pc = some (nx, .ifnonnull off, lk, a, b, z)) → (X m a ls st h nc ns Q) → X m pc ls (.ref r :: st) h nc ns Q
def rl_ifnnN (L : Nat) (xs : Nat → Int32) (X : gm_X) : Prop := ∀ {m pc nx lk a b : Nat} {z : Int} {ls : gm_L} {st : List Value} {h : gm_H} {nc ns : Nat} {Q : Value → gm_H → Prop} {off : Int}, (gm_fetch m pc = some (nx, .ifnonnull off, lk, a, b, z)) → (X m nx ls st h nc ns Q) → X m pc ls (.null :: st) h nc ns Q
def rl_tabO (L : Nat) (xs : Nat → Int32) (X : gm_X) : Prop := ∀ {m pc nx lk a b : Nat} {z : Int} {ls : gm_L} {st : List Value} {h : gm_H} {nc ns : Nat} {Q : Value → gm_H → Prop} {d lo hi : Int} {offs : Array Int} {x : Int32} {t : Nat}, (gm_fetch m pc = some (nx, .tableswitch d lo hi offs, lk, a, b, z)) → (x.toInt < lo ∨ hi < x.toInt) → ((pc : Int) + d = (t : Int)) → (X m t ls st h nc ns Q) → X m pc ls (.int x :: st) h nc ns Q
def rl_tabI (L : Nat) (xs : Nat → Int32) (X : gm_X) : Prop := ∀ {m pc nx lk a b : Nat} {z : Int} {ls : gm_L} {st : List Value} {h : gm_H} {nc ns : Nat} {Q : Value → gm_H → Prop} {d lo hi off : Int} {offs : Array Int} {x : Int32} {t : Nat}, (gm_fetch m pc = some (nx, .tableswitch d lo hi offs, lk, a, b, z)) → (¬ x.toInt < lo) → (¬ hi < x.toInt) → (offs[(x.toInt - lo).toNat]? = some off) → ((pc : Int) + off = (t : Int)) → (X m t ls st h nc ns Q) → X m pc ls (.int x :: st) h nc ns Q
def rl_get (L : Nat) (xs : Nat → Int32) (X : gm_X) : Prop := ∀ {m pc nx lk a b : Nat} {z : Int} {ls : gm_L} {st : List Value} {h : gm_H} {nc ns : Nat} {Q : Value → gm_H → Prop} {idx r : Nat}, (gm_fetch m pc = some (nx, .getfield idx, lk, a, b, z)) → (h.1[r]? = some (0, a)) → (X m nx ls (gm_fv h r a b :: st) h nc ns Q) → X m pc ls (.ref r :: st) h nc ns Q
def rl_puti (L : Nat) (xs : Nat → Int32) (X : gm_X) : Prop := ∀ {m pc nx lk a b : Nat} {z : Int} {ls : gm_L} {st : List Value} {h : gm_H} {nc ns : Nat} {Q : Value → gm_H → Prop} {idx r : Nat} {x : Int32}, (gm_fetch m pc = some (nx, .putfield idx, lk, a, b, z)) → (h.1[r]? = some (0, a)) → (gm_ft a b = 0) → (gm_fin a b = false) → (gm_ty a b = .boolean → x = 0 ∨ x = 1) → (X m nx ls st (h.1, va_up h.2.1 r (va_up (h.2.1 r) b x), h.2.2.1, h.2.2.2) nc ns Q) → X m pc ls (.int x :: .ref r :: st) h nc ns Q
def rl_putl (L : Nat) (xs : Nat → Int32) (X : gm_X) : Prop := ∀ {m pc nx lk a b : Nat} {z : Int} {ls : gm_L} {st : List Value} {h : gm_H} {nc ns : Nat} {Q : Value → gm_H → Prop} {idx r : Nat} {x : Int64}, (gm_fetch m pc = some (nx, .putfield idx, lk, a, b, z)) → (h.1[r]? = some (0, a)) → (gm_ft a b = 1) → (gm_fin a b = false) → (X m nx ls st (h.1, h.2.1, va_up h.2.2.1 r (va_up (h.2.2.1 r) b x), h.2.2.2) nc ns Q) → X m pc ls (.long x :: .ref r :: st) h nc ns Q
def rl_putr (L : Nat) (xs : Nat → Int32) (X : gm_X) : Prop := ∀ {m pc nx lk a b : Nat} {z : Int} {ls : gm_L} {st : List Value} {h : gm_H} {nc ns : Nat} {Q : Value → gm_H → Prop} {q : gm_M} {idx r w : Nat}, (gm_fetch m pc = some (nx, .putfield idx, lk, a, b, z)) → (h.1[r]? = some (0, a)) → (gm_ft a b = 2) → (gm_fin a b = true) → (gm_PT[m]? = some q) → (q.1.name = "<init>") → (q.2.2.2.2.1 = a) → (X m nx ls st (h.1, h.2.1, h.2.2.1, va_up h.2.2.2 r (va_up (h.2.2.2 r) b (some w))) nc ns Q) → X m pc ls (.ref w :: .ref r :: st) h nc ns Q
def rl_iald (L : Nat) (xs : Nat → Int32) (X : gm_X) : Prop := ∀ {m pc nx lk a b : Nat} {z : Int} {ls : gm_L} {st : List Value} {h : gm_H} {nc ns : Nat} {Q : Value → gm_H → Prop} {r n : Nat} {i : Int32}, (gm_fetch m pc = some (nx, .iaload, lk, a, b, z)) → (h.1[r]? = some (1, n)) → (vp_in i n) → (X m nx ls (.int (h.2.1 r i.toNatClampNeg) :: st) h nc ns Q) → X m pc ls (.int i :: .ref r :: st) h nc ns Q
def rl_lald (L : Nat) (xs : Nat → Int32) (X : gm_X) : Prop := ∀ {m pc nx lk a b : Nat} {z : Int} {ls : gm_L} {st : List Value} {h : gm_H} {nc ns : Nat} {Q : Value → gm_H → Prop} {r n : Nat} {i : Int32}, (gm_fetch m pc = some (nx, .laload, lk, a, b, z)) → (h.1[r]? = some (2, n)) → (vp_in i n) → (X m nx ls (.long (h.2.2.1 r i.toNatClampNeg) :: st) h nc ns Q) → X m pc ls (.int i :: .ref r :: st) h nc ns Q
def rl_zald (L : Nat) (xs : Nat → Int32) (X : gm_X) : Prop := ∀ {m pc nx lk a b : Nat} {z : Int} {ls : gm_L} {st : List Value} {h : gm_H} {nc ns : Nat} {Q : Value → gm_H → Prop} {r n : Nat} {i : Int32}, (gm_fetch m pc = some (nx, .baload, lk, a, b, z)) → (h.1[r]? = some (3, n)) → (vp_in i n) → (X m nx ls (.int (h.2.1 r i.toNatClampNeg) :: st) h nc ns Q) → X m pc ls (.int i :: .ref r :: st) h nc ns Q
def rl_aald (L : Nat) (xs : Nat → Int32) (X : gm_X) : Prop := ∀ {m pc nx lk a b : Nat} {z : Int} {ls : gm_L} {st : List Value} {h : gm_H} {nc ns : Nat} {Q : Value → gm_H → Prop} {r n j : Nat} {i : Int32}, (gm_fetch m pc = some (nx, .aaload, lk, a, b, z)) → (h.1[r]? = some (j + 4, n)) → (vp_in i n) → (j = 2 ∨ j = 5) → (X m nx ls (gm_ov (h.2.2.2 r i.toNatClampNeg) :: st) h nc ns Q) → X m pc ls (.int i :: .ref r :: st) h nc ns Q
def rl_iast (L : Nat) (xs : Nat → Int32) (X : gm_X) : Prop := ∀ {m pc nx lk a b : Nat} {z : Int} {ls : gm_L} {st : List Value} {h : gm_H} {nc ns : Nat} {Q : Value → gm_H → Prop} {r n : Nat} {i x : Int32}, (gm_fetch m pc = some (nx, .iastore, lk, a, b, z)) → (h.1[r]? = some (1, n)) → (vp_in i n) → (X m nx ls st (h.1, va_up h.2.1 r (va_up (h.2.1 r) i.toNatClampNeg x), h.2.2.1, h.2.2.2) nc ns Q) → X m pc ls (.int x :: .int i :: .ref r :: st) h nc ns Q
def rl_last (L : Nat) (xs : Nat → Int32) (X : gm_X) : Prop := ∀ {m pc nx lk a b : Nat} {z : Int} {ls : gm_L} {st : List Value} {h : gm_H} {nc ns : Nat} {Q : Value → gm_H → Prop} {r n : Nat} {i : Int32} {x : Int64}, (gm_fetch m pc = some (nx, .lastore, lk, a, b, z)) → (h.1[r]? = some (2, n)) → (vp_in i n) → (X m nx ls st (h.1, h.2.1, va_up h.2.2.1 r (va_up (h.2.2.1 r) i.toNatClampNeg x), h.2.2.2) nc ns Q) → X m pc ls (.long x :: .int i :: .ref r :: st) h nc ns Q
def rl_zast (L : Nat) (xs : Nat → Int32) (X : gm_X) : Prop := ∀ {m pc nx lk a b : Nat} {z : Int} {ls : gm_L} {st : List Value} {h : gm_H} {nc ns : Nat} {Q : Value → gm_H → Prop} {r n : Nat} {i x : Int32}, (gm_fetch m pc = some (nx, .bastore, lk, a, b, z)) → (h.1[r]? = some (3, n)) → (vp_in i n) → (x = 0 ∨ x = 1) → (X m nx ls st (h.1, va_up h.2.1 r (va_up (h.2.1 r) i.toNatClampNeg x), h.2.2.1, h.2.2.2) nc ns Q) → X m pc ls (.int x :: .int i :: .ref r :: st) h nc ns Q
def rl_aast (L : Nat) (xs : Nat → Int32) (X : gm_X) : Prop := ∀ {m pc nx lk a b : Nat} {z : Int} {ls : gm_L} {st : List Value} {h : gm_H} {nc ns : Nat} {Q : Value → gm_H → Prop} {r n j w : Nat} {i : Int32}, (gm_fetch m pc = some (nx, .aastore, lk, a, b, z)) → (h.1[r]? = some (j + 4, n)) → (vp_in i n) → (h.1[w]? = some (0, j)) → (j = 2 ∨ j = 5) → (X m nx ls st (h.1, h.2.1, h.2.2.1, va_up h.2.2.2 r (va_up (h.2.2.2 r) i.toNatClampNeg (some w))) nc ns Q) → X m pc ls (.ref w :: .int i :: .ref r :: st) h nc ns Q
def rl_alen (L : Nat) (xs : Nat → Int32) (X : gm_X) : Prop := ∀ {m pc nx lk a b : Nat} {z : Int} {ls : gm_L} {st : List Value} {h : gm_H} {nc ns : Nat} {Q : Value → gm_H → Prop} {r n : Nat}, (gm_fetch m pc = some (nx, .arraylength, lk, a, b, z)) → (h.1[r]? = some (1, n)) → (X m nx ls (.int (Int32.ofNat n) :: st) h nc ns Q) → X m pc ls (.ref r :: st) h nc ns Q
def rl_sld (L : Nat) (xs : Nat → Int32) (X : gm_X) : Prop := ∀ {m pc nx lk a b : Nat} {z : Int} {ls : gm_L} {st : List Value} {h : gm_H} {nc ns : Nat} {Q : Value → gm_H → Prop} {t : Nat} {i : Int32}, (gm_fetch m pc = some (nx, .iaload, lk, a, b, z)) → (vp_in i L) → (X m nx ls (.int (xs i.toNatClampNeg) :: st) h nc ns Q) → X m pc ls (.int i :: .retAddr t :: st) h nc ns Q
def rl_slen (L : Nat) (xs : Nat → Int32) (X : gm_X) : Prop := ∀ {m pc nx lk a b : Nat} {z : Int} {ls : gm_L} {st : List Value} {h : gm_H} {nc ns : Nat} {Q : Value → gm_H → Prop} {t : Nat}, (gm_fetch m pc = some (nx, .arraylength, lk, a, b, z)) → (X m nx ls (.int (Int32.ofNat L) :: st) h nc ns Q) → X m pc ls (.retAddr t :: st) h nc ns Q
def rl_new (L : Nat) (xs : Nat → Int32) (X : gm_X) : Prop := ∀ {m pc nx lk a b : Nat} {z : Int} {ls : gm_L} {st : List Value} {h : gm_H} {nc ns : Nat} {Q : Value → gm_H → Prop} {q : gm_M} {idx : Nat} {cw : vw_C}, (gm_fetch m pc = some (nx, .new idx, lk, a, b, z)) → (gm_PT[m]? = some q) → (gm_cl[a]? = some cw) → (nc + 1 ≤ q.2.2.2.2.2.2.2.2.1) → (ns + cw.2.2 ≤ q.2.2.2.2.2.2.2.2.2.1) → (X m nx ls (.ref h.1.length :: st) (h.1 ++ [(0, a)], va_up h.2.1 h.1.length (fun _ => 0), va_up h.2.2.1 h.1.length (fun _ => 0), va_up h.2.2.2 h.1.length (fun _ => none)) (nc + 1) (ns + cw.2.2) Q) → X m pc ls st h nc ns Q
def rl_newa (L : Nat) (xs : Nat → Int32) (X : gm_X) : Prop := ∀ {m pc nx lk a b : Nat} {z : Int} {ls : gm_L} {st : List Value} {h : gm_H} {nc ns : Nat} {Q : Value → gm_H → Prop} {q : gm_M} {t : ArrayType} {n : Int32} {N kd : Nat}, (gm_fetch m pc = some (nx, .newarray t, lk, a, b, z)) → (gm_PT[m]? = some q) → (gm_ak t = some kd) → (¬ n < 0) → (n.toNatClampNeg = N) → (N ≤ 100000) → (nc + 1 ≤ q.2.2.2.2.2.2.2.2.1) → (ns + N ≤ q.2.2.2.2.2.2.2.2.2.1) → (X m nx ls (.ref h.1.length :: st) (h.1 ++ [(kd, N)], va_up h.2.1 h.1.length (fun _ => 0), va_up h.2.2.1 h.1.length (fun _ => 0), va_up h.2.2.2 h.1.length (fun _ => none)) (nc + 1) (ns + N) Q) → X m pc ls (.int n :: st) h nc ns Q
def rl_anew (L : Nat) (xs : Nat → Int32) (X : gm_X) : Prop := ∀ {m pc nx lk a b : Nat} {z : Int} {ls : gm_L} {st : List Value} {h : gm_H} {nc ns : Nat} {Q : Value → gm_H → Prop} {q : gm_M} {idx : Nat} {n : Int32} {N : Nat}, (gm_fetch m pc = some (nx, .anewarray idx, lk, a, b, z)) → (gm_PT[m]? = some q) → (¬ n < 0) → (n.toNatClampNeg = N) → (N ≤ 100000) → (nc + 1 ≤ q.2.2.2.2.2.2.2.2.1) → (ns + N ≤ q.2.2.2.2.2.2.2.2.2.1) → (X m nx ls (.ref h.1.length :: st) (h.1 ++ [(a + 4, N)], va_up h.2.1 h.1.length (fun _ => 0), va_up h.2.2.1 h.1.length (fun _ => 0), va_up h.2.2.2 h.1.length (fun _ => none)) (nc + 1) (ns + N) Q) → X m pc ls (.int n :: st) h nc ns Q
def rl_cV (L : Nat) (xs : Nat → Int32) (X : gm_X) : Prop := ∀ {m pc nx lk a b : Nat} {z : Int} {ls : gm_L} {st : List Value} {h : gm_H} {nc ns : Nat} {Q : Value → gm_H → Prop} {q q2 : gm_M} {idx r : Nat} {vs rest : List Value} {R : Value → gm_H → Prop}, (gm_fetch m pc = some (nx, .invokevirtual idx, lk, a, b, z)) → (st = vs.reverse ++ .ref r :: rest) → (h.1[r]? = some (0, q2.2.2.2.2.1)) → (gm_PT[a]? = some q2) → (gm_PT[m]? = some q) → (vs.length = q2.2.2.2.2.2.1) → ((gm_sl (.ref r :: vs)).length ≤ q2.2.2.1) → ((rest.map fun v => v.category).sum ≤ 8) → (nc + q2.2.2.2.2.2.2.2.2.1 ≤ q.2.2.2.2.2.2.2.2.1) → (ns + q2.2.2.2.2.2.2.2.2.2.1 ≤ q.2.2.2.2.2.2.2.2.2.1) → (X a 0 (gm_ent q2.2.2.1 (.ref r :: vs)) [] h 0 0 R) → (∀ (v : Value) (h2 : gm_H), R v h2 → X m nx ls ((q2.2.2.2.1.map fun _ => v).toList ++ rest) h2 (nc + q2.2.2.2.2.2.2.2.2.1) (ns + q2.2.2.2.2.2.2.2.2.2.1) Q) → X m pc ls st h nc ns Q
def rl_cS (L : Nat) (xs : Nat → Int32) (X : gm_X) : Prop := ∀ {m pc nx lk a b : Nat} {z : Int} {ls : gm_L} {st : List Value} {h : gm_H} {nc ns : Nat} {Q : Value → gm_H → Prop} {q q2 : gm_M} {idx : Nat} {vs rest : List Value} {R : Value → gm_H → Prop}, (gm_fetch m pc = some (nx, .invokestatic idx, lk, a, b, z)) → (¬ b = 2 ∧ ¬ (b = 4 ∨ b = 5)) → (st = vs.reverse ++ rest) → (gm_PT[a]? = some q2) → (gm_PT[m]? = some q) → (vs.length = q2.2.2.2.2.2.1) → ((gm_sl vs).length ≤ q2.2.2.1) → ((rest.map fun v => v.category).sum ≤ 8) → (nc + q2.2.2.2.2.2.2.2.2.1 ≤ q.2.2.2.2.2.2.2.2.1) → (ns + q2.2.2.2.2.2.2.2.2.2.1 ≤ q.2.2.2.2.2.2.2.2.2.1) → (X a 0 (gm_ent q2.2.2.1 vs) [] h 0 0 R) → (∀ (v : Value) (h2 : gm_H), R v h2 → X m nx ls ((q2.2.2.2.1.map fun _ => v).toList ++ rest) h2 (nc + q2.2.2.2.2.2.2.2.2.1) (ns + q2.2.2.2.2.2.2.2.2.2.1) Q) → X m pc ls st h nc ns Q
def rl_cI (L : Nat) (xs : Nat → Int32) (X : gm_X) : Prop := ∀ {m pc nx lk a b : Nat} {z : Int} {ls : gm_L} {st : List Value} {h : gm_H} {nc ns : Nat} {Q : Value → gm_H → Prop} {q q2 : gm_M} {idx r : Nat} {vs rest : List Value} {R : Value → gm_H → Prop}, (gm_fetch m pc = some (nx, .invokespecial idx, lk, a, b, z)) → (¬ b = 3) → (st = vs.reverse ++ .ref r :: rest) → (gm_PT[a]? = some q2) → (gm_PT[m]? = some q) → (vs.length = q2.2.2.2.2.2.1) → ((gm_sl (.ref r :: vs)).length ≤ q2.2.2.1) → ((rest.map fun v => v.category).sum ≤ 8) → (nc + q2.2.2.2.2.2.2.2.2.1 ≤ q.2.2.2.2.2.2.2.2.1) → (ns + q2.2.2.2.2.2.2.2.2.2.1 ≤ q.2.2.2.2.2.2.2.2.2.1) → (X a 0 (gm_ent q2.2.2.1 (.ref r :: vs)) [] h 0 0 R) → (∀ (v : Value) (h2 : gm_H), R v h2 → X m nx ls ((q2.2.2.2.1.map fun _ => v).toList ++ rest) h2 (nc + q2.2.2.2.2.2.2.2.2.1) (ns + q2.2.2.2.2.2.2.2.2.2.1) Q) → X m pc ls st h nc ns Q
def rl_obj (L : Nat) (xs : Nat → Int32) (X : gm_X) : Prop := ∀ {m pc nx lk a b : Nat} {z : Int} {ls : gm_L} {st : List Value} {h : gm_H} {nc ns : Nat} {Q : Value → gm_H → Prop} {idx r : Nat}, (gm_fetch m pc = some (nx, .invokespecial idx, lk, a, b, z)) → (b = 3) → ((st.map fun v => v.category).sum ≤ 8) → (X m nx ls st h nc ns Q) → X m pc ls (.ref r :: st) h nc ns Q
def rl_cpi (L : Nat) (xs : Nat → Int32) (X : gm_X) : Prop := ∀ {m pc nx lk a b : Nat} {z : Int} {ls : gm_L} {st : List Value} {h : gm_H} {nc ns : Nat} {Q : Value → gm_H → Prop} {idx r w n1 n2 : Nat} {sp dp n : Int32}, (gm_fetch m pc = some (nx, .invokestatic idx, lk, a, b, z)) → (b = 2) → (h.1[r]? = some (1, n1)) → (h.1[w]? = some (1, n2)) → (¬ sp < 0) → (¬ dp < 0) → (¬ n < 0) → (sp.toNatClampNeg + n.toNatClampNeg ≤ n1) → (dp.toNatClampNeg + n.toNatClampNeg ≤ n2) → ((st.map fun v => v.category).sum ≤ 8) → (X m nx ls st (h.1, va_up h.2.1 w (va_cpy (h.2.1 r) (h.2.1 w) sp.toNatClampNeg dp.toNatClampNeg n.toNatClampNeg), h.2.2.1, h.2.2.2) nc ns Q) → X m pc ls (.int n :: .int dp :: .ref w :: .int sp :: .ref r :: st) h nc ns Q
def rl_cpl (L : Nat) (xs : Nat → Int32) (X : gm_X) : Prop := ∀ {m pc nx lk a b : Nat} {z : Int} {ls : gm_L} {st : List Value} {h : gm_H} {nc ns : Nat} {Q : Value → gm_H → Prop} {idx r w n1 n2 : Nat} {sp dp n : Int32}, (gm_fetch m pc = some (nx, .invokestatic idx, lk, a, b, z)) → (b = 2) → (h.1[r]? = some (2, n1)) → (h.1[w]? = some (2, n2)) → (¬ sp < 0) → (¬ dp < 0) → (¬ n < 0) → (sp.toNatClampNeg + n.toNatClampNeg ≤ n1) → (dp.toNatClampNeg + n.toNatClampNeg ≤ n2) → ((st.map fun v => v.category).sum ≤ 8) → (X m nx ls st (h.1, h.2.1, va_up h.2.2.1 w (va_cpy (h.2.2.1 r) (h.2.2.1 w) sp.toNatClampNeg dp.toNatClampNeg n.toNatClampNeg), h.2.2.2) nc ns Q) → X m pc ls (.int n :: .int dp :: .ref w :: .int sp :: .ref r :: st) h nc ns Q
def rl_mmin (L : Nat) (xs : Nat → Int32) (X : gm_X) : Prop := ∀ {m pc nx lk a b : Nat} {z : Int} {ls : gm_L} {st : List Value} {h : gm_H} {nc ns : Nat} {Q : Value → gm_H → Prop} {idx : Nat} {q : gm_M} {x y : Int32}, (gm_fetch m pc = some (nx, .invokestatic idx, lk, a, b, z)) → (b = 4) → (gm_PT[m]? = some q) → ((st.map fun v => v.category).sum ≤ 8) → (nc ≤ q.2.2.2.2.2.2.2.2.1) → (ns ≤ q.2.2.2.2.2.2.2.2.2.1) → (X m nx ls (.int (if y < x then y else x) :: st) h nc ns Q) → X m pc ls (.int y :: .int x :: st) h nc ns Q
def rl_mabs (L : Nat) (xs : Nat → Int32) (X : gm_X) : Prop := ∀ {m pc nx lk a b : Nat} {z : Int} {ls : gm_L} {st : List Value} {h : gm_H} {nc ns : Nat} {Q : Value → gm_H → Prop} {idx : Nat} {q : gm_M} {x : Int32}, (gm_fetch m pc = some (nx, .invokestatic idx, lk, a, b, z)) → (b = 5) → (gm_PT[m]? = some q) → ((st.map fun v => v.category).sum ≤ 8) → (nc ≤ q.2.2.2.2.2.2.2.2.1) → (ns ≤ q.2.2.2.2.2.2.2.2.2.1) → (X m nx ls (.int (if 0 ≤ x then x else 0 - x) :: st) h nc ns Q) → X m pc ls (.int x :: st) h nc ns Q
def rl_drop (L : Nat) (xs : Nat → Int32) (X : gm_X) : Prop := ∀ {m pc : Nat} {ls : gm_L} {st : List Value} {h : gm_H} {nc ns : Nat} {Q : Value → gm_H → Prop} {ks : List Nat}, (X m pc (gm_dr ls ks) st h nc ns Q) → X m pc ls st h nc ns Q
def rl_iret (L : Nat) (xs : Nat → Int32) (X : gm_X) : Prop := ∀ {m pc nx lk a b : Nat} {z : Int} {ls : gm_L} {h : gm_H} {nc ns : Nat} {Q : Value → gm_H → Prop} {q : gm_M} {ty : FieldType} {x : Int32}, (gm_fetch m pc = some (nx, .ireturn, lk, a, b, z)) → (gm_PT[m]? = some q) → (q.2.2.2.1 = some ty) → (narrow ty (.int x) = .int x) → (nc ≤ q.2.2.2.2.2.2.2.2.1) → (ns ≤ q.2.2.2.2.2.2.2.2.2.1) → (Q (.int x) h) → X m pc ls [.int x] h nc ns Q
def rl_lret (L : Nat) (xs : Nat → Int32) (X : gm_X) : Prop := ∀ {m pc nx lk a b : Nat} {z : Int} {ls : gm_L} {h : gm_H} {nc ns : Nat} {Q : Value → gm_H → Prop} {q : gm_M} {x : Int64}, (gm_fetch m pc = some (nx, .lreturn, lk, a, b, z)) → (gm_PT[m]? = some q) → (q.2.2.2.1 = some .long) → (nc ≤ q.2.2.2.2.2.2.2.2.1) → (ns ≤ q.2.2.2.2.2.2.2.2.2.1) → (Q (.long x) h) → X m pc ls [.long x] h nc ns Q
def rl_aret (L : Nat) (xs : Nat → Int32) (X : gm_X) : Prop := ∀ {m pc nx lk a b : Nat} {z : Int} {ls : gm_L} {h : gm_H} {nc ns : Nat} {Q : Value → gm_H → Prop} {q : gm_M} {n : String} {v : Value}, (gm_fetch m pc = some (nx, .areturn, lk, a, b, z)) → (gm_PT[m]? = some q) → (q.2.2.2.1 = some (.object n)) → (v = .null ∨ ∃ r, v = .ref r) → (nc ≤ q.2.2.2.2.2.2.2.2.1) → (ns ≤ q.2.2.2.2.2.2.2.2.2.1) → (Q v h) → X m pc ls [v] h nc ns Q
def rl_ret (L : Nat) (xs : Nat → Int32) (X : gm_X) : Prop := ∀ {m pc nx lk a b : Nat} {z : Int} {ls : gm_L} {h : gm_H} {nc ns : Nat} {Q : Value → gm_H → Prop} {q : gm_M}, (gm_fetch m pc = some (nx, .return_, lk, a, b, z)) → (gm_PT[m]? = some q) → (q.2.2.2.1 = none) → (nc ≤ q.2.2.2.2.2.2.2.2.1) → (ns ≤ q.2.2.2.2.2.2.2.2.2.1) → (Q .null h) → X m pc ls [] h nc ns Q
def gm_Cl (L : Nat) (xs : Nat → Int32) (X : gm_X) : Prop := rl_psh L xs X ∧ rl_ld L xs X ∧ rl_st1 L xs X ∧ rl_st2 L xs X ∧ rl_inc L xs X ∧ rl_bin L xs X ∧ rl_div L xs X ∧ rl_rem L xs X ∧ rl_un L xs X ∧ rl_binl L xs X ∧ rl_shl L xs X ∧ rl_lcmp L xs X ∧ rl_i2l L xs X ∧ rl_l2i L xs X ∧ rl_dup L xs X ∧ rl_pop L xs X ∧ rl_dup2 L xs X ∧ rl_if L xs X ∧ rl_icmp L xs X ∧ rl_goto L xs X ∧ rl_ifnull L xs X ∧ rl_ifnullN L xs X ∧ rl_ifnn L xs X ∧ rl_ifnnN L xs X ∧ rl_tabO L xs X ∧ rl_tabI L xs X ∧ rl_get L xs X ∧ rl_puti L xs X ∧ rl_putl L xs X ∧ rl_putr L xs X ∧ rl_iald L xs X ∧ rl_lald L xs X ∧ rl_zald L xs X ∧ rl_aald L xs X ∧ rl_iast L xs X ∧ rl_last L xs X ∧ rl_zast L xs X ∧ rl_aast L xs X ∧ rl_alen L xs X ∧ rl_sld L xs X ∧ rl_slen L xs X ∧ rl_new L xs X ∧ rl_newa L xs X ∧ rl_anew L xs X ∧ rl_cV L xs X ∧ rl_cS L xs X ∧ rl_cI L xs X ∧ rl_obj L xs X ∧ rl_cpi L xs X ∧ rl_cpl L xs X ∧ rl_mmin L xs X ∧ rl_mabs L xs X ∧ rl_drop L xs X ∧ rl_iret L xs X ∧ rl_lret L xs X ∧ rl_aret L xs X ∧ rl_ret L xs X
/-- the least predicate that the rules close -/
def Go (L : Nat) (xs : Nat → Int32) : gm_X := fun m pc ls st h nc ns Q => ∀ X : gm_X, gm_Cl L xs X → X m pc ls st h nc ns Q
theorem go_psh {L : Nat} {xs : Nat → Int32} : rl_psh L xs (Go L xs) := by
  intro m pc nx lk a b z ls st h nc ns Q ins v p0 p1 g0 X hX
  exact hX.1 p0 p1 (g0 X hX)
theorem go_ld {L : Nat} {xs : Nat → Int32} : rl_ld L xs (Go L xs) := by
  intro m pc nx lk a b z ls st h nc ns Q ins v k p0 p1 p2 g0 X hX
  exact hX.2.1 p0 p1 p2 (g0 X hX)
theorem go_st1 {L : Nat} {xs : Nat → Int32} : rl_st1 L xs (Go L xs) := by
  intro m pc nx lk a b z ls st h nc ns Q ins v k p0 p1 p2 p3 g0 X hX
  exact hX.2.2.1 p0 p1 p2 p3 (g0 X hX)
theorem go_st2 {L : Nat} {xs : Nat → Int32} : rl_st2 L xs (Go L xs) := by
  intro m pc nx lk a b z ls st h nc ns Q ins x k p0 p1 p2 g0 X hX
  exact hX.2.2.2.1 p0 p1 p2 (g0 X hX)
theorem go_inc {L : Nat} {xs : Nat → Int32} : rl_inc L xs (Go L xs) := by
  intro m pc nx lk a b z ls st h nc ns Q k n x p0 p1 g0 X hX
  exact hX.2.2.2.2.1 p0 p1 (g0 X hX)
theorem go_bin {L : Nat} {xs : Nat → Int32} : rl_bin L xs (Go L xs) := by
  intro m pc nx lk a b z ls st h nc ns Q ins f x y p0 p1 g0 X hX
  exact hX.2.2.2.2.2.1 p0 p1 (g0 X hX)
theorem go_div {L : Nat} {xs : Nat → Int32} : rl_div L xs (Go L xs) := by
  intro m pc nx lk a b z ls st h nc ns Q x y p0 p1 g0 X hX
  exact hX.2.2.2.2.2.2.1 p0 p1 (g0 X hX)
theorem go_rem {L : Nat} {xs : Nat → Int32} : rl_rem L xs (Go L xs) := by
  intro m pc nx lk a b z ls st h nc ns Q x y p0 p1 g0 X hX
  exact hX.2.2.2.2.2.2.2.1 p0 p1 (g0 X hX)
theorem go_un {L : Nat} {xs : Nat → Int32} : rl_un L xs (Go L xs) := by
  intro m pc nx lk a b z ls st h nc ns Q ins f x p0 p1 g0 X hX
  exact hX.2.2.2.2.2.2.2.2.1 p0 p1 (g0 X hX)
theorem go_binl {L : Nat} {xs : Nat → Int32} : rl_binl L xs (Go L xs) := by
  intro m pc nx lk a b z ls st h nc ns Q ins f x y p0 p1 g0 X hX
  exact hX.2.2.2.2.2.2.2.2.2.1 p0 p1 (g0 X hX)
theorem go_shl {L : Nat} {xs : Nat → Int32} : rl_shl L xs (Go L xs) := by
  intro m pc nx lk a b z ls st h nc ns Q ins f x y p0 p1 g0 X hX
  exact hX.2.2.2.2.2.2.2.2.2.2.1 p0 p1 (g0 X hX)
theorem go_lcmp {L : Nat} {xs : Nat → Int32} : rl_lcmp L xs (Go L xs) := by
  intro m pc nx lk a b z ls st h nc ns Q x y p0 g0 X hX
  exact hX.2.2.2.2.2.2.2.2.2.2.2.1 p0 (g0 X hX)
theorem go_i2l {L : Nat} {xs : Nat → Int32} : rl_i2l L xs (Go L xs) := by
  intro m pc nx lk a b z ls st h nc ns Q x p0 g0 X hX
  exact hX.2.2.2.2.2.2.2.2.2.2.2.2.1 p0 (g0 X hX)
theorem go_l2i {L : Nat} {xs : Nat → Int32} : rl_l2i L xs (Go L xs) := by
  intro m pc nx lk a b z ls st h nc ns Q x p0 g0 X hX
  exact hX.2.2.2.2.2.2.2.2.2.2.2.2.2.1 p0 (g0 X hX)
theorem go_dup {L : Nat} {xs : Nat → Int32} : rl_dup L xs (Go L xs) := by
  intro m pc nx lk a b z ls st h nc ns Q v p0 p1 g0 X hX
  exact hX.2.2.2.2.2.2.2.2.2.2.2.2.2.2.1 p0 p1 (g0 X hX)
theorem go_pop {L : Nat} {xs : Nat → Int32} : rl_pop L xs (Go L xs) := by
  intro m pc nx lk a b z ls st h nc ns Q v p0 p1 g0 X hX
  exact hX.2.2.2.2.2.2.2.2.2.2.2.2.2.2.2.1 p0 p1 (g0 X hX)
theorem go_dup2 {L : Nat} {xs : Nat → Int32} : rl_dup2 L xs (Go L xs) := by
  intro m pc nx lk a b z ls st h nc ns Q v w p0 p1 p2 g0 X hX
  exact hX.2.2.2.2.2.2.2.2.2.2.2.2.2.2.2.2.1 p0 p1 p2 (g0 X hX)
theorem go_if {L : Nat} {xs : Nat → Int32} : rl_if L xs (Go L xs) := by
  intro m pc nx lk a b z ls st h nc ns Q c off x p0 g0 g1 X hX
  exact hX.2.2.2.2.2.2.2.2.2.2.2.2.2.2.2.2.2.1 p0 (fun c => g0 c X hX) (fun c => g1 c X hX)
theorem go_icmp {L : Nat} {xs : Nat → Int32} : rl_icmp L xs (Go L xs) := by
  intro m pc nx lk a b z ls st h nc ns Q c off x y p0 g0 g1 X hX
  exact hX.2.2.2.2.2.2.2.2.2.2.2.2.2.2.2.2.2.2.1 p0 (fun c => g0 c X hX) (fun c => g1 c X hX)
theorem go_goto {L : Nat} {xs : Nat → Int32} : rl_goto L xs (Go L xs) := by
  intro m pc nx lk a b z ls st h nc ns Q off p0 g0 X hX
  exact hX.2.2.2.2.2.2.2.2.2.2.2.2.2.2.2.2.2.2.2.1 p0 (g0 X hX)
theorem go_ifnull {L : Nat} {xs : Nat → Int32} : rl_ifnull L xs (Go L xs) := by
  intro m pc nx lk a b z ls st h nc ns Q off r p0 g0 X hX
  exact hX.2.2.2.2.2.2.2.2.2.2.2.2.2.2.2.2.2.2.2.2.1 p0 (g0 X hX)
theorem go_ifnullN {L : Nat} {xs : Nat → Int32} : rl_ifnullN L xs (Go L xs) := by
  intro m pc nx lk a b z ls st h nc ns Q off p0 g0 X hX
  exact hX.2.2.2.2.2.2.2.2.2.2.2.2.2.2.2.2.2.2.2.2.2.1 p0 (g0 X hX)
theorem go_ifnn {L : Nat} {xs : Nat → Int32} : rl_ifnn L xs (Go L xs) := by
  intro m pc nx lk a b z ls st h nc ns Q off r p0 g0 X hX
  exact hX.2.2.2.2.2.2.2.2.2.2.2.2.2.2.2.2.2.2.2.2.2.2.1 p0 (g0 X hX)
theorem go_ifnnN {L : Nat} {xs : Nat → Int32} : rl_ifnnN L xs (Go L xs) := by
  intro m pc nx lk a b z ls st h nc ns Q off p0 g0 X hX
  exact hX.2.2.2.2.2.2.2.2.2.2.2.2.2.2.2.2.2.2.2.2.2.2.2.1 p0 (g0 X hX)
theorem go_tabO {L : Nat} {xs : Nat → Int32} : rl_tabO L xs (Go L xs) := by
  intro m pc nx lk a b z ls st h nc ns Q d lo hi offs x t p0 p1 p2 g0 X hX
  exact hX.2.2.2.2.2.2.2.2.2.2.2.2.2.2.2.2.2.2.2.2.2.2.2.2.1 p0 p1 p2 (g0 X hX)
theorem go_tabI {L : Nat} {xs : Nat → Int32} : rl_tabI L xs (Go L xs) := by
  intro m pc nx lk a b z ls st h nc ns Q d lo hi off offs x t p0 p1 p2 p3 p4 g0 X hX
  exact hX.2.2.2.2.2.2.2.2.2.2.2.2.2.2.2.2.2.2.2.2.2.2.2.2.2.1 p0 p1 p2 p3 p4 (g0 X hX)
theorem go_get {L : Nat} {xs : Nat → Int32} : rl_get L xs (Go L xs) := by
  intro m pc nx lk a b z ls st h nc ns Q idx r p0 p1 g0 X hX
  exact hX.2.2.2.2.2.2.2.2.2.2.2.2.2.2.2.2.2.2.2.2.2.2.2.2.2.2.1 p0 p1 (g0 X hX)
theorem go_puti {L : Nat} {xs : Nat → Int32} : rl_puti L xs (Go L xs) := by
  intro m pc nx lk a b z ls st h nc ns Q idx r x p0 p1 p2 p3 p4 g0 X hX
  exact hX.2.2.2.2.2.2.2.2.2.2.2.2.2.2.2.2.2.2.2.2.2.2.2.2.2.2.2.1 p0 p1 p2 p3 p4 (g0 X hX)
theorem go_putl {L : Nat} {xs : Nat → Int32} : rl_putl L xs (Go L xs) := by
  intro m pc nx lk a b z ls st h nc ns Q idx r x p0 p1 p2 p3 g0 X hX
  exact hX.2.2.2.2.2.2.2.2.2.2.2.2.2.2.2.2.2.2.2.2.2.2.2.2.2.2.2.2.1 p0 p1 p2 p3 (g0 X hX)
theorem go_putr {L : Nat} {xs : Nat → Int32} : rl_putr L xs (Go L xs) := by
  intro m pc nx lk a b z ls st h nc ns Q q idx r w p0 p1 p2 p3 p4 p5 p6 g0 X hX
  exact hX.2.2.2.2.2.2.2.2.2.2.2.2.2.2.2.2.2.2.2.2.2.2.2.2.2.2.2.2.2.1 p0 p1 p2 p3 p4 p5 p6 (g0 X hX)
theorem go_iald {L : Nat} {xs : Nat → Int32} : rl_iald L xs (Go L xs) := by
  intro m pc nx lk a b z ls st h nc ns Q r n i p0 p1 p2 g0 X hX
  exact hX.2.2.2.2.2.2.2.2.2.2.2.2.2.2.2.2.2.2.2.2.2.2.2.2.2.2.2.2.2.2.1 p0 p1 p2 (g0 X hX)
theorem go_lald {L : Nat} {xs : Nat → Int32} : rl_lald L xs (Go L xs) := by
  intro m pc nx lk a b z ls st h nc ns Q r n i p0 p1 p2 g0 X hX
  exact hX.2.2.2.2.2.2.2.2.2.2.2.2.2.2.2.2.2.2.2.2.2.2.2.2.2.2.2.2.2.2.2.1 p0 p1 p2 (g0 X hX)
theorem go_zald {L : Nat} {xs : Nat → Int32} : rl_zald L xs (Go L xs) := by
  intro m pc nx lk a b z ls st h nc ns Q r n i p0 p1 p2 g0 X hX
  exact hX.2.2.2.2.2.2.2.2.2.2.2.2.2.2.2.2.2.2.2.2.2.2.2.2.2.2.2.2.2.2.2.2.1 p0 p1 p2 (g0 X hX)
theorem go_aald {L : Nat} {xs : Nat → Int32} : rl_aald L xs (Go L xs) := by
  intro m pc nx lk a b z ls st h nc ns Q r n j i p0 p1 p2 p3 g0 X hX
  exact hX.2.2.2.2.2.2.2.2.2.2.2.2.2.2.2.2.2.2.2.2.2.2.2.2.2.2.2.2.2.2.2.2.2.1 p0 p1 p2 p3 (g0 X hX)
theorem go_iast {L : Nat} {xs : Nat → Int32} : rl_iast L xs (Go L xs) := by
  intro m pc nx lk a b z ls st h nc ns Q r n i x p0 p1 p2 g0 X hX
  exact hX.2.2.2.2.2.2.2.2.2.2.2.2.2.2.2.2.2.2.2.2.2.2.2.2.2.2.2.2.2.2.2.2.2.2.1 p0 p1 p2 (g0 X hX)
theorem go_last {L : Nat} {xs : Nat → Int32} : rl_last L xs (Go L xs) := by
  intro m pc nx lk a b z ls st h nc ns Q r n i x p0 p1 p2 g0 X hX
  exact hX.2.2.2.2.2.2.2.2.2.2.2.2.2.2.2.2.2.2.2.2.2.2.2.2.2.2.2.2.2.2.2.2.2.2.2.1 p0 p1 p2 (g0 X hX)
theorem go_zast {L : Nat} {xs : Nat → Int32} : rl_zast L xs (Go L xs) := by
  intro m pc nx lk a b z ls st h nc ns Q r n i x p0 p1 p2 p3 g0 X hX
  exact hX.2.2.2.2.2.2.2.2.2.2.2.2.2.2.2.2.2.2.2.2.2.2.2.2.2.2.2.2.2.2.2.2.2.2.2.2.1 p0 p1 p2 p3 (g0 X hX)
theorem go_aast {L : Nat} {xs : Nat → Int32} : rl_aast L xs (Go L xs) := by
  intro m pc nx lk a b z ls st h nc ns Q r n j w i p0 p1 p2 p3 p4 g0 X hX
  exact hX.2.2.2.2.2.2.2.2.2.2.2.2.2.2.2.2.2.2.2.2.2.2.2.2.2.2.2.2.2.2.2.2.2.2.2.2.2.1 p0 p1 p2 p3 p4 (g0 X hX)
theorem go_alen {L : Nat} {xs : Nat → Int32} : rl_alen L xs (Go L xs) := by
  intro m pc nx lk a b z ls st h nc ns Q r n p0 p1 g0 X hX
  exact hX.2.2.2.2.2.2.2.2.2.2.2.2.2.2.2.2.2.2.2.2.2.2.2.2.2.2.2.2.2.2.2.2.2.2.2.2.2.2.1 p0 p1 (g0 X hX)
theorem go_sld {L : Nat} {xs : Nat → Int32} : rl_sld L xs (Go L xs) := by
  intro m pc nx lk a b z ls st h nc ns Q t i p0 p1 g0 X hX
  exact hX.2.2.2.2.2.2.2.2.2.2.2.2.2.2.2.2.2.2.2.2.2.2.2.2.2.2.2.2.2.2.2.2.2.2.2.2.2.2.2.1 p0 p1 (g0 X hX)
theorem go_slen {L : Nat} {xs : Nat → Int32} : rl_slen L xs (Go L xs) := by
  intro m pc nx lk a b z ls st h nc ns Q t p0 g0 X hX
  exact hX.2.2.2.2.2.2.2.2.2.2.2.2.2.2.2.2.2.2.2.2.2.2.2.2.2.2.2.2.2.2.2.2.2.2.2.2.2.2.2.2.1 p0 (g0 X hX)
theorem go_new {L : Nat} {xs : Nat → Int32} : rl_new L xs (Go L xs) := by
  intro m pc nx lk a b z ls st h nc ns Q q idx cw p0 p1 p2 p3 p4 g0 X hX
  exact hX.2.2.2.2.2.2.2.2.2.2.2.2.2.2.2.2.2.2.2.2.2.2.2.2.2.2.2.2.2.2.2.2.2.2.2.2.2.2.2.2.2.1 p0 p1 p2 p3 p4 (g0 X hX)
theorem go_newa {L : Nat} {xs : Nat → Int32} : rl_newa L xs (Go L xs) := by
  intro m pc nx lk a b z ls st h nc ns Q q t n N kd p0 p1 p2 p3 p4 p5 p6 p7 g0 X hX
  exact hX.2.2.2.2.2.2.2.2.2.2.2.2.2.2.2.2.2.2.2.2.2.2.2.2.2.2.2.2.2.2.2.2.2.2.2.2.2.2.2.2.2.2.1 p0 p1 p2 p3 p4 p5 p6 p7 (g0 X hX)
theorem go_anew {L : Nat} {xs : Nat → Int32} : rl_anew L xs (Go L xs) := by
  intro m pc nx lk a b z ls st h nc ns Q q idx n N p0 p1 p2 p3 p4 p5 p6 g0 X hX
  exact hX.2.2.2.2.2.2.2.2.2.2.2.2.2.2.2.2.2.2.2.2.2.2.2.2.2.2.2.2.2.2.2.2.2.2.2.2.2.2.2.2.2.2.2.1 p0 p1 p2 p3 p4 p5 p6 (g0 X hX)
theorem go_cV {L : Nat} {xs : Nat → Int32} : rl_cV L xs (Go L xs) := by
  intro m pc nx lk a b z ls st h nc ns Q q q2 idx r vs rest R p0 p1 p2 p3 p4 p5 p6 p7 p8 p9 g0 g1 X hX
  exact hX.2.2.2.2.2.2.2.2.2.2.2.2.2.2.2.2.2.2.2.2.2.2.2.2.2.2.2.2.2.2.2.2.2.2.2.2.2.2.2.2.2.2.2.2.1 p0 p1 p2 p3 p4 p5 p6 p7 p8 p9 (g0 X hX) (fun v h2 r => g1 v h2 r X hX)
theorem go_cS {L : Nat} {xs : Nat → Int32} : rl_cS L xs (Go L xs) := by
  intro m pc nx lk a b z ls st h nc ns Q q q2 idx vs rest R p0 p1 p2 p3 p4 p5 p6 p7 p8 p9 g0 g1 X hX
  exact hX.2.2.2.2.2.2.2.2.2.2.2.2.2.2.2.2.2.2.2.2.2.2.2.2.2.2.2.2.2.2.2.2.2.2.2.2.2.2.2.2.2.2.2.2.2.1 p0 p1 p2 p3 p4 p5 p6 p7 p8 p9 (g0 X hX) (fun v h2 r => g1 v h2 r X hX)
theorem go_cI {L : Nat} {xs : Nat → Int32} : rl_cI L xs (Go L xs) := by
  intro m pc nx lk a b z ls st h nc ns Q q q2 idx r vs rest R p0 p1 p2 p3 p4 p5 p6 p7 p8 p9 g0 g1 X hX
  exact hX.2.2.2.2.2.2.2.2.2.2.2.2.2.2.2.2.2.2.2.2.2.2.2.2.2.2.2.2.2.2.2.2.2.2.2.2.2.2.2.2.2.2.2.2.2.2.1 p0 p1 p2 p3 p4 p5 p6 p7 p8 p9 (g0 X hX) (fun v h2 r => g1 v h2 r X hX)
theorem go_obj {L : Nat} {xs : Nat → Int32} : rl_obj L xs (Go L xs) := by
  intro m pc nx lk a b z ls st h nc ns Q idx r p0 p1 p2 g0 X hX
  exact hX.2.2.2.2.2.2.2.2.2.2.2.2.2.2.2.2.2.2.2.2.2.2.2.2.2.2.2.2.2.2.2.2.2.2.2.2.2.2.2.2.2.2.2.2.2.2.2.1 p0 p1 p2 (g0 X hX)
theorem go_cpi {L : Nat} {xs : Nat → Int32} : rl_cpi L xs (Go L xs) := by
  intro m pc nx lk a b z ls st h nc ns Q idx r w n1 n2 sp dp n p0 p1 p2 p3 p4 p5 p6 p7 p8 p9 g0 X hX
  exact hX.2.2.2.2.2.2.2.2.2.2.2.2.2.2.2.2.2.2.2.2.2.2.2.2.2.2.2.2.2.2.2.2.2.2.2.2.2.2.2.2.2.2.2.2.2.2.2.2.1 p0 p1 p2 p3 p4 p5 p6 p7 p8 p9 (g0 X hX)
theorem go_cpl {L : Nat} {xs : Nat → Int32} : rl_cpl L xs (Go L xs) := by
  intro m pc nx lk a b z ls st h nc ns Q idx r w n1 n2 sp dp n p0 p1 p2 p3 p4 p5 p6 p7 p8 p9 g0 X hX
  exact hX.2.2.2.2.2.2.2.2.2.2.2.2.2.2.2.2.2.2.2.2.2.2.2.2.2.2.2.2.2.2.2.2.2.2.2.2.2.2.2.2.2.2.2.2.2.2.2.2.2.1 p0 p1 p2 p3 p4 p5 p6 p7 p8 p9 (g0 X hX)
theorem go_mmin {L : Nat} {xs : Nat → Int32} : rl_mmin L xs (Go L xs) := by
  intro m pc nx lk a b z ls st h nc ns Q idx q x y p0 p1 p2 p3 p4 p5 g0 X hX
  exact hX.2.2.2.2.2.2.2.2.2.2.2.2.2.2.2.2.2.2.2.2.2.2.2.2.2.2.2.2.2.2.2.2.2.2.2.2.2.2.2.2.2.2.2.2.2.2.2.2.2.2.1 p0 p1 p2 p3 p4 p5 (g0 X hX)
theorem go_mabs {L : Nat} {xs : Nat → Int32} : rl_mabs L xs (Go L xs) := by
  intro m pc nx lk a b z ls st h nc ns Q idx q x p0 p1 p2 p3 p4 p5 g0 X hX
  exact hX.2.2.2.2.2.2.2.2.2.2.2.2.2.2.2.2.2.2.2.2.2.2.2.2.2.2.2.2.2.2.2.2.2.2.2.2.2.2.2.2.2.2.2.2.2.2.2.2.2.2.2.1 p0 p1 p2 p3 p4 p5 (g0 X hX)
theorem go_drop {L : Nat} {xs : Nat → Int32} : rl_drop L xs (Go L xs) := by
  intro m pc ls st h nc ns Q ks  g0 X hX
  exact hX.2.2.2.2.2.2.2.2.2.2.2.2.2.2.2.2.2.2.2.2.2.2.2.2.2.2.2.2.2.2.2.2.2.2.2.2.2.2.2.2.2.2.2.2.2.2.2.2.2.2.2.2.1  (g0 X hX)
theorem go_iret {L : Nat} {xs : Nat → Int32} : rl_iret L xs (Go L xs) := by
  intro m pc nx lk a b z ls h nc ns Q q ty x p0 p1 p2 p3 p4 p5 p6  X hX
  exact hX.2.2.2.2.2.2.2.2.2.2.2.2.2.2.2.2.2.2.2.2.2.2.2.2.2.2.2.2.2.2.2.2.2.2.2.2.2.2.2.2.2.2.2.2.2.2.2.2.2.2.2.2.2.1 p0 p1 p2 p3 p4 p5 p6 
theorem go_lret {L : Nat} {xs : Nat → Int32} : rl_lret L xs (Go L xs) := by
  intro m pc nx lk a b z ls h nc ns Q q x p0 p1 p2 p3 p4 p5  X hX
  exact hX.2.2.2.2.2.2.2.2.2.2.2.2.2.2.2.2.2.2.2.2.2.2.2.2.2.2.2.2.2.2.2.2.2.2.2.2.2.2.2.2.2.2.2.2.2.2.2.2.2.2.2.2.2.2.1 p0 p1 p2 p3 p4 p5 
theorem go_aret {L : Nat} {xs : Nat → Int32} : rl_aret L xs (Go L xs) := by
  intro m pc nx lk a b z ls h nc ns Q q n v p0 p1 p2 p3 p4 p5 p6  X hX
  exact hX.2.2.2.2.2.2.2.2.2.2.2.2.2.2.2.2.2.2.2.2.2.2.2.2.2.2.2.2.2.2.2.2.2.2.2.2.2.2.2.2.2.2.2.2.2.2.2.2.2.2.2.2.2.2.2.1 p0 p1 p2 p3 p4 p5 p6 
theorem go_ret {L : Nat} {xs : Nat → Int32} : rl_ret L xs (Go L xs) := by
  intro m pc nx lk a b z ls h nc ns Q q p0 p1 p2 p3 p4 p5  X hX
  exact hX.2.2.2.2.2.2.2.2.2.2.2.2.2.2.2.2.2.2.2.2.2.2.2.2.2.2.2.2.2.2.2.2.2.2.2.2.2.2.2.2.2.2.2.2.2.2.2.2.2.2.2.2.2.2.2.2 p0 p1 p2 p3 p4 p5 
end
section
/-! how the abstract machine's states stand for the machine's -/
abbrev gm_G : Type := Nat × Nat × (Nat → ClassId) × va_G
def gm_cv (G : gm_G) : Value → Value
  | .ref k => .ref (G.1 + k)
  | .retAddr _ => .ref G.2.1
  | v => v
theorem gm_cv_cat (G : gm_G) (v : Value) : (gm_cv G v).category = v.category := by cases v <;> rfl
theorem gm_cats (G : gm_G) (st : List Value) : ((st.map (gm_cv G)).map fun v => v.category).sum = (st.map fun v => v.category).sum := by
  rw [List.map_map]
  congr 1
  apply List.map_congr_left
  intro v _
  exact gm_cv_cat G v
def gm_al (f : Value → Value) : Nat → gm_L → List (Nat × Value)
  | _, [] => []
  | i, none :: t => gm_al f (i + 1) t
  | i, some v :: t => (i, f v) :: gm_al f (i + 1) t
theorem gm_al_mem (f : Value → Value) : ∀ (ls : gm_L) (i : Nat) (q : Nat × Value), q ∈ gm_al f i ls ↔ ∃ j v, ls[j]? = some (some v) ∧ q = (i + j, f v)
  | [], i, q => by simp [gm_al]
  | none :: t, i, q => by
    rw [gm_al, gm_al_mem f t (i + 1) q]
    constructor
    · rintro ⟨j, v, h, rfl⟩
      exact ⟨j + 1, v, by simpa using h, by rw [show i + 1 + j = i + (j + 1) by omega]⟩
    · rintro ⟨j, v, h, rfl⟩
      cases j with
      | zero => simp at h
      | succ j => exact ⟨j, v, by simpa using h, by rw [show i + (j + 1) = i + 1 + j by omega]⟩
  | some w :: t, i, q => by
    rw [gm_al, List.mem_cons, gm_al_mem f t (i + 1) q]
    constructor
    · rintro (rfl | ⟨j, v, h, rfl⟩)
      · exact ⟨0, w, rfl, rfl⟩
      · exact ⟨j + 1, v, by simpa using h, by rw [show i + 1 + j = i + (j + 1) by omega]⟩
    · rintro ⟨j, v, h, rfl⟩
      cases j with
      | zero =>
        simp at h
        subst h
        exact Or.inl rfl
      | succ j => exact Or.inr ⟨j, v, by simpa using h, by rw [show i + (j + 1) = i + 1 + j by omega]⟩
theorem gm_s1_get : ∀ (ls : gm_L) (k j : Nat) (v : Value), (gm_s1 ls k v)[j]? = if j = k then (if k < ls.length then some (some v) else none) else if j + 1 = k then (ls[j]?).map gm_kill else ls[j]?
  | [], k, j, v => by simp [gm_s1]
  | x :: t, 0, j, v => by cases j <;> simp [gm_s1]
  | x :: t, 1, j, v => by
    cases j with
    | zero => simp [gm_s1]
    | succ j =>
      have e := gm_s1_get t 0 j v
      rw [gm_s1, List.getElem?_cons_succ, e]
      by_cases hj : j = 0
      · subst hj; simp
      · simp [hj]
  | x :: t, k + 2, j, v => by
    cases j with
    | zero => simp [gm_s1]
    | succ j =>
      have e := gm_s1_get t (k + 1) j v
      have hl : (k + 2 < (x :: t).length) = (k + 1 < t.length) := by rw [List.length_cons]; exact propext ⟨fun h => by omega, fun h => by omega⟩
      have a1 : (j + 1 = k + 2) = (j = k + 1) := propext ⟨fun h => by omega, fun h => by omega⟩
      have a2 : (j + 1 + 1 = k + 2) = (j + 1 = k + 1) := propext ⟨fun h => by omega, fun h => by omega⟩
      rw [gm_s1, List.getElem?_cons_succ, e]
      simp only [hl, a1, a2, List.getElem?_cons_succ]
theorem gm_s1_len : ∀ (ls : gm_L) (k : Nat) (v : Value), (gm_s1 ls k v).length = ls.length
  | [], _, _ => rfl
  | _ :: _, 0, _ => rfl
  | x :: t, 1, v => by simp [gm_s1, gm_s1_len t 0 v]
  | x :: t, k + 2, v => by simp [gm_s1, gm_s1_len t (k + 1) v]
theorem gm_tn_get : ∀ (t : gm_L) (j : Nat), (gm_tn t)[j]? = if j = 0 then (if 0 < t.length then some none else none) else t[j]?
  | [], j => by simp [gm_tn]
  | x :: t, j => by cases j <;> simp [gm_tn]
theorem gm_tn_len (t : gm_L) : (gm_tn t).length = t.length := by cases t <;> rfl
theorem gm_s2_get : ∀ (ls : gm_L) (k j : Nat) (v : Value), (gm_s2 ls k v)[j]? = if j = k then (if k < ls.length then some (some v) else none) else if j = k + 1 then (if k + 1 < ls.length then some none else none) else if j + 1 = k then (ls[j]?).map gm_kill else ls[j]?
  | [], k, j, v => by simp [gm_s2]
  | x :: t, 0, j, v => by
    cases j with
    | zero => simp [gm_s2]
    | succ j =>
      rw [gm_s2, List.getElem?_cons_succ, gm_tn_get]
      by_cases hj : j = 0
      · subst hj; simp
      · simp [hj]
  | x :: t, 1, j, v => by
    cases j with
    | zero => simp [gm_s2]
    | succ j =>
      have e := gm_s2_get t 0 j v
      have hl : (1 + 1 < (x :: t).length) = (0 + 1 < t.length) := by rw [List.length_cons]; exact propext ⟨fun h => by omega, fun h => by omega⟩
      have a1 : (j + 1 = 1) = (j = 0) := propext ⟨fun h => by omega, fun h => by omega⟩
      have a2 : (j + 1 = 1 + 1) = (j = 0 + 1) := propext ⟨fun h => by omega, fun h => by omega⟩
      have a3 : (j + 1 + 1 = 1) = (j + 1 = 0) := propext ⟨fun h => by omega, fun h => by omega⟩
      have hl0 : (1 < (x :: t).length) = (0 < t.length) := by rw [List.length_cons]; exact propext ⟨fun h => by omega, fun h => by omega⟩
      rw [gm_s2, List.getElem?_cons_succ, e]
      simp only [hl, hl0, a1, a2, a3, List.getElem?_cons_succ]
  | x :: t, k + 2, j, v => by
    cases j with
    | zero => simp [gm_s2]
    | succ j =>
      have e := gm_s2_get t (k + 1) j v
      have hl : (k + 2 < (x :: t).length) = (k + 1 < t.length) := by rw [List.length_cons]; exact propext ⟨fun h => by omega, fun h => by omega⟩
      have hl2 : (k + 2 + 1 < (x :: t).length) = (k + 1 + 1 < t.length) := by rw [List.length_cons]; exact propext ⟨fun h => by omega, fun h => by omega⟩
      have a1 : (j + 1 = k + 2) = (j = k + 1) := propext ⟨fun h => by omega, fun h => by omega⟩
      have a2 : (j + 1 = k + 2 + 1) = (j = k + 1 + 1) := propext ⟨fun h => by omega, fun h => by omega⟩
      have a3 : (j + 1 + 1 = k + 2) = (j + 1 = k + 1) := propext ⟨fun h => by omega, fun h => by omega⟩
      rw [gm_s2, List.getElem?_cons_succ, e]
      simp only [hl, hl2, a1, a2, a3, List.getElem?_cons_succ]
theorem gm_s2_len : ∀ (ls : gm_L) (k : Nat) (v : Value), (gm_s2 ls k v).length = ls.length
  | [], _, _ => rfl
  | _ :: t, 0, _ => by simp [gm_s2, gm_tn_len]
  | x :: t, 1, v => by simp [gm_s2, gm_s2_len t 0 v]
  | x :: t, k + 2, v => by simp [gm_s2, gm_s2_len t (k + 1) v]
theorem gm_kill_some {x : Option Value} {w : Value} (h : gm_kill x = some w) : x = some w ∧ ¬ w.category = 2 := by
  cases x with
  | none => cases h
  | some v => cases v <;> simp [gm_kill] at h <;> subst h <;> exact ⟨rfl, by simp [Value.category]⟩
theorem gm_has_sub {lo : Array Slot} {n : Nat} {l l' : List (Nat × Value)} (h : lv_has lo n l) (hs : ∀ q ∈ l', q ∈ l) : lv_has lo n l' := ⟨h.1, h.2.1, fun q hq => h.2.2 q (hs q hq)⟩
theorem gm_s1_sub (G : gm_G) (ls : gm_L) (k : Nat) (v : Value) : ∀ q ∈ gm_al (gm_cv G) 0 (gm_s1 ls k v), q ∈ (k, gm_cv G v) :: (gm_al (gm_cv G) 0 ls).filter (fun q => !(q.1 == k) && !(q.1 + 1 == k && q.2.category == 2)) := by
  intro q hq
  obtain ⟨j, w, h, rfl⟩ := (gm_al_mem _ _ _ _).mp hq
  rw [Nat.zero_add]
  rw [gm_s1_get] at h
  by_cases hj : j = k
  · subst hj
    rw [if_pos rfl] at h
    split at h
    · cases h; exact List.mem_cons_self
    · cases h
  · rw [if_neg hj] at h
    refine List.mem_cons_of_mem _ (List.mem_filter.mpr ?_)
    by_cases hk : j + 1 = k
    · rw [if_pos hk] at h
      cases hx : ls[j]? with
      | none => rw [hx] at h; cases h
      | some x =>
        rw [hx] at h
        have h2 := gm_kill_some (Option.some.inj h)
        rw [h2.1] at hx
        refine ⟨(gm_al_mem _ _ _ _).mpr ⟨j, w, hx, by rw [Nat.zero_add]⟩, ?_⟩
        simp [hj, gm_cv_cat, h2.2]
    · rw [if_neg hk] at h
      refine ⟨(gm_al_mem _ _ _ _).mpr ⟨j, w, h, by rw [Nat.zero_add]⟩, ?_⟩
      simp [hj, hk]
theorem gm_s2_sub (G : gm_G) (ls : gm_L) (k : Nat) (v : Value) : ∀ q ∈ gm_al (gm_cv G) 0 (gm_s2 ls k v), q ∈ (k, gm_cv G v) :: (gm_al (gm_cv G) 0 ls).filter (fun q => !(q.1 == k) && (!(q.1 == k + 1) && !(q.1 + 1 == k && q.2.category == 2))) := by
  intro q hq
  obtain ⟨j, w, h, rfl⟩ := (gm_al_mem _ _ _ _).mp hq
  rw [Nat.zero_add]
  rw [gm_s2_get] at h
  by_cases hj : j = k
  · subst hj
    rw [if_pos rfl] at h
    split at h
    · cases h; exact List.mem_cons_self
    · cases h
  · rw [if_neg hj] at h
    refine List.mem_cons_of_mem _ (List.mem_filter.mpr ?_)
    by_cases hk1 : j = k + 1
    · rw [if_pos hk1] at h
      split at h <;> cases h
    · rw [if_neg hk1] at h
      by_cases hk : j + 1 = k
      · rw [if_pos hk] at h
        cases hx : ls[j]? with
        | none => rw [hx] at h; cases h
        | some x =>
          rw [hx] at h
          have h2 := gm_kill_some (Option.some.inj h)
          rw [h2.1] at hx
          refine ⟨(gm_al_mem _ _ _ _).mpr ⟨j, w, hx, by rw [Nat.zero_add]⟩, ?_⟩
          simp [hj, hk1, gm_cv_cat, h2.2]
      · rw [if_neg hk] at h
        refine ⟨(gm_al_mem _ _ _ _).mpr ⟨j, w, h, by rw [Nat.zero_add]⟩, ?_⟩
        simp [hj, hk, hk1]
theorem gm_al_sl (G : gm_G) : ∀ (vs : List Value) (i n : Nat), gm_al (gm_cv G) i (gm_sl vs ++ List.replicate n none) = lv_args i (vs.map (gm_cv G))
  | [], i, n => by
    show gm_al _ i (List.replicate n none) = []
    induction n generalizing i with
    | zero => rfl
    | succ n ih => exact ih (i + 1)
  | v :: vs, i, n => by
    by_cases hc : v.category = 2
    · simp only [gm_sl, hc, if_true, List.cons_append, gm_al, List.map_cons, lv_args, gm_cv_cat]
      rw [gm_al_sl G vs (i + 1 + 1) n]
    · simp only [gm_sl, hc, if_false, List.cons_append, gm_al, List.map_cons, lv_args, gm_cv_cat]
      rw [gm_al_sl G vs (i + 1) n]
theorem gm_lg_sl (G : gm_G) : ∀ (vs : List Value), (lg_sl (vs.map (gm_cv G))).length = (gm_sl vs).length
  | [] => rfl
  | v :: vs => by
    have ih := gm_lg_sl G vs
    unfold lg_sl at ih ⊢
    rw [List.map_cons, List.flatMap_cons, List.length_append, ih, gm_cv_cat]
    by_cases hc : v.category = 2
    · simp [gm_sl, hc]; omega
    · simp [gm_sl, hc]; omega
theorem gm_ent_len {n : Nat} {vs : List Value} (h : (gm_sl vs).length ≤ n) : (gm_ent n vs).length = n := by
  simp [gm_ent]; omega
/-- the cells -/
def gm_nf (ci : Nat) : Nat := match gm_cl[ci]? with
  | some c => c.2.2
  | none => 0
def gm_oid (j : Nat) : Nat := if j = 2 then 3 else 4
def gm_otn (j : Nat) : String := if j = 2 then "GridMender$Laying" else "GridMender$Sheet"
def gm_cell (G : gm_G) (h : gm_H) (k : Nat) : Nat × Nat → va_E
  | (0, ci) => .inr (ci, (List.range (gm_nf ci)).map fun f => gm_cv G (gm_fv h k ci f))
  | (1, n) => .inl (G.2.2.1 0, n, .inl (h.2.1 k))
  | (2, n) => .inl (G.2.2.1 1, n, .inr (.inl (h.2.2.1 k)))
  | (3, n) => .inl (G.2.2.1 2, n, .inl (h.2.1 k))
  | (j + 4, n) => .inl (G.2.2.1 (gm_oid j), n, .inr (.inr (.inr (.inr fun i => (h.2.2.2 k i).map fun x => G.1 + x))))
def gm_ws (G : gm_G) (h : gm_H) : va_W := (List.range h.1.length).map fun k => (G.1 + k, gm_cell G h k (h.1.getD k (0, 0)))
def gm_WW (G : gm_G) (h : gm_H) (H : Heap) : Prop := H.size = G.1 + h.1.length ∧ va_P G.2.2.2 gm_cl (gm_ws G h) H
theorem gm_ws_get {G : gm_G} {h : gm_H} {r : Nat} {kd : Nat × Nat} (hr : h.1[r]? = some kd) : (gm_ws G h)[r]? = some (G.1 + r, gm_cell G h r kd) := by
  have hl : r < h.1.length := (List.getElem?_eq_some_iff.mp hr).1
  unfold gm_ws
  rw [List.getElem?_map, List.getElem?_range hl]
  simp [List.getD_eq_getElem?_getD, hr]
theorem gm_ws_inv {G : gm_G} {h : gm_H} {r : Nat} {x : Nat × va_E} (hx : (gm_ws G h)[r]? = some x) : ∃ kd, h.1[r]? = some kd ∧ x = (G.1 + r, gm_cell G h r kd) := by
  have hl : r < h.1.length := by
    have := (List.getElem?_eq_some_iff.mp hx).1
    simpa [gm_ws] using this
  refine ⟨h.1[r], List.getElem?_eq_getElem hl, ?_⟩
  rw [gm_ws_get (List.getElem?_eq_getElem hl)] at hx
  exact (Option.some.inj hx).symm
theorem gm_ws_len (G : gm_G) (h : gm_H) : (gm_ws G h).length = h.1.length := by simp [gm_ws]
theorem gm_wsD (G : gm_G) (h : gm_H) : va_D (fun a => G.1 ≤ a) (gm_ws G h) := by
  refine ⟨fun i j x y hx hy hxy => ?_, fun k x hx => ?_⟩
  · obtain ⟨_, -, rfl⟩ := gm_ws_inv hx
    obtain ⟨_, -, rfl⟩ := gm_ws_inv hy
    have : G.1 + i = G.1 + j := hxy
    omega
  · obtain ⟨_, -, rfl⟩ := gm_ws_inv hx
    exact Nat.le_add_right _ _
theorem gm_ws_set {G : gm_G} {h h2 : gm_H} {r : Nat} {kd : Nat × Nat} {E : va_E} (hr : h.1[r]? = some kd) (hs : h2.1 = h.1) (ho : ∀ k x, k ≠ r → gm_cell G h2 k x = gm_cell G h k x) (he : gm_cell G h2 r kd = E) : gm_ws G h2 = (gm_ws G h).set r (G.1 + r, E) := by
  apply List.ext_getElem?
  intro k
  by_cases hk : k = r
  · subst hk
    rw [gm_ws_get (kd := kd) (by rw [hs]; exact hr), he, List.getElem?_set_self (by rw [gm_ws_len]; exact (List.getElem?_eq_some_iff.mp hr).1)]
  · rw [List.getElem?_set_ne (Ne.symm hk)]
    cases hx : h.1[k]? with
    | none =>
      have h1 : h.1.length ≤ k := by simpa using hx
      rw [List.getElem?_eq_none (by rw [gm_ws_len, hs]; exact h1), List.getElem?_eq_none (by rw [gm_ws_len]; exact h1)]
    | some x => rw [gm_ws_get hx, gm_ws_get (kd := x) (by rw [hs]; exact hx), ho k x hk]
theorem gm_ws_push {G : gm_G} {h h2 : gm_H} {kd : Nat × Nat} {E : va_E} (hs : h2.1 = h.1 ++ [kd]) (ho : ∀ k x, k < h.1.length → gm_cell G h2 k x = gm_cell G h k x) (he : gm_cell G h2 h.1.length kd = E) : gm_ws G h2 = gm_ws G h ++ [(G.1 + h.1.length, E)] := by
  apply List.ext_getElem?
  intro k
  by_cases hk : k < h.1.length
  · rw [List.getElem?_append_left (by rw [gm_ws_len]; exact hk), gm_ws_get (List.getElem?_eq_getElem hk), gm_ws_get (kd := h.1[k]) (by rw [hs, List.getElem?_append_left hk]; exact List.getElem?_eq_getElem hk), ho k _ hk]
  · rw [List.getElem?_append_right (by rw [gm_ws_len]; omega), gm_ws_len]
    by_cases hk2 : k = h.1.length
    · subst hk2
      rw [gm_ws_get (kd := kd) (by rw [hs]; simp), he]
      simp
    · rw [List.getElem?_eq_none (by rw [gm_ws_len, hs]; simp; omega), List.getElem?_eq_none (by simp; omega)]
def gm_tl (ids : Nat → ClassId) : List (ClassId × FieldType) := [(ids 0, .int), (ids 1, .long), (ids 2, .boolean), (ids 3, .object "GridMender$Laying"), (ids 4, .object "GridMender$Sheet")]
theorem gm_tl_o {ids : Nat → ClassId} {j : Nat} (hj : j = 2 ∨ j = 5) : (gm_tl ids)[gm_oid j]? = some (ids (gm_oid j), .object (gm_otn j)) := by
  rcases hj with rfl | rfl <;> rfl
/-- the words that every method has -/
def gm_tbl : List Cond := lw_tbl.filter goodWord
theorem gm_in {i : Nat} {w : Cond} (h : lw_tbl[i]? = some w) (hg : goodWord w = true) : w ∈ gm_tbl := List.mem_filter.mpr ⟨List.mem_of_getElem? h, hg⟩
theorem gm_goodIn {w : Cond} (h : w ∈ gm_tbl) : (w.onTables && w.keeps) = true ∨ ∃ ty, w = .arrayClass ty := good_of_word (List.mem_filter.mp h).2
theorem gm_lay_good (C : String) (T : u_T) (N : Nat) : ∀ w ∈ u_ws C T N, goodWord w = true := by
  intro w hw
  obtain ⟨k, -, rfl⟩ := List.mem_map.mp hw
  unfold u_lay
  split <;> rfl
theorem gm_uws {ci : Nat} {c : vw_C} (hc : gm_cl[ci]? = some c) : ∀ w ∈ u_ws c.1 c.2.1 c.2.2, w ∈ gm_tbl := by
  have key : ∀ (C : String) (T : u_T) (N : Nat), (∀ w ∈ u_ws C T N, w ∈ lw_tbl) → ∀ w ∈ u_ws C T N, w ∈ gm_tbl := fun C T N h w hw => List.mem_filter.mpr ⟨h w hw, gm_lay_good C T N w hw⟩
  match ci, hc with
  | 0, hc => cases hc; exact key _ _ _ gm_in0
  | 1, hc => cases hc; exact key _ _ _ gm_in1
  | 2, hc => cases hc; exact key _ _ _ gm_in2
  | 3, hc => cases hc; exact key _ _ _ gm_in3
  | 4, hc => cases hc; exact key _ _ _ gm_in4
  | 5, hc => cases hc; exact key _ _ _ gm_in5
  | 6, hc => cases hc; exact key _ _ _ gm_in6
  | 7, hc => cases hc; exact key _ _ _ gm_in7
  | n + 8, hc => simp [gm_cl] at hc
theorem gm_tyok {ci : Nat} {c : vw_C} (hc : gm_cl[ci]? = some c) : ∀ k, k < c.2.2 → parseFieldDescriptor (c.2.1 k).2.2.1 = some (gm_ty ci k) := by
  match ci, hc with
  | 0, hc => cases hc; exact tyX0_ok
  | 1, hc => cases hc; exact tyX1_ok
  | 2, hc => cases hc; exact tyX2_ok
  | 3, hc => cases hc; exact tyX3_ok
  | 4, hc => cases hc; exact tyX4_ok
  | 5, hc => cases hc; exact tyX5_ok
  | 6, hc => cases hc; exact tyX6_ok
  | 7, hc => cases hc; exact tyX7_ok
  | n + 8, hc => simp [gm_cl] at hc
theorem gm_nmok {ci : Nat} {c : vw_C} (hc : gm_cl[ci]? = some c) : ∀ a, a < c.2.2 → ∀ b, b < c.2.2 → a ≠ b → (c.2.1 a).2.1 ≠ (c.2.1 b).2.1 := by
  match ci, hc with
  | 0, hc => cases hc; exact nmX0
  | 1, hc => cases hc; exact nmX1
  | 2, hc => cases hc; exact nmX2
  | 3, hc => cases hc; exact nmX3
  | 4, hc => cases hc; exact nmX4
  | 5, hc => cases hc; exact nmX5
  | 6, hc => cases hc; exact nmX6
  | 7, hc => cases hc; exact nmX7
  | n + 8, hc => simp [gm_cl] at hc
theorem gm_clnm {ci : Nat} {c : vw_C} (hc : gm_cl[ci]? = some c) : gm_own ci = c.1 ∧ ∀ k, (c.2.1 k).1 = c.1 := by
  match ci, hc with
  | 0, hc => cases hc; exact ⟨rfl, fun k => by show (TX0 k).1 = RX0; unfold TX0; split <;> rfl⟩
  | 1, hc => cases hc; exact ⟨rfl, fun k => by show (TX1 k).1 = RX1; unfold TX1; split <;> rfl⟩
  | 2, hc => cases hc; exact ⟨rfl, fun k => by show (TX2 k).1 = RX2; unfold TX2; split <;> rfl⟩
  | 3, hc => cases hc; exact ⟨rfl, fun k => by show (TX3 k).1 = RX3; unfold TX3; split <;> rfl⟩
  | 4, hc => cases hc; exact ⟨rfl, fun k => by show (TX4 k).1 = RX4; unfold TX4; split <;> rfl⟩
  | 5, hc => cases hc; exact ⟨rfl, fun k => by show (TX5 k).1 = RX5; unfold TX5; split <;> rfl⟩
  | 6, hc => cases hc; exact ⟨rfl, fun k => by show (TX6 k).1 = RX6; unfold TX6; split <;> rfl⟩
  | 7, hc => cases hc; exact ⟨rfl, fun k => by show (TX7 k).1 = RX7; unfold TX7; split <;> rfl⟩
  | n + 8, hc => simp [gm_cl] at hc
/-- the words that don't keep by themselves -/
def gm_N (U : State) : Prop := (∀ (a : String) (i : Nat) (x : MethodName) (n : String), Cond.methodLinkNest a i x n ∈ lw_tbl → va_Nw (.methodLinkNest a i x n) U) ∧ va_AO "GridMender$Laying" U ∧ va_AO "GridMender$Sheet" U
theorem gm_N.warm {s U : State} (hW : s.WarmedH U.vm) (h : gm_N s) : gm_N U := ⟨fun a i x n hx => va_Nw.warmM hW (h.1 a i x n hx), va_AO.moved hW.alike h.2.1, va_AO.moved hW.alike h.2.2⟩
theorem gm_N.same {u U : State} (he : u.vm = U.vm) (h : gm_N u) : gm_N U := ⟨fun a i x n hx => va_Nw.same rfl he (h.1 a i x n hx), va_AO.moved (he ▸ Vm.Alike.refl _) h.2.1, va_AO.moved (he ▸ Vm.Alike.refl _) h.2.2⟩
/-- what a method's frame knows -/
def gm_Cx (G : gm_G) (L : Nat) (xs : Nat → Int32) (q : gm_M) (p : Program) (s : State) (mid : MethodId) (args : Array Value) (meth : Method) (c : Code) : Prop :=
  p.tables.exec = Jvm.exec ∧ c.code = q.2.1 ∧ c.maxLocals = q.2.2.1 ∧ s.vm.findClass (gm_own q.2.2.2.2.1) = some mid.cls ∧ (∀ w ∈ gm_tbl, w.before args s = true) ∧ gm_N s ∧ va_K G.2.2.2 gm_cl (gm_tl G.2.2.1) s ∧ va_X G.2.1 L xs s s.heap ∧ G.2.1 < G.1 ∧ G.1 ≤ s.heap.size ∧ meth.sig.returnType = q.2.2.2.1 ∧ meth.locks = false ∧ (q.1.name = "<init>" → meth.name = "<init>")
def gm_A (G : gm_G) : Nat → Prop := fun a => G.1 ≤ a
def gm_Qc (G : gm_G) (q : gm_M) (Q : Value → gm_H → Prop) : Array Value → State → Outcome → State → Prop := fun _ st o t => (∃ (v : Value) (h : gm_H), o = .returned (q.2.2.2.1.map fun _ => gm_cv G v) ∧ gm_WW G h t.heap ∧ Q v h) ∧ va_F (gm_A G) st t
def gm_rm (q : gm_M) : Room := { frames := q.2.2.2.2.2.2.1, cells := q.2.2.2.2.2.2.2.2.1, slots := q.2.2.2.2.2.2.2.2.2.1, locals := q.2.2.2.2.2.2.2.1 }
/-- what an abstract state says of the machine -/
def gm_SP (l : Launch) (G : gm_G) (L : Nat) (xs : Nat → Int32) : gm_X := fun m pc ls st h nc ns Q => ∀ q : gm_M, gm_PT[m]? = some q →
  ∀ (p : Program) (e : Env) (s : State) (mid : MethodId) (args : Array Value) (below : List Frame) (meth : Method) (c : Code) (H : Heap) (locs : List Loc) (lo : Array Slot),
    gm_Cx G L xs q p s mid args meth c → gm_WW G h H → va_S (gm_A G) s.heap H locs → lv_has lo q.2.2.1 (gm_al (gm_cv G) 0 ls) → ls.length = q.2.2.1 →
    W p l e (gm_rm q) s mid args below meth c H locs nc ns (MQ below (gm_Qc G q Q) args s q.2.2.2.2.2.2.2.2.1 q.2.2.2.2.2.2.2.2.2.1 (gm_A G)) (F0 mid pc lo (st.map (gm_cv G)))
end
section
/-! out of the tables' checks -/
theorem gm_find_mem : ∀ (l : List (Nat × Nat × gm_I)) (pc : Nat) (r : Nat × gm_I), gm_find pc l = some r → (pc, r) ∈ l
  | [], pc, r, h => by cases h
  | x :: t, pc, r, h => by
    unfold gm_find at h
    split at h
    · rename_i hx
      cases h
      rw [← hx]
      exact List.mem_cons_self
    · exact List.mem_cons_of_mem _ (gm_find_mem t pc r h)
theorem gm_fe {m pc nx lk a b : Nat} {ins : Instr} {z : Int} {q : gm_M} (hq : gm_PT[m]? = some q) (hf : gm_fetch m pc = some (nx, ins, lk, a, b, z)) : gm_c1 q.2.1 (pc, nx, ins, lk, a, b, z) = true ∧ gm_c2 q (pc, nx, ins, lk, a, b, z) = true := by
  unfold gm_fetch at hf
  rw [hq] at hf
  have h1 := gm_find_mem _ _ _ hf
  have h2 := List.all_eq_true.mp gm_ck q (List.mem_of_getElem? hq)
  have h3 := List.all_eq_true.mp h2 _ h1
  rw [Bool.and_eq_true] at h3
  exact h3
theorem gm_at {m pc nx lk a b : Nat} {ins : Instr} {z : Int} {q : gm_M} (hq : gm_PT[m]? = some q) (hf : gm_fetch m pc = some (nx, ins, lk, a, b, z)) (ht : gm_isTab ins = false) : nx = pc + gm_len ins ∧ decode q.2.1 pc = .ok (ins, gm_len ins) := by
  have h := (gm_fe hq hf).1
  unfold gm_c1 at h
  rw [Bool.and_eq_true, Bool.and_eq_true, ht, Bool.false_or] at h
  have h1 := of_decide_eq_true h.1.1
  have h2 : nx = pc + gm_len ins := of_decide_eq_true h.2
  refine ⟨h2, ?_⟩
  have h3 : decode q.2.1 pc = .ok (ins, nx - pc) := h1
  rw [h3, h2, Nat.add_sub_cancel_left]
theorem gm_atT {m pc nx lk a b : Nat} {ins : Instr} {z : Int} {q : gm_M} (hq : gm_PT[m]? = some q) (hf : gm_fetch m pc = some (nx, ins, lk, a, b, z)) : decode q.2.1 pc = .ok (ins, nx - pc) := by
  have h := (gm_fe hq hf).1
  unfold gm_c1 at h
  rw [Bool.and_eq_true, Bool.and_eq_true] at h
  exact of_decide_eq_true h.1.1
theorem gm_map_some {α β : Type} {x : Option α} {f : α → β} {y : β} (h : x.map f = some y) : ∃ a, x = some a ∧ f a = y := by
  cases x with
  | none => cases h
  | some a => exact ⟨a, rfl, Option.some.inj h⟩
theorem gm_any_some {α : Type} {x : Option α} {f : α → Bool} (h : x.any f = true) : ∃ a, x = some a ∧ f a = true := by
  cases x with
  | none => cases h
  | some a => exact ⟨a, rfl, h⟩
theorem gm_flk {own idx a b lk : Nat} (h : (gm_FT[lk]?).map (fun f => (f.1, f.2.1, f.2.2.1, f.2.2.2.1)) = some (own, idx, a, b)) : ∃ c, gm_cl[a]? = some c ∧ b < c.2.2 ∧ Cond.fieldLink (gm_own own) idx (c.2.1 b).1 (c.2.1 b).2.1 (c.2.1 b).2.2.1 ∈ gm_tbl := by
  obtain ⟨f, h1, h2⟩ := gm_map_some h
  obtain ⟨f1, f2, f3, f4, f5⟩ := f
  cases h2
  have h3 := List.all_eq_true.mp gm_ckF _ (List.mem_of_getElem? h1)
  obtain ⟨c, h4, h5⟩ := gm_any_some h3
  rw [Bool.and_eq_true] at h5
  exact ⟨c, h4, of_decide_eq_true h5.1, gm_in (of_decide_eq_true h5.2) rfl⟩
theorem gm_getL {m pc nx lk a b idx : Nat} {z : Int} {q : gm_M} (hq : gm_PT[m]? = some q) (hf : gm_fetch m pc = some (nx, .getfield idx, lk, a, b, z)) : ∃ c, gm_cl[a]? = some c ∧ b < c.2.2 ∧ Cond.fieldLink (gm_own q.2.2.2.2.1) idx (c.2.1 b).1 (c.2.1 b).2.1 (c.2.1 b).2.2.1 ∈ gm_tbl := gm_flk (of_decide_eq_true (gm_fe hq hf).2)
theorem gm_putL {m pc nx lk a b idx : Nat} {z : Int} {q : gm_M} (hq : gm_PT[m]? = some q) (hf : gm_fetch m pc = some (nx, .putfield idx, lk, a, b, z)) : ∃ c, gm_cl[a]? = some c ∧ b < c.2.2 ∧ Cond.fieldLink (gm_own q.2.2.2.2.1) idx (c.2.1 b).1 (c.2.1 b).2.1 (c.2.1 b).2.2.1 ∈ gm_tbl := gm_flk (of_decide_eq_true (gm_fe hq hf).2)
theorem gm_klk {own idx lk : Nat} {z : Int} (h : (gm_KT[lk]?).map (fun f => (f.1, f.2.1, f.2.2.1)) = some (own, idx, z)) : Cond.constant (gm_own own) idx (Int32.ofInt z) ∈ gm_tbl := by
  obtain ⟨f, h1, h2⟩ := gm_map_some h
  obtain ⟨f1, f2, f3, f4⟩ := f
  cases h2
  exact gm_in (of_decide_eq_true (List.all_eq_true.mp gm_ckK _ (List.mem_of_getElem? h1))) rfl
theorem gm_llk {own idx lk : Nat} {z : Int} (h : (gm_LT[lk]?).map (fun f => (f.1, f.2.1, f.2.2.1)) = some (own, idx, z)) : Cond.constantLong (gm_own own) idx (Int64.ofInt z) ∈ gm_tbl := by
  obtain ⟨f, h1, h2⟩ := gm_map_some h
  obtain ⟨f1, f2, f3, f4⟩ := f
  cases h2
  exact gm_in (of_decide_eq_true (List.all_eq_true.mp gm_ckJ _ (List.mem_of_getElem? h1))) rfl
theorem gm_clk {own idx lk a : Nat} (h : (gm_CT[lk]?).map (fun f => (f.1, f.2.1, f.2.2.1)) = some (own, idx, a)) : Cond.classLink (gm_own own) idx (gm_own a) ∈ gm_tbl := by
  obtain ⟨f, h1, h2⟩ := gm_map_some h
  obtain ⟨f1, f2, f3, f4⟩ := f
  cases h2
  exact gm_in (of_decide_eq_true (List.all_eq_true.mp gm_ckC _ (List.mem_of_getElem? h1))) rfl
theorem gm_mlk {own idx lk a b : Nat} (h : (gm_MT[lk]?).map (fun f => (f.1, f.2.1, f.2.2.1, f.2.2.2.1)) = some (own, idx, b, a)) : ∃ p, gm_mOk (own, idx, b, a, p) = true := by
  obtain ⟨f, h1, h2⟩ := gm_map_some h
  obtain ⟨f1, f2, f3, f4, f5⟩ := f
  cases h2
  exact ⟨f5, List.all_eq_true.mp gm_ckM _ (List.mem_of_getElem? h1)⟩
theorem gm_mlk0 {own idx a p : Nat} {q : gm_M} (hq : gm_PT[a]? = some q) (h : gm_mOk (own, idx, 0, a, p) = true) : Cond.methodLink (gm_own own) idx q.1 ∈ gm_tbl := by
  obtain ⟨q', h1, h2⟩ := gm_any_some (show (gm_PT[a]?).any (fun q => decide (lw_tbl[p]? = some (.methodLink (gm_own own) idx q.1))) = true from h)
  cases hq.symm.trans h1
  exact gm_in (of_decide_eq_true h2) rfl
theorem gm_mlk1 {own idx a p : Nat} {q : gm_M} (hq : gm_PT[a]? = some q) (h : gm_mOk (own, idx, 1, a, p) = true) : Cond.methodLinkNest (gm_own own) idx q.1 "GridMender" ∈ lw_tbl := by
  obtain ⟨q', h1, h2⟩ := gm_any_some (show (gm_PT[a]?).any (fun q => decide (lw_tbl[p]? = some (.methodLinkNest (gm_own own) idx q.1 "GridMender"))) = true from h)
  cases hq.symm.trans h1
  exact List.mem_of_getElem? (of_decide_eq_true h2)
/-- a method that may be called: its words -/
theorem gm_mw {a kd : Nat} {q : gm_M} (hq : gm_PT[a]? = some q) (hk : (gm_PP[a]?).map (fun r => r.2.2.2.2) = some kd) (h3 : ¬ kd = 3) (h4 : ¬ kd = 4) :
    (q.1.cls = gm_own q.2.2.2.2.1 ∧ plainName q.1.cls = true ∧ (q.1.cls ≠ "java/lang/invoke/MethodHandle" ∧ q.1.cls ≠ "java/lang/invoke/VarHandle" ∧ (parseMethodDescriptor q.1.desc).map (fun d => d.parameters.length) = some q.2.2.2.2.2.1)) ∧
    Cond.initialized q.1.cls ∈ gm_tbl ∧ Cond.code q.1 q.2.1 q.2.2.1 q.2.2.2.1 ∈ gm_tbl ∧
    (kd = 0 → Cond.instanceMethod q.1 ∈ gm_tbl ∧ Cond.selects q.1.cls q.1 q.1 ∈ gm_tbl) ∧ (kd = 1 → Cond.static q.1 ∈ gm_tbl) ∧ (kd = 2 → Cond.instanceMethod q.1 ∈ gm_tbl ∧ q.1.name = "<init>" ∧ q.2.2.2.1 = none) := by
  obtain ⟨r, hr, hk⟩ := gm_map_some hk
  have hz : (gm_PT.zip gm_PP)[a]? = some (q, r) := by rw [List.getElem?_zip_eq_some]; exact ⟨hq, hr⟩
  have h := List.all_eq_true.mp gm_ckP _ (List.mem_of_getElem? hz)
  have hlaw : ¬ q.2.2.2.2.1 = 12 := by
    have hl := List.all_eq_true.mp gm_ckW _ (List.mem_of_getElem? hz)
    rw [Bool.or_eq_true] at hl
    rcases hl with hl | hl
    · exact fun e => absurd (of_decide_eq_true hl) (by rw [e]; simp)
    · exact absurd ((of_decide_eq_true hl : r.2.2.2.2 = 3).symm.trans hk) (fun e => h3 e.symm)
  unfold gm_pOk at h
  obtain ⟨r1, r2, r3, r4, r5⟩ := r
  have hk' : r5 = kd := hk
  subst hk'
  simp only [h4, decide_false, Bool.false_or, h3, Bool.and_eq_true, decide_eq_true_eq, and_assoc] at h
  obtain ⟨e1, e2, e3, e4, e5, e6, e8⟩ := h
  have hcw : Cond.code q.1 q.2.1 q.2.2.1 q.2.2.2.1 ∈ lw_tbl := by
    rcases gm_cws q (List.mem_of_getElem? hq) with hz | hz
    · exact absurd hz hlaw
    · exact hz
  refine ⟨⟨e1, e2, e3, e4, e5⟩, gm_in e6 rfl, List.mem_filter.mpr ⟨hcw, rfl⟩, fun hz => ?_, fun hz => ?_, fun hz => ?_⟩
  · subst hz
    simp only [Bool.and_eq_true, decide_eq_true_eq] at e8
    exact ⟨gm_in e8.1 rfl, gm_in e8.2 rfl⟩
  · subst hz
    simp only [decide_eq_true_eq] at e8
    exact gm_in e8 rfl
  · subst hz
    simp only [Bool.and_eq_true, decide_eq_true_eq, and_assoc] at e8
    exact ⟨gm_in e8.1 rfl, e8.2.1, e8.2.2⟩
end
section
/-! each rule holds of the machine: instructions on the frame alone -/
theorem gm_lat {G : gm_G} {lo : Array Slot} {n : Nat} {ls : gm_L} (hl : lv_has lo n (gm_al (gm_cv G) 0 ls)) {k : Nat} {v : Value} (h : ls[k]? = some (some v)) : lo[k]? = some (.val (gm_cv G v)) := by
  have := hl.2.2 (k, gm_cv G v) ((gm_al_mem _ _ _ _).mpr ⟨k, v, h, by rw [Nat.zero_add]⟩)
  exact this
section GmA
variable (l : Launch) (G : gm_G) (L : Nat) (xs : Nat → Int32)
set_option maxHeartbeats 4000000 in
theorem sd_psh : rl_psh L xs (gm_SP l G L xs) := by
  intro m pc nx lk a b z ls st h nc ns Q ins v hf hv k q hq p e s mid args below meth c H locs lo C hW hS hl hn
  have K := k q hq p e s mid args below meth c H locs lo C hW hS hl hn
  obtain ⟨hx, hb, hml, hown, hts, -⟩ := C
  cases ins <;> first | (cases hv; done) | skip
  case aconst_null =>
    obtain ⟨rfl, hd⟩ := gm_at hq hf rfl
    cases hv
    exact lv_null hx hb hd K
  case bipush n =>
    obtain ⟨rfl, hd⟩ := gm_at hq hf rfl
    cases hv
    exact lv_bipush hx hb hd rfl K
  case iconst n =>
    obtain ⟨rfl, hd⟩ := gm_at hq hf rfl
    cases hv
    exact lv_iconst hx hb hd rfl K
  case lconst n =>
    obtain ⟨rfl, hd⟩ := gm_at hq hf rfl
    cases hv
    exact lv_lconst hx hb hd rfl K
  case ldc n =>
    obtain ⟨rfl, hd⟩ := gm_at hq hf rfl
    cases hv
    exact lv_ldc hx hb hown (hts _ (gm_klk (of_decide_eq_true (gm_fe hq hf).2))) hd K
  case ldc_w n =>
    obtain ⟨rfl, hd⟩ := gm_at hq hf rfl
    cases hv
    exact lv_ldcw hx hb hown (hts _ (gm_klk (of_decide_eq_true (gm_fe hq hf).2))) hd K
  case ldc2_w n =>
    obtain ⟨rfl, hd⟩ := gm_at hq hf rfl
    cases hv
    exact lv_ldc2 hx hb hown (hts _ (gm_llk (of_decide_eq_true (gm_fe hq hf).2))) hd K
  case sipush n =>
    obtain ⟨rfl, hd⟩ := gm_at hq hf rfl
    cases hv
    exact lv_sipush hx hb hd rfl K
set_option maxHeartbeats 4000000 in
theorem sd_ld : rl_ld L xs (gm_SP l G L xs) := by
  intro m pc nx lk a b z ls st h nc ns Q ins v k hf hv hk g q hq p e s mid args below meth c H locs lo C hW hS hl hn
  have K := g q hq p e s mid args below meth c H locs lo C hW hS hl hn
  obtain ⟨hx, hb, hml, hown, hts, -⟩ := C
  have ha := gm_lat hl hk
  cases ins <;> first | (cases hv; done) | skip
  case aload n =>
    obtain ⟨rfl, hd⟩ := gm_at hq hf rfl
    cases v <;> first | (simp [gm_ldi, gm_kd] at hv; done) | skip
    case null => simp [gm_ldi, gm_kd] at hv; subst hv; exact lv_aloadN hx hb hd ha K
    case ref r => simp [gm_ldi, gm_kd] at hv; subst hv; exact lv_aload hx hb hd ha K
    case retAddr r => simp [gm_ldi, gm_kd] at hv; subst hv; exact lv_aload hx hb hd ha K
  case aload_n n =>
    obtain ⟨rfl, hd⟩ := gm_at hq hf rfl
    cases v <;> first | (simp [gm_ldi, gm_kd] at hv; done) | skip
    case null => simp [gm_ldi, gm_kd] at hv; exact lv_aload_nN hx hb hd hv ha K
    case ref r => simp [gm_ldi, gm_kd] at hv; exact lv_aload_n hx hb hd hv ha K
    case retAddr r => simp [gm_ldi, gm_kd] at hv; exact lv_aload_n hx hb hd hv ha K
  case iload n =>
    obtain ⟨rfl, hd⟩ := gm_at hq hf rfl
    cases v <;> first | (simp [gm_ldi, gm_kd] at hv; done) | skip
    case int r => simp [gm_ldi, gm_kd] at hv; subst hv; exact lv_iload hx hb hd ha K
  case iload_n n =>
    obtain ⟨rfl, hd⟩ := gm_at hq hf rfl
    cases v <;> first | (simp [gm_ldi, gm_kd] at hv; done) | skip
    case int r => simp [gm_ldi, gm_kd] at hv; exact lv_iload_n hx hb hd hv ha K
  case lload n =>
    obtain ⟨rfl, hd⟩ := gm_at hq hf rfl
    cases v <;> first | (simp [gm_ldi, gm_kd] at hv; done) | skip
    case long r => simp [gm_ldi, gm_kd] at hv; subst hv; exact lv_lload hx hb hd ha K
  case lload_n n =>
    obtain ⟨rfl, hd⟩ := gm_at hq hf rfl
    cases v <;> first | (simp [gm_ldi, gm_kd] at hv; done) | skip
    case long r => simp [gm_ldi, gm_kd] at hv; exact lv_lload_n hx hb hd hv ha K
set_option maxHeartbeats 4000000 in
theorem sd_st1 : rl_st1 L xs (gm_SP l G L xs) := by
  intro m pc nx lk a b z ls st h nc ns Q ins v k hf hv h1 hk g q hq p e s mid args below meth c H locs lo C hW hS hl hn
  have K : ∀ lo', lv_has lo' q.2.2.1 ((k, gm_cv G v) :: (gm_al (gm_cv G) 0 ls).filter (fun q => !(q.1 == k) && !(q.1 + 1 == k && q.2.category == 2))) → _ := fun lo' hl' => g q hq p e s mid args below meth c H locs lo' C hW hS (gm_has_sub hl' (gm_s1_sub G ls k v)) (by rw [gm_s1_len]; exact hn)
  obtain ⟨hx, hb, hml, hown, hts, -⟩ := C
  have hkn : k < q.2.2.1 := by rw [← hn]; exact hk
  cases ins <;> first | (cases hv; done) | skip
  case astore n =>
    obtain ⟨rfl, hd⟩ := gm_at hq hf rfl
    cases v <;> first | (simp [gm_sti, gm_kd] at hv; done) | skip
    case null => simp [gm_sti, gm_kd] at hv; subst hv; exact lv_astoreN hx hb hd hl hkn rfl K
    case ref r => simp [gm_sti, gm_kd] at hv; subst hv; exact lv_astore hx hb hd hl hkn rfl K
    case retAddr r => simp [gm_sti, gm_kd] at hv; subst hv; exact lv_astore hx hb hd hl hkn rfl K
  case astore_n n =>
    obtain ⟨rfl, hd⟩ := gm_at hq hf rfl
    cases v <;> first | (simp [gm_sti, gm_kd] at hv; done) | skip
    case null => simp [gm_sti, gm_kd] at hv; exact lv_astore_nN hx hb hd hv hl hkn rfl K
    case ref r => simp [gm_sti, gm_kd] at hv; exact lv_astore_n hx hb hd hv hl hkn rfl K
    case retAddr r => simp [gm_sti, gm_kd] at hv; exact lv_astore_n hx hb hd hv hl hkn rfl K
  case istore n =>
    obtain ⟨rfl, hd⟩ := gm_at hq hf rfl
    cases v <;> first | (simp [gm_sti, gm_kd] at hv; done) | skip
    case int r => simp [gm_sti, gm_kd] at hv; subst hv; exact lv_istore hx hb hd hl hkn rfl K
  case istore_n n =>
    obtain ⟨rfl, hd⟩ := gm_at hq hf rfl
    cases v <;> first | (simp [gm_sti, gm_kd] at hv; done) | skip
    case int r => simp [gm_sti, gm_kd] at hv; exact lv_istore_n hx hb hd hv hl hkn rfl K
  case lstore n =>
    cases v <;> first | (simp [gm_sti, gm_kd] at hv; done) | exact absurd rfl h1
  case lstore_n n =>
    cases v <;> first | (simp [gm_sti, gm_kd] at hv; done) | exact absurd rfl h1
set_option maxHeartbeats 4000000 in
theorem sd_st2 : rl_st2 L xs (gm_SP l G L xs) := by
  intro m pc nx lk a b z ls st h nc ns Q ins x k hf hv hk g q hq p e s mid args below meth c H locs lo C hW hS hl hn
  have K : ∀ lo', lv_has lo' q.2.2.1 ((k, gm_cv G (.long x)) :: (gm_al (gm_cv G) 0 ls).filter (fun q => !(q.1 == k) && (!(q.1 == k + 1) && !(q.1 + 1 == k && q.2.category == 2)))) → _ := fun lo' hl' => g q hq p e s mid args below meth c H locs lo' C hW hS (gm_has_sub hl' (gm_s2_sub G ls k (.long x))) (by rw [gm_s2_len]; exact hn)
  obtain ⟨hx, hb, hml, hown, hts, -⟩ := C
  have hkn : k + 1 < q.2.2.1 := by rw [← hn]; exact hk
  cases ins <;> first | (cases hv; done) | (simp [gm_sti] at hv; done) | skip
  case lstore n =>
    obtain ⟨rfl, hd⟩ := gm_at hq hf rfl
    simp [gm_sti] at hv; subst hv
    exact lv_lstore hx hb hd hl hkn rfl K
  case lstore_n n =>
    obtain ⟨rfl, hd⟩ := gm_at hq hf rfl
    simp [gm_sti] at hv
    exact lv_lstore_n hx hb hd hv hl hkn rfl K
set_option maxHeartbeats 4000000 in
theorem sd_inc : rl_inc L xs (gm_SP l G L xs) := by
  intro m pc nx lk a b z ls st h nc ns Q k n x hf hk g q hq p e s mid args below meth c H locs lo C hW hS hl hn
  have K : ∀ lo', lv_has lo' q.2.2.1 ((k, gm_cv G (.int (x + Int32.ofInt n))) :: (gm_al (gm_cv G) 0 ls).filter (fun q => !(q.1 == k) && !(q.1 + 1 == k && q.2.category == 2))) → _ := fun lo' hl' => g q hq p e s mid args below meth c H locs lo' C hW hS (gm_has_sub hl' (gm_s1_sub G ls k (.int (x + Int32.ofInt n)))) (by rw [gm_s1_len]; exact hn)
  obtain ⟨hx, hb, hml, hown, hts, -⟩ := C
  have hkl : k < ls.length := (List.getElem?_eq_some_iff.mp hk).1
  have hkn : k < q.2.2.1 := by rw [← hn]; exact hkl
  obtain ⟨rfl, hd⟩ := gm_at hq hf rfl
  obtain ⟨i, hi⟩ := List.getElem?_of_mem ((gm_al_mem (gm_cv G) ls 0 (k, .int x)).mpr ⟨k, .int x, hk, by rw [Nat.zero_add]; rfl⟩)
  exact lv_iinc hx hb hd hl hi rfl hkn rfl K
set_option maxHeartbeats 4000000 in
theorem sd_bin : rl_bin L xs (gm_SP l G L xs) := by
  intro m pc nx lk a b z ls st h nc ns Q ins f x y hf hv g q hq p e s mid args below meth c H locs lo C hW hS hl hn
  have K := g q hq p e s mid args below meth c H locs lo C hW hS hl hn
  obtain ⟨hx, hb, hml, hown, hts, -⟩ := C
  cases ins <;> first | (cases hv; done) | skip
  case iadd => obtain ⟨rfl, hd⟩ := gm_at hq hf rfl; cases hv; exact lv_iadd hx hb hd K
  case isub => obtain ⟨rfl, hd⟩ := gm_at hq hf rfl; cases hv; exact lv_isub hx hb hd K
  case imul => obtain ⟨rfl, hd⟩ := gm_at hq hf rfl; cases hv; exact lv_imul hx hb hd K
  case iand => obtain ⟨rfl, hd⟩ := gm_at hq hf rfl; cases hv; exact lv_iand hx hb hd K
  case ior => obtain ⟨rfl, hd⟩ := gm_at hq hf rfl; cases hv; exact lv_ior hx hb hd K
  case ixor => obtain ⟨rfl, hd⟩ := gm_at hq hf rfl; cases hv; exact lv_ixor hx hb hd K
  case ishl => obtain ⟨rfl, hd⟩ := gm_at hq hf rfl; cases hv; exact lv_ishl hx hb hd K
  case iushr => obtain ⟨rfl, hd⟩ := gm_at hq hf rfl; cases hv; exact lv_iushr hx hb hd rfl K
set_option maxHeartbeats 4000000 in
theorem sd_div : rl_div L xs (gm_SP l G L xs) := by
  intro m pc nx lk a b z ls st h nc ns Q x y hf hv g q hq p e s mid args below meth c H locs lo C hW hS hl hn
  have K := g q hq p e s mid args below meth c H locs lo C hW hS hl hn
  obtain ⟨rfl, hd⟩ := gm_at hq hf rfl
  exact lv_idiv C.1 C.2.1 hd hv K
set_option maxHeartbeats 4000000 in
theorem sd_rem : rl_rem L xs (gm_SP l G L xs) := by
  intro m pc nx lk a b z ls st h nc ns Q x y hf hv g q hq p e s mid args below meth c H locs lo C hW hS hl hn
  have K := g q hq p e s mid args below meth c H locs lo C hW hS hl hn
  obtain ⟨rfl, hd⟩ := gm_at hq hf rfl
  exact lv_irem C.1 C.2.1 hd hv K
set_option maxHeartbeats 4000000 in
theorem sd_un : rl_un L xs (gm_SP l G L xs) := by
  intro m pc nx lk a b z ls st h nc ns Q ins f x hf hv g q hq p e s mid args below meth c H locs lo C hW hS hl hn
  have K := g q hq p e s mid args below meth c H locs lo C hW hS hl hn
  obtain ⟨hx, hb, hml, hown, hts, -⟩ := C
  cases ins <;> first | (cases hv; done) | skip
  case ineg => obtain ⟨rfl, hd⟩ := gm_at hq hf rfl; cases hv; exact lv_ineg hx hb hd K
  case i2c => obtain ⟨rfl, hd⟩ := gm_at hq hf rfl; cases hv; exact lv_i2c hx hb hd rfl K
set_option maxHeartbeats 4000000 in
theorem sd_binl : rl_binl L xs (gm_SP l G L xs) := by
  intro m pc nx lk a b z ls st h nc ns Q ins f x y hf hv g q hq p e s mid args below meth c H locs lo C hW hS hl hn
  have K := g q hq p e s mid args below meth c H locs lo C hW hS hl hn
  obtain ⟨hx, hb, hml, hown, hts, -⟩ := C
  cases ins <;> first | (cases hv; done) | skip
  case ladd => obtain ⟨rfl, hd⟩ := gm_at hq hf rfl; cases hv; exact lv_ladd hx hb hd K
  case lsub => obtain ⟨rfl, hd⟩ := gm_at hq hf rfl; cases hv; exact lv_lsub hx hb hd K
  case lmul => obtain ⟨rfl, hd⟩ := gm_at hq hf rfl; cases hv; exact lv_lmul hx hb hd K
  case land => obtain ⟨rfl, hd⟩ := gm_at hq hf rfl; cases hv; exact lv_land hx hb hd K
  case lor => obtain ⟨rfl, hd⟩ := gm_at hq hf rfl; cases hv; exact lv_lor hx hb hd K
set_option maxHeartbeats 4000000 in
theorem sd_shl : rl_shl L xs (gm_SP l G L xs) := by
  intro m pc nx lk a b z ls st h nc ns Q ins f x y hf hv g q hq p e s mid args below meth c H locs lo C hW hS hl hn
  have K := g q hq p e s mid args below meth c H locs lo C hW hS hl hn
  obtain ⟨hx, hb, hml, hown, hts, -⟩ := C
  cases ins <;> first | (cases hv; done) | skip
  case lshl => obtain ⟨rfl, hd⟩ := gm_at hq hf rfl; cases hv; exact lv_lshl hx hb hd rfl K
  case lshr => obtain ⟨rfl, hd⟩ := gm_at hq hf rfl; cases hv; exact lv_lshr hx hb hd rfl K
  case lushr => obtain ⟨rfl, hd⟩ := gm_at hq hf rfl; cases hv; exact lv_lushr hx hb hd rfl K
set_option maxHeartbeats 4000000 in
theorem sd_lcmp : rl_lcmp L xs (gm_SP l G L xs) := by
  intro m pc nx lk a b z ls st h nc ns Q x y hf g q hq p e s mid args below meth c H locs lo C hW hS hl hn
  have K := g q hq p e s mid args below meth c H locs lo C hW hS hl hn
  obtain ⟨rfl, hd⟩ := gm_at hq hf rfl
  exact W.lcmp C.1 C.2.1 hd K
set_option maxHeartbeats 4000000 in
theorem sd_i2l : rl_i2l L xs (gm_SP l G L xs) := by
  intro m pc nx lk a b z ls st h nc ns Q x hf g q hq p e s mid args below meth c H locs lo C hW hS hl hn
  have K := g q hq p e s mid args below meth c H locs lo C hW hS hl hn
  obtain ⟨rfl, hd⟩ := gm_at hq hf rfl
  exact lv_i2l C.1 C.2.1 hd rfl K
set_option maxHeartbeats 4000000 in
theorem sd_l2i : rl_l2i L xs (gm_SP l G L xs) := by
  intro m pc nx lk a b z ls st h nc ns Q x hf g q hq p e s mid args below meth c H locs lo C hW hS hl hn
  have K := g q hq p e s mid args below meth c H locs lo C hW hS hl hn
  obtain ⟨rfl, hd⟩ := gm_at hq hf rfl
  exact lv_l2i C.1 C.2.1 hd rfl K
set_option maxHeartbeats 4000000 in
theorem sd_dup : rl_dup L xs (gm_SP l G L xs) := by
  intro m pc nx lk a b z ls st h nc ns Q v hf hv g q hq p e s mid args below meth c H locs lo C hW hS hl hn
  have K := g q hq p e s mid args below meth c H locs lo C hW hS hl hn
  obtain ⟨rfl, hd⟩ := gm_at hq hf rfl
  exact lv_dup C.1 C.2.1 hd (by rw [gm_cv_cat]; exact hv) K
set_option maxHeartbeats 4000000 in
theorem sd_pop : rl_pop L xs (gm_SP l G L xs) := by
  intro m pc nx lk a b z ls st h nc ns Q v hf hv g q hq p e s mid args below meth c H locs lo C hW hS hl hn
  have K := g q hq p e s mid args below meth c H locs lo C hW hS hl hn
  obtain ⟨rfl, hd⟩ := gm_at hq hf rfl
  exact lv_pop C.1 C.2.1 hd (by rw [gm_cv_cat]; exact hv) K
set_option maxHeartbeats 4000000 in
theorem sd_dup2 : rl_dup2 L xs (gm_SP l G L xs) := by
  intro m pc nx lk a b z ls st h nc ns Q v w hf hv hw g q hq p e s mid args below meth c H locs lo C hW hS hl hn
  have K := g q hq p e s mid args below meth c H locs lo C hW hS hl hn
  obtain ⟨rfl, hd⟩ := gm_at hq hf rfl
  exact lv_dup2_11 C.1 C.2.1 hd (by rw [gm_cv_cat]; exact hv) (by rw [gm_cv_cat]; exact hw) K
set_option maxHeartbeats 4000000 in
theorem sd_if : rl_if L xs (gm_SP l G L xs) := by
  intro m pc nx lk a b z ls st h nc ns Q cd off x hf g0 g1 q hq p e s mid args below meth c H locs lo C hW hS hl hn
  have K0 := fun cc => g0 cc q hq p e s mid args below meth c H locs lo C hW hS hl hn
  have K1 := fun cc => g1 cc q hq p e s mid args below meth c H locs lo C hW hS hl hn
  have ht : (pc : Int) + off = (a : Int) := of_decide_eq_true (gm_fe hq hf).2
  obtain ⟨rfl, hd⟩ := gm_at hq hf rfl
  cases cd
  · exact lv_if_eq C.1 C.2.1 hd ht K0 K1
  · exact lv_if_ne C.1 C.2.1 hd ht K0 (fun hz => K1 (fun hn => hn hz))
  · exact lv_if_lt C.1 C.2.1 hd ht K0 K1
  · exact lv_if_ge C.1 C.2.1 hd ht K0 K1
  · exact lv_if_gt C.1 C.2.1 hd ht K0 K1
  · exact lv_if_le C.1 C.2.1 hd ht K0 K1
set_option maxHeartbeats 4000000 in
theorem sd_icmp : rl_icmp L xs (gm_SP l G L xs) := by
  intro m pc nx lk a b z ls st h nc ns Q cd off x y hf g0 g1 q hq p e s mid args below meth c H locs lo C hW hS hl hn
  have K0 := fun cc => g0 cc q hq p e s mid args below meth c H locs lo C hW hS hl hn
  have K1 := fun cc => g1 cc q hq p e s mid args below meth c H locs lo C hW hS hl hn
  have ht : (pc : Int) + off = (a : Int) := of_decide_eq_true (gm_fe hq hf).2
  obtain ⟨rfl, hd⟩ := gm_at hq hf rfl
  cases cd
  · exact lv_icmp_eq C.1 C.2.1 hd ht K0 K1
  · exact lv_icmp_ne C.1 C.2.1 hd ht K0 (fun hz => K1 (fun hn => hn hz))
  · exact lv_icmp_lt C.1 C.2.1 hd ht K0 K1
  · exact lv_icmp_ge C.1 C.2.1 hd ht K0 K1
  · exact lv_icmp_gt C.1 C.2.1 hd ht K0 K1
  · exact lv_icmp_le C.1 C.2.1 hd ht K0 K1
set_option maxHeartbeats 4000000 in
theorem sd_goto : rl_goto L xs (gm_SP l G L xs) := by
  intro m pc nx lk a b z ls st h nc ns Q off hf g q hq p e s mid args below meth c H locs lo C hW hS hl hn
  have ht : (pc : Int) + off = (a : Int) := of_decide_eq_true (gm_fe hq hf).2
  exact lv_goto C.1 C.2.1 (gm_at hq hf rfl).2 ht (g q hq p e s mid args below meth c H locs lo C hW hS hl hn)
set_option maxHeartbeats 4000000 in
theorem sd_ifnull : rl_ifnull L xs (gm_SP l G L xs) := by
  intro m pc nx lk a b z ls st h nc ns Q off r hf g q hq p e s mid args below meth c H locs lo C hW hS hl hn
  have K := g q hq p e s mid args below meth c H locs lo C hW hS hl hn
  obtain ⟨rfl, hd⟩ := gm_at hq hf rfl
  exact lv_ifnull C.1 C.2.1 hd K
set_option maxHeartbeats 4000000 in
theorem sd_ifnullN : rl_ifnullN L xs (gm_SP l G L xs) := by
  intro m pc nx lk a b z ls st h nc ns Q off hf g q hq p e s mid args below meth c H locs lo C hW hS hl hn
  have ht : (pc : Int) + off = (a : Int) := of_decide_eq_true (gm_fe hq hf).2
  exact lv_ifnullN C.1 C.2.1 (gm_at hq hf rfl).2 ht (g q hq p e s mid args below meth c H locs lo C hW hS hl hn)
set_option maxHeartbeats 4000000 in
theorem sd_ifnn : rl_ifnn L xs (gm_SP l G L xs) := by
  intro m pc nx lk a b z ls st h nc ns Q off r hf g q hq p e s mid args below meth c H locs lo C hW hS hl hn
  have ht : (pc : Int) + off = (a : Int) := of_decide_eq_true (gm_fe hq hf).2
  exact lv_ifnonnull C.1 C.2.1 (gm_at hq hf rfl).2 ht (g q hq p e s mid args below meth c H locs lo C hW hS hl hn)
set_option maxHeartbeats 4000000 in
theorem sd_ifnnN : rl_ifnnN L xs (gm_SP l G L xs) := by
  intro m pc nx lk a b z ls st h nc ns Q off hf g q hq p e s mid args below meth c H locs lo C hW hS hl hn
  have K := g q hq p e s mid args below meth c H locs lo C hW hS hl hn
  obtain ⟨rfl, hd⟩ := gm_at hq hf rfl
  exact lv_ifnonnullN C.1 C.2.1 hd K
set_option maxHeartbeats 4000000 in
theorem sd_tabO : rl_tabO L xs (gm_SP l G L xs) := by
  intro m pc nx lk a b z ls st h nc ns Q d lo1 hi offs x t hf h1 h2 g q hq p e s mid args below meth c H locs lo C hW hS hl hn
  exact lv_tableOut C.1 C.2.1 (gm_atT hq hf) h1 h2 (g q hq p e s mid args below meth c H locs lo C hW hS hl hn)
set_option maxHeartbeats 4000000 in
theorem sd_tabI : rl_tabI L xs (gm_SP l G L xs) := by
  intro m pc nx lk a b z ls st h nc ns Q d lo1 hi off offs x t hf h1 h2 h3 h4 g q hq p e s mid args below meth c H locs lo C hW hS hl hn
  exact lv_tableIn C.1 C.2.1 (gm_atT hq hf) h1 h2 h3 h4 (g q hq p e s mid args below meth c H locs lo C hW hS hl hn)
theorem gm_dr_get : ∀ (ks : List Nat) (ls : gm_L) (j : Nat) (v : Value), (gm_dr ls ks)[j]? = some (some v) → ls[j]? = some (some v)
  | [], ls, j, v, h => h
  | k :: ks, ls, j, v, h => by
    have h1 := gm_dr_get ks (ls.set k none) j v h
    rw [List.getElem?_set] at h1
    split at h1
    · split at h1 <;> cases h1
    · exact h1
theorem gm_dr_len : ∀ (ks : List Nat) (ls : gm_L), (gm_dr ls ks).length = ls.length
  | [], _ => rfl
  | k :: ks, ls => by rw [gm_dr, gm_dr_len ks, List.length_set]
theorem sd_drop : rl_drop L xs (gm_SP l G L xs) := by
  intro m pc ls st h nc ns Q ks g q hq p e s mid args below meth c H locs lo C hW hS hl hn
  refine g q hq p e s mid args below meth c H locs lo C hW hS (gm_has_sub hl fun x hx => ?_) (by rw [gm_dr_len]; exact hn)
  obtain ⟨j, v, h1, rfl⟩ := (gm_al_mem _ _ _ _).mp hx
  exact (gm_al_mem _ _ _ _).mpr ⟨j, v, gm_dr_get ks ls j v h1, rfl⟩
end GmA
end
section
/-! each rule holds of the machine: fields and arrays -/
theorem gm_cellE {G : gm_G} {h h2 : gm_H} {k : Nat} (e1 : h2.2.1 k = h.2.1 k) (e2 : h2.2.2.1 k = h.2.2.1 k) (e3 : h2.2.2.2 k = h.2.2.2 k) (x : Nat × Nat) : gm_cell G h2 k x = gm_cell G h k x := by
  rcases x with ⟨_ | _ | _ | _ | t, n⟩
  · simp only [gm_cell, gm_fv, e1, e2, e3]
  · simp only [gm_cell, e1]
  · simp only [gm_cell, e2]
  · simp only [gm_cell, e1]
  · simp only [gm_cell, e3]
theorem gm_upN {α : Type} {f : Nat → α} {k j : Nat} {v : α} (h : j ≠ k) : va_up f k v j = f j := by simp [va_up, h]
theorem gm_upS {α : Type} {f : Nat → α} {k : Nat} {v : α} : va_up f k v k = v := by simp [va_up]
theorem gm_cI {G : gm_G} {h : gm_H} {r k : Nat} {f : Nat → Int32} (hk : k ≠ r) (y : Nat × Nat) : gm_cell G (h.1, va_up h.2.1 r f, h.2.2.1, h.2.2.2) k y = gm_cell G h k y := gm_cellE (h := h) (h2 := (h.1, va_up h.2.1 r f, h.2.2.1, h.2.2.2)) (gm_upN hk) rfl rfl y
theorem gm_cJ {G : gm_G} {h : gm_H} {r k : Nat} {f : Nat → Int64} (hk : k ≠ r) (y : Nat × Nat) : gm_cell G (h.1, h.2.1, va_up h.2.2.1 r f, h.2.2.2) k y = gm_cell G h k y := gm_cellE (h := h) (h2 := (h.1, h.2.1, va_up h.2.2.1 r f, h.2.2.2)) rfl (gm_upN hk) rfl y
theorem gm_cR {G : gm_G} {h : gm_H} {r k : Nat} {f : Nat → Option Nat} (hk : k ≠ r) (y : Nat × Nat) : gm_cell G (h.1, h.2.1, h.2.2.1, va_up h.2.2.2 r f) k y = gm_cell G h k y := gm_cellE (h := h) (h2 := (h.1, h.2.1, h.2.2.1, va_up h.2.2.2 r f)) rfl rfl (gm_upN hk) y
theorem gm_cN {G : gm_G} {h : gm_H} {sh : List (Nat × Nat)} {r k : Nat} {f : Nat → Int32} {f2 : Nat → Int64} {f3 : Nat → Option Nat} (hk : k < r) (y : Nat × Nat) : gm_cell G (sh, va_up h.2.1 r f, va_up h.2.2.1 r f2, va_up h.2.2.2 r f3) k y = gm_cell G h k y := gm_cellE (h := h) (h2 := (sh, va_up h.2.1 r f, va_up h.2.2.1 r f2, va_up h.2.2.2 r f3)) (gm_upN (Nat.ne_of_lt hk)) (gm_upN (Nat.ne_of_lt hk)) (gm_upN (Nat.ne_of_lt hk)) y
theorem gm_WW.set {G : gm_G} {h h2 : gm_H} {r : Nat} {kd : Nat × Nat} {H H1 : Heap} (hW : gm_WW G h H) (hr : h.1[r]? = some kd) (hs : h2.1 = h.1) (ho : ∀ k x, k ≠ r → gm_cell G h2 k x = gm_cell G h k x) (he : va_at G.2.2.2 gm_cl (G.1 + r, gm_cell G h2 r kd) H1) (z : H1.size = H.size) (oq : ∀ q : Nat, q ≠ G.1 + r → H1[q]? = H[q]?) : gm_WW G h2 H1 := by
  refine ⟨by rw [z, hs]; exact hW.1, ?_⟩
  rw [gm_ws_set hr hs ho rfl]
  exact hW.2.set (gm_wsD G h) (gm_ws_get hr) he oq
theorem gm_sS {G : gm_G} {H0 H H1 : Heap} {locs : List Loc} {r k : Nat} (hS : va_S (gm_A G) H0 H locs) (z : H1.size = H.size) (oq : ∀ q : Nat, q ≠ G.1 + r → H1[q]? = H[q]?) : va_S (gm_A G) H0 H1 (locs ++ [⟨G.1 + r, k⟩]) := hS.put z oq (Nat.le_add_right _ _)
theorem gm_fsAt (G : gm_G) (h : gm_H) (r ci : Nat) {c : vw_C} (hc : gm_cl[ci]? = some c) {k : Nat} (hk : k < c.2.2) : ((List.range (gm_nf ci)).map fun f => gm_cv G (gm_fv h r ci f))[k]? = some (gm_cv G (gm_fv h r ci k)) := by
  have hn : gm_nf ci = c.2.2 := by unfold gm_nf; rw [hc]
  rw [List.getElem?_map, List.getElem?_range (by rw [hn]; exact hk)]
  rfl
theorem gm_fsV (G : gm_G) (h : gm_H) (r ci : Nat) {c : vw_C} (hc : gm_cl[ci]? = some c) {k : Nat} (hk : k < c.2.2) : vp_V ((List.range (gm_nf ci)).map fun f => gm_cv G (gm_fv h r ci f)) k = gm_cv G (gm_fv h r ci k) := by
  unfold vp_V
  rw [List.getD_eq_getElem?_getD, gm_fsAt G h r ci hc hk]
  rfl
section GmB
variable {p : Program} {l : Launch} {e : Env} {R : Room} {s : State} {mid : MethodId} {args : Array Value} {below : List Frame} {meth : Method} {cd : Code} {H : Heap} {locs : List Loc} {cells slots : Nat} {Qf : State → Prop}
variable {cc : ByteArray} {pc : Nat} {lo : Array Slot} {rest : List Value} {G : gm_G} {h h2 : gm_H} {H0 : Heap} {own : String} {idx r ci k : Nat} {c : vw_C} {v : Value}
set_option maxHeartbeats 4000000 in
theorem gm_putW (hx : p.tables.exec = Jvm.exec) (hb : cd.code = cc) (hts : ∀ w ∈ gm_tbl, w.before args s = true) (hown : s.vm.findClass own = some mid.cls) (hK : va_K G.2.2.2 gm_cl (gm_tl G.2.2.1) s) (hW : gm_WW G h H) (hS : va_S (gm_A G) H0 H locs)
    (hr : h.1[r]? = some (0, ci)) (hc : gm_cl[ci]? = some c) (hk : k < c.2.2) (hlink : (Cond.fieldLink own idx (c.2.1 k).1 (c.2.1 k).2.1 (c.2.1 k).2.2.1).before args s = true)
    (hfin : (c.2.1 k).2.2.2 = false ∨ ((c.2.1 k).2.2.2 = true ∧ meth.name = "<init>" ∧ (c.2.1 k).1 = own)) (hn : narrow (gm_ty ci k) v = v) (hfit : fits (gm_ty ci k) v = true) (hdg : decode cc pc = .ok (.putfield idx, 3))
    (hs : h2.1 = h.1) (ho : ∀ k x, k ≠ r → gm_cell G h2 k x = gm_cell G h k x) (hv : ∀ j, j < c.2.2 → (if j = k then v else gm_cv G (gm_fv h r ci j)) = gm_cv G (gm_fv h2 r ci j))
    (kk : ∀ (H1 : Heap) (locs1 : List Loc), gm_WW G h2 H1 → va_S (gm_A G) H0 H1 locs1 → W p l e R s mid args below meth cd H1 locs1 cells slots Qf (F0 mid (pc + 3) lo rest)) : W p l e R s mid args below meth cd H locs cells slots Qf (F0 mid pc lo (v :: .ref (G.1 + r) :: rest)) := by
  have hin := gm_uws hc
  have hty := gm_tyok hc
  have hnm := gm_nmok hc
  have hap := va_apart (own := own) (ci := ci) (args := args) (s := s) (D := G.2.2.2) (cl := gm_cl) (tys := gm_tl G.2.2.1) (C := c.1) (T := c.2.1) (N := c.2.2) hts hin (gm_ty ci) hty hnm hK hc
  obtain ⟨rr, h1, cell, q1, q2, q3, q4⟩ := hW.2 r _ (gm_ws_get hr)
  have hrr : rr = c := Option.some.inj (h1.symm.trans hc)
  subst hrr
  obtain ⟨hSl, hfc, kC, hkC, hkind⟩ := hK.1 ci _ hc
  obtain ⟨cf, kf, fi, f, hi, hsl⟩ := hSl k hk
  have hst := (u_facts hfc hkC (u_lays hts hin hk) hi).1
  have hlay := hts _ (hin _ (u_in_lay hk))
  have close : ∀ (H' : Heap), H'[G.1 + r]? = some (cell.setSlot f.slot v) → H'.size = H.size → (∀ q : Nat, q ≠ G.1 + r → H'[q]? = H[q]?) → W p l e R s mid args below meth cd H' (locs ++ [⟨G.1 + r, f.slot⟩]) cells slots Qf (F0 mid (pc + 3) lo rest) := by
    intro H' e1 e2 e3
    rw [hsl] at e1
    refine kk H' _ (hW.set hr hs ho ⟨_, hc, t_OB.to (V := updV (vp_V ((List.range (gm_nf ci)).map fun f => gm_cv G (gm_fv h r ci f))) k v) ⟨_, e1, q2, q3, t_set q4 hap hk v⟩ (fun j hj => ?_)⟩ e2 e3) (gm_sS hS e2 e3)
    rw [gm_fsV G h2 r ci hc hj, ← hv j hj]
    by_cases hjk : j = k
    · subst hjk
      simp [updV]
    · rw [if_neg hjk]
      simp only [updV, if_neg hjk]
      exact gm_fsV G h r ci hc hj
  unfold u_lay at hlay
  rcases hfin with hfin | ⟨hfin, hin2, hdecl⟩
  · rw [if_neg (by rw [hfin]; decide)] at hlay
    have h6 := u_store hfc hkC hkind hlay hi (hty k hk) hn hfit
    exact W.putK hx hb (f := f) ⟨hown, hlink, ⟨_, _, _, hi⟩, hst⟩ (by rw [q2]; exact h6) q1 q3 (by rw [hsl]; exact k2_hasslot (q4 k hk)) rfl rfl hdg close
  · rw [if_pos hfin] at hlay
    have hcf : mid.cls = cf := by
      obtain ⟨_, _, c', _, _, _, -, -, hf', -, -, -, hown2, -⟩ := Cond.laysFinal_spec hlay
      have e1 : c' = cf := by have := hi.symm.trans hf'; simp at this; exact this.1.symm
      rw [hdecl] at hown2
      rw [← e1]; exact Option.some.inj (hown.symm.trans hown2)
    have h6 := u_fits hfc hkC hkind (Or.inr hlay) hi (hty k hk) hn hfit
    exact W.putFinK hx hb hown hlink hi hst hcf hin2 (by rw [q2]; exact h6) q1 q3 (by rw [hsl]; exact k2_hasslot (q4 k hk)) rfl rfl hdg close
end GmB
theorem gm_setI (cA : ClassId) (n j : Nat) (f : Nat → Int32) (x : Int32) : (vp_cell cA (n, .inl f)).setSlot j (.int x) = vp_cell cA (n, .inl (va_up f j x)) := by
  rw [vp_cell_i, vp_cell_i, arrV_store]
  congr 1
  funext q
  by_cases hq : q = j
  · subst hq; simp [updV, va_up]
  · simp [updV, va_up, hq]
theorem gm_setL (cA : ClassId) (n j : Nat) (f : Nat → Int64) (x : Int64) : (vp_cell cA (n, .inr (.inl f))).setSlot j (.long x) = vp_cell cA (n, .inr (.inl (va_up f j x))) := by
  rw [vp_cell_l, vp_cell_l, arrV_store]
  congr 1
  funext q
  by_cases hq : q = j
  · subst hq; simp [updV, va_up]
  · simp [updV, va_up, hq]
theorem gm_setR (cA : ClassId) (n j : Nat) (f : Nat → Option Nat) (x : Nat) : (vp_cell cA (n, .inr (.inr (.inr (.inr f))))).setSlot j (.ref x) = vp_cell cA (n, .inr (.inr (.inr (.inr (va_up f j (some x)))))) := by
  rw [vp_cell_q, vp_cell_q, arrV_store]
  congr 1
  funext q
  by_cases hq : q = j
  · subst hq; simp [updV, va_up, va_rf]
  · simp [updV, va_up, hq]
theorem gm_finE {ci k : Nat} {c : vw_C} (hc : gm_cl[ci]? = some c) : gm_fin ci k = (c.2.1 k).2.2.2 := by unfold gm_fin; rw [hc]
theorem gm_ftt0 {t : FieldType} (h : gm_ftt t = 0) : t = .int ∨ t = .boolean := by cases t <;> simp [gm_ftt] at h <;> simp
theorem gm_ftt1 {t : FieldType} (h : gm_ftt t = 1) : t = .long := by cases t <;> simp [gm_ftt] at h <;> simp
theorem gm_fvI {h : gm_H} {r ci k : Nat} (e : gm_ft ci k = 0) : gm_fv h r ci k = .int (h.2.1 r k) := by unfold gm_fv; rw [e]; rfl
theorem gm_fvL {h : gm_H} {r ci k : Nat} (e : gm_ft ci k = 1) : gm_fv h r ci k = .long (h.2.2.1 r k) := by unfold gm_fv; rw [e]; rfl
theorem gm_fvR {h : gm_H} {r ci k : Nat} (e : gm_ft ci k = 2) : gm_fv h r ci k = gm_ov (h.2.2.2 r k) := by unfold gm_fv; rw [e]; rfl
theorem gm_fvE {h h2 : gm_H} {r ci k : Nat} (e1 : h2.2.1 r k = h.2.1 r k) (e2 : h2.2.2.1 r k = h.2.2.1 r k) (e3 : h2.2.2.2 r k = h.2.2.2 r k) : gm_fv h2 r ci k = gm_fv h r ci k := by unfold gm_fv; rw [e1, e2, e3]
theorem gm_cvov (G : gm_G) (r : Option Nat) : gm_cv G (gm_ov r) = va_rf (r.map fun x => G.1 + x) := by cases r <;> rfl
section GmC
variable (l : Launch) (G : gm_G) (L : Nat) (xs : Nat → Int32)
set_option maxHeartbeats 4000000 in
theorem sd_get : rl_get L xs (gm_SP l G L xs) := by
  intro m pc nx lk a b z ls st h nc ns Q idx r hf hr g q hq p e s mid args below meth c H locs lo C hW hS hl hn
  have K := g q hq p e s mid args below meth c H locs lo C hW hS hl hn
  obtain ⟨hx, hb, hml, hown, hts, hN, hK, -⟩ := C
  obtain ⟨cw, hc, hk, hw⟩ := gm_getL hq hf
  obtain ⟨rfl, hd⟩ := gm_at hq hf rfl
  obtain ⟨cC, cT, cN⟩ := cw
  exact va_get hx hb hts (gm_uws hc) hown hK hW.2 r (gm_ws_get hr) hc b hk (hts _ hw) (fun x h => h) (gm_fsAt G h r a hc hk) hd K
set_option maxHeartbeats 4000000 in
theorem sd_puti : rl_puti L xs (gm_SP l G L xs) := by
  intro m pc nx lk a b z ls st h nc ns Q idx r x hf hr h0 hfin hbo g q hq p e s mid args below meth c H locs lo C hW hS hl hn
  have K := fun H1 locs1 hW1 hS1 => g q hq p e s mid args below meth c H1 locs1 lo C hW1 hS1 hl hn
  obtain ⟨hx, hb, hml, hown, hts, hN, hK, -⟩ := C
  obtain ⟨cw, hc, hk, hw⟩ := gm_putL hq hf
  obtain ⟨rfl, hd⟩ := gm_at hq hf rfl
  have hnar : narrow (gm_ty a b) (.int x) = .int x ∧ fits (gm_ty a b) (.int x) = true := by
    rcases gm_ftt0 h0 with ht | ht
    · rw [ht]; exact ⟨rfl, rfl⟩
    · rw [ht]
      rcases hbo ht with rfl | rfl <;> exact ⟨by decide, by decide⟩
  refine gm_putW (h2 := (h.1, va_up h.2.1 r (va_up (h.2.1 r) b x), h.2.2.1, h.2.2.2)) hx hb hts hown hK hW hS hr hc hk (hts _ hw) (Or.inl (by rw [← gm_finE hc]; exact hfin)) hnar.1 hnar.2 hd rfl (fun k y hkr => gm_cI hkr y) (fun j hj => ?_) K
  by_cases hjb : j = b
  · subst hjb
    rw [if_pos rfl, gm_fvI h0]
    simp [va_up, gm_cv]
  · rw [if_neg hjb]
    refine congrArg _ (Eq.symm ?_)
    exact gm_fvE (h := h) (h2 := (h.1, va_up h.2.1 r (va_up (h.2.1 r) b x), h.2.2.1, h.2.2.2)) (by simp [va_up, hjb]) rfl rfl
set_option maxHeartbeats 4000000 in
theorem sd_putl : rl_putl L xs (gm_SP l G L xs) := by
  intro m pc nx lk a b z ls st h nc ns Q idx r x hf hr h0 hfin g q hq p e s mid args below meth c H locs lo C hW hS hl hn
  have K := fun H1 locs1 hW1 hS1 => g q hq p e s mid args below meth c H1 locs1 lo C hW1 hS1 hl hn
  obtain ⟨hx, hb, hml, hown, hts, hN, hK, -⟩ := C
  obtain ⟨cw, hc, hk, hw⟩ := gm_putL hq hf
  obtain ⟨rfl, hd⟩ := gm_at hq hf rfl
  have hnar : narrow (gm_ty a b) (.long x) = .long x ∧ fits (gm_ty a b) (.long x) = true := by
    rw [gm_ftt1 h0]; exact ⟨rfl, rfl⟩
  refine gm_putW (h2 := (h.1, h.2.1, va_up h.2.2.1 r (va_up (h.2.2.1 r) b x), h.2.2.2)) hx hb hts hown hK hW hS hr hc hk (hts _ hw) (Or.inl (by rw [← gm_finE hc]; exact hfin)) hnar.1 hnar.2 hd rfl (fun k y hkr => gm_cJ hkr y) (fun j hj => ?_) K
  by_cases hjb : j = b
  · subst hjb
    rw [if_pos rfl, gm_fvL h0]
    simp [va_up, gm_cv]
  · rw [if_neg hjb]
    refine congrArg _ (Eq.symm ?_)
    exact gm_fvE (h := h) (h2 := (h.1, h.2.1, va_up h.2.2.1 r (va_up (h.2.2.1 r) b x), h.2.2.2)) rfl (by simp [va_up, hjb]) rfl
theorem gm_refty {a b : Nat} (h0 : gm_ft a b = 2) (w : Nat) (hs : gm_ty a b ≠ .byte ∧ gm_ty a b ≠ .char ∧ gm_ty a b ≠ .short ∧ gm_ty a b ≠ .float ∧ gm_ty a b ≠ .double) : narrow (gm_ty a b) (.ref w) = .ref w ∧ fits (gm_ty a b) (.ref w) = true := by
  unfold gm_ft at h0
  generalize gm_ty a b = t at h0 hs
  cases t <;> simp_all [gm_ftt, narrow, fits]
set_option maxHeartbeats 4000000 in
theorem gm_tyno : ∀ ci k : Nat, gm_ty ci k ≠ .byte ∧ gm_ty ci k ≠ .char ∧ gm_ty ci k ≠ .short ∧ gm_ty ci k ≠ .float ∧ gm_ty ci k ≠ .double := by
  intro ci k
  have key : ∀ f ∈ gm_tys, ∀ k, f k ≠ .byte ∧ f k ≠ .char ∧ f k ≠ .short ∧ f k ≠ .float ∧ f k ≠ .double := by
    intro f hf k
    simp only [gm_tys, List.mem_cons, List.not_mem_nil, or_false] at hf
    rcases hf with rfl | rfl | rfl | rfl | rfl | rfl | rfl | rfl
    · unfold tyX0; split <;> simp
    · unfold tyX1; split <;> simp
    · unfold tyX2; split <;> simp
    · unfold tyX3; split <;> simp
    · unfold tyX4; split <;> simp
    · unfold tyX5; split <;> simp
    · unfold tyX6; split <;> simp
    · unfold tyX7; split <;> simp
  unfold gm_ty
  apply key
  rw [List.getD_eq_getElem?_getD]
  cases hx : gm_tys[ci]? with
  | none => exact List.mem_cons_self
  | some y => exact List.mem_of_getElem? hx
set_option maxHeartbeats 4000000 in
theorem sd_putr : rl_putr L xs (gm_SP l G L xs) := by
  intro m pc nx lk a b z ls st h nc ns Q q0 idx r w hf hr h0 hfin hq0 hini hoa g q hq p e s mid args below meth c H locs lo C hW hS hl hn
  have K := fun H1 locs1 hW1 hS1 => g q hq p e s mid args below meth c H1 locs1 lo C hW1 hS1 hl hn
  have hqe : q = q0 := Option.some.inj (hq.symm.trans hq0)
  subst hqe
  obtain ⟨hx, hb, hml, hown, hts, hN, hK, -, -, -, -, -, hi⟩ := C
  obtain ⟨cw, hc, hk, hw⟩ := gm_putL hq hf
  obtain ⟨rfl, hd⟩ := gm_at hq hf rfl
  have hnar := gm_refty h0 (G.1 + w) (gm_tyno a b)
  have hcn := gm_clnm hc
  refine gm_putW (h2 := (h.1, h.2.1, h.2.2.1, va_up h.2.2.2 r (va_up (h.2.2.2 r) b (some w)))) hx hb hts hown hK hW hS hr hc hk (hts _ hw) (Or.inr ⟨by rw [← gm_finE hc]; exact hfin, hi hini, by rw [hcn.2 b, hoa, hcn.1]⟩) hnar.1 hnar.2 hd rfl (fun k y hkr => gm_cR hkr y) (fun j hj => ?_) K
  by_cases hjb : j = b
  · subst hjb
    rw [if_pos rfl, gm_fvR h0]
    simp [va_up, gm_cv, gm_ov]
  · rw [if_neg hjb]
    refine congrArg _ (Eq.symm ?_)
    exact gm_fvE (h := h) (h2 := (h.1, h.2.1, h.2.2.1, va_up h.2.2.2 r (va_up (h.2.2.2 r) b (some w)))) rfl rfl (by simp [va_up, hjb])
set_option maxHeartbeats 4000000 in
theorem sd_iald : rl_iald L xs (gm_SP l G L xs) := by
  intro m pc nx lk a b z ls st h nc ns Q r n i hf hr hi g q hq p e s mid args below meth c H locs lo C hW hS hl hn
  have K := g q hq p e s mid args below meth c H locs lo C hW hS hl hn
  obtain ⟨hx, hb, hml, hown, hts, hN, hK, -⟩ := C
  obtain ⟨rfl, hd⟩ := gm_at hq hf rfl
  exact va_iald hx hb hK hW.2 r 0 (gm_ws_get hr) rfl hi hd K
set_option maxHeartbeats 4000000 in
theorem sd_lald : rl_lald L xs (gm_SP l G L xs) := by
  intro m pc nx lk a b z ls st h nc ns Q r n i hf hr hi g q hq p e s mid args below meth c H locs lo C hW hS hl hn
  have K := g q hq p e s mid args below meth c H locs lo C hW hS hl hn
  obtain ⟨hx, hb, hml, hown, hts, hN, hK, -⟩ := C
  obtain ⟨rfl, hd⟩ := gm_at hq hf rfl
  exact va_lald hx hb hK hW.2 r 1 (gm_ws_get hr) rfl hi hd K
set_option maxHeartbeats 4000000 in
theorem sd_zald : rl_zald L xs (gm_SP l G L xs) := by
  intro m pc nx lk a b z ls st h nc ns Q r n i hf hr hi g q hq p e s mid args below meth c H locs lo C hW hS hl hn
  have K := g q hq p e s mid args below meth c H locs lo C hW hS hl hn
  obtain ⟨hx, hb, hml, hown, hts, hN, hK, -⟩ := C
  obtain ⟨rfl, hd⟩ := gm_at hq hf rfl
  exact va_zald hx hb hK hW.2 r 2 (gm_ws_get hr) rfl hi hd K
set_option maxHeartbeats 4000000 in
theorem sd_aald : rl_aald L xs (gm_SP l G L xs) := by
  intro m pc nx lk a b z ls st h nc ns Q r n j i hf hr hi hj g q hq p e s mid args below meth c H locs lo C hW hS hl hn
  have K := g q hq p e s mid args below meth c H locs lo C hW hS hl hn
  obtain ⟨hx, hb, hml, hown, hts, hN, hK, -⟩ := C
  obtain ⟨rfl, hd⟩ := gm_at hq hf rfl
  refine va_aldq hx hb hK hW.2 r (gm_oid j) (gm_ws_get hr) (gm_tl_o hj) hi hd ?_
  rw [List.map_cons, gm_cvov] at K
  exact K
set_option maxHeartbeats 4000000 in
theorem sd_iast : rl_iast L xs (gm_SP l G L xs) := by
  intro m pc nx lk a b z ls st h nc ns Q r n i x hf hr hi g q hq p e s mid args below meth c H locs lo C hW hS hl hn
  have K := fun H1 locs1 hW1 hS1 => g q hq p e s mid args below meth c H1 locs1 lo C hW1 hS1 hl hn
  obtain ⟨hx, hb, hml, hown, hts, hN, hK, -⟩ := C
  obtain ⟨rfl, hd⟩ := gm_at hq hf rfl
  refine W.iast hx hb (hW.2 r _ (gm_ws_get hr)) ((hK.2 0 _ rfl).1 n (fun j => .int (h.2.1 r j))) (fun q => by cases q) (by show ¬ (i < 0 ∨ (arrV _ _ _).slots.size ≤ _); rw [arrV_size]; exact hi) rfl rfl hd fun H1 e1 z1 oq => ?_
  refine K H1 _ (hW.set hr rfl (fun k y hkr => gm_cI hkr y) ?_ z1 oq) (gm_sS hS z1 oq)
  rw [gm_setI] at e1
  show H1[G.1 + r]? = some (vp_cell _ (n, .inl (va_up h.2.1 r (va_up (h.2.1 r) i.toNatClampNeg x) r)))
  rw [gm_upS]
  exact e1
set_option maxHeartbeats 4000000 in
theorem sd_last : rl_last L xs (gm_SP l G L xs) := by
  intro m pc nx lk a b z ls st h nc ns Q r n i x hf hr hi g q hq p e s mid args below meth c H locs lo C hW hS hl hn
  have K := fun H1 locs1 hW1 hS1 => g q hq p e s mid args below meth c H1 locs1 lo C hW1 hS1 hl hn
  obtain ⟨hx, hb, hml, hown, hts, hN, hK, -⟩ := C
  obtain ⟨rfl, hd⟩ := gm_at hq hf rfl
  refine W.last hx hb (hW.2 r _ (gm_ws_get hr)) ((hK.2 1 _ rfl).1 n (fun j => .long (h.2.2.1 r j))) (fun q => by cases q) (by show ¬ (i < 0 ∨ (arrV _ _ _).slots.size ≤ _); rw [arrV_size]; exact hi) rfl rfl hd fun H1 e1 z1 oq => ?_
  refine K H1 _ (hW.set hr rfl (fun k y hkr => gm_cJ hkr y) ?_ z1 oq) (gm_sS hS z1 oq)
  rw [gm_setL] at e1
  show H1[G.1 + r]? = some (vp_cell _ (n, .inr (.inl (va_up h.2.2.1 r (va_up (h.2.2.1 r) i.toNatClampNeg x) r))))
  rw [gm_upS]
  exact e1
set_option maxHeartbeats 4000000 in
theorem sd_zast : rl_zast L xs (gm_SP l G L xs) := by
  intro m pc nx lk a b z ls st h nc ns Q r n i x hf hr hi hx01 g q hq p e s mid args below meth c H locs lo C hW hS hl hn
  have K := fun H1 locs1 hW1 hS1 => g q hq p e s mid args below meth c H1 locs1 lo C hW1 hS1 hl hn
  obtain ⟨hx, hb, hml, hown, hts, hN, hK, -⟩ := C
  obtain ⟨rfl, hd⟩ := gm_at hq hf rfl
  have hnx : narrow .boolean (.int x) = .int x := by rcases hx01 with rfl | rfl <;> decide
  refine W.zast hx hb (hW.2 r _ (gm_ws_get hr)) ((hK.2 2 _ rfl).1 n (fun j => .int (h.2.1 r j))) (fun q => by cases q) (by show ¬ (i < 0 ∨ (arrV _ _ _).slots.size ≤ _); rw [arrV_size]; exact hi) rfl rfl hd fun H1 e1 z1 oq => ?_
  refine K H1 _ (hW.set hr rfl (fun k y hkr => gm_cI hkr y) ?_ z1 oq) (gm_sS hS z1 oq)
  rw [hnx, gm_setI] at e1
  show H1[G.1 + r]? = some (vp_cell _ (n, .inl (va_up h.2.1 r (va_up (h.2.1 r) i.toNatClampNeg x) r)))
  rw [gm_upS]
  exact e1
theorem gm_oc {j : Nat} (hj : j = 2 ∨ j = 5) : ∃ c, gm_cl[j]? = some c ∧ c.1 = gm_otn j := by
  rcases hj with rfl | rfl <;> exact ⟨_, rfl, rfl⟩
set_option maxHeartbeats 4000000 in
theorem sd_aast : rl_aast L xs (gm_SP l G L xs) := by
  intro m pc nx lk a b z ls st h nc ns Q r n j w i hf hr hi hw hj g q hq p e s mid args below meth c H locs lo C hW hS hl hn
  have K := fun H1 locs1 hW1 hS1 => g q hq p e s mid args below meth c H1 locs1 lo C hW1 hS1 hl hn
  obtain ⟨hx, hb, hml, hown, hts, hN, hK, -⟩ := C
  obtain ⟨rfl, hd⟩ := gm_at hq hf rfl
  have hlt : i.toNatClampNeg < n := Nat.not_le.mp fun q => hi (Or.inr q)
  have h0 : ¬ i < 0 := fun q => hi (Or.inl q)
  obtain ⟨cw, hcw, hcn⟩ := gm_oc hj
  obtain ⟨r', hr', cellV, g1, g2, g3, -⟩ := hW.2 w _ (gm_ws_get hw)
  have hcls := (hK.1 j cw hcw).2
  obtain ⟨kA, comp, k1, k2, k3, -⟩ := (hK.2 _ _ (gm_tl_o hj)).2
  have hcomp : comp = G.2.2.2.1 j := Option.some.inj (k3.symm.trans (by rw [← hcn]; exact hcls.1))
  subst hcomp
  obtain ⟨kC, hkC, -⟩ := hcls.2
  refine W.aast hx hb (hW.2 r _ (gm_ws_get hr)) (fun q h => by cases h) (fun h => by cases h) k1 k2 rfl hkC ⟨h0, by show _ < (arrV _ _ _).slots.size; rw [arrV_size]; exact hlt⟩ g1 (fun q h => by rw [g3] at h; cases h) (by rw [g2]; exact hkC) (by rw [g2]; exact va_assign hcls) rfl rfl hd fun H1 e1 z1 oq => ?_
  refine K H1 _ (hW.set hr rfl (fun k y hkr => gm_cR hkr y) ?_ z1 oq) (gm_sS hS z1 oq)
  have e2 : H1[G.1 + r]? = some (vp_cell (G.2.2.1 (gm_oid j)) (n, .inr (.inr (.inr (.inr (va_up (fun i => (h.2.2.2 r i).map fun x => G.1 + x) i.toNatClampNeg (some (G.1 + w)))))))) := by
    rw [← gm_setR]; exact e1
  show H1[G.1 + r]? = some (vp_cell _ (n, .inr (.inr (.inr (.inr (fun i_1 => (va_up h.2.2.2 r (va_up (h.2.2.2 r) i.toNatClampNeg (some w)) r i_1).map fun x => G.1 + x))))))
  rw [e2]
  congr 7
  funext y
  rw [gm_upS]
  by_cases hy : y = i.toNatClampNeg
  · subst hy; simp [va_up]
  · simp [va_up, hy]
set_option maxHeartbeats 4000000 in
theorem sd_alen : rl_alen L xs (gm_SP l G L xs) := by
  intro m pc nx lk a b z ls st h nc ns Q r n hf hr g q hq p e s mid args below meth c H locs lo C hW hS hl hn
  have K := g q hq p e s mid args below meth c H locs lo C hW hS hl hn
  obtain ⟨hx, hb, hml, hown, hts, hN, hK, -⟩ := C
  obtain ⟨rfl, hd⟩ := gm_at hq hf rfl
  exact va_alen hx hb hK hW.2 r 0 (gm_ws_get hr) rfl rfl hd K
set_option maxHeartbeats 4000000 in
theorem sd_sld : rl_sld L xs (gm_SP l G L xs) := by
  intro m pc nx lk a b z ls st h nc ns Q t i hf hi g q hq p e s mid args below meth c H locs lo C hW hS hl hn
  have K := g q hq p e s mid args below meth c H locs lo C hW hS hl hn
  obtain ⟨hx, hb, hml, hown, hts, hN, hK, hX, hbB, hBs, -⟩ := C
  obtain ⟨rfl, hd⟩ := gm_at hq hf rfl
  exact va_sld hx hb hX (Nat.lt_of_lt_of_le hbB hBs) (fun hz => Nat.not_le.mpr hbB hz) hS hi hd K
set_option maxHeartbeats 4000000 in
theorem sd_slen : rl_slen L xs (gm_SP l G L xs) := by
  intro m pc nx lk a b z ls st h nc ns Q t hf g q hq p e s mid args below meth c H locs lo C hW hS hl hn
  have K := g q hq p e s mid args below meth c H locs lo C hW hS hl hn
  obtain ⟨hx, hb, hml, hown, hts, hN, hK, hX, hbB, hBs, -⟩ := C
  obtain ⟨rfl, hd⟩ := gm_at hq hf rfl
  exact va_slen hx hb hX (Nat.lt_of_lt_of_le hbB hBs) (fun hz => Nat.not_le.mpr hbB hz) hS hd K
end GmC
end
section
/-! each rule holds of the machine: what is made, calls, ends -/
theorem gm_WW.push {G : gm_G} {h h2 : gm_H} {kd : Nat × Nat} {H H1 : Heap} (hW : gm_WW G h H) (hs : h2.1 = h.1 ++ [kd]) (ho : ∀ k x, k < h.1.length → gm_cell G h2 k x = gm_cell G h k x) (he : va_at G.2.2.2 gm_cl (G.1 + h.1.length, gm_cell G h2 h.1.length kd) H1) (z : H1.size = G.1 + h.1.length + 1) (oq : ∀ q : Nat, q < G.1 + h.1.length → H1[q]? = H[q]?) : gm_WW G h2 H1 := by
  refine ⟨by rw [z, hs]; simp; omega, ?_⟩
  rw [gm_ws_push hs ho rfl]
  refine (hW.2.kept fun k x hx => oq x.1 (by have := (hW.2 k x hx).lt; rw [hW.1] at this; exact this)).app (fun k x hx => ?_)
  have hz : k < 1 := (List.getElem?_eq_some_iff.mp hx).1
  rw [show k = 0 by omega] at hx
  cases hx
  exact he
theorem gm_sP {G : gm_G} {H0 H H1 : Heap} {locs : List Loc} {n : Nat} (hS : va_S (gm_A G) H0 H locs) (hz : H.size = n) (z : H1.size = n + 1) (oq : ∀ q : Nat, q < n → H1[q]? = H[q]?) : va_S (gm_A G) H0 H1 locs :=
  ⟨Nat.le_trans hS.1 (by omega), fun x h1 h2 => (oq x (by have := Nat.lt_of_lt_of_le h1 hS.1; omega)).trans (hS.2.1 x h1 h2), hS.2.2⟩
theorem gm_dflt (G : gm_G) (h : gm_H) (n ci k : Nat) (e1 : h.2.1 n k = 0) (e2 : h.2.2.1 n k = 0) (e3 : h.2.2.2 n k = none) : defaultValue (gm_ty ci k) = gm_cv G (gm_fv h n ci k) := by
  have hno := gm_tyno ci k
  unfold gm_fv gm_ft
  rw [e1, e2, e3]
  generalize gm_ty ci k = t at hno
  cases t <;> simp_all [gm_ftt, defaultValue, gm_cv, gm_ov]
section GmD
variable (l : Launch) (G : gm_G) (L : Nat) (xs : Nat → Int32)
set_option maxHeartbeats 4000000 in
theorem sd_new : rl_new L xs (gm_SP l G L xs) := by
  intro m pc nx lk a b z ls st h nc ns Q q0 idx cw hf hq0 hc hnc hns g q hq p e s mid args below meth c H locs lo C hW hS hl hn
  have K := fun H1 hW1 hS1 => g q hq p e s mid args below meth c H1 locs lo C hW1 hS1 hl hn
  have hqe : q = q0 := Option.some.inj (hq.symm.trans hq0)
  subst hqe
  obtain ⟨hx, hb, hml, hown, hts, hN, hK, -⟩ := C
  have hlk : Cond.classLink (gm_own q.2.2.2.2.1) idx (gm_own a) ∈ gm_tbl := gm_clk (of_decide_eq_true (gm_fe hq hf).2)
  obtain ⟨rfl, hd⟩ := gm_at hq hf rfl
  have hcn := (gm_clnm hc).1
  rw [hcn] at hlk
  have hz : ∃ r, (gm_cl.zip gm_CP)[a]? = some (cw, r) := by
    have hal : a < gm_cl.length := (List.getElem?_eq_some_iff.mp hc).1
    refine ⟨gm_CP[a]'(by exact hal), ?_⟩
    rw [List.getElem?_zip_eq_some]
    exact ⟨hc, List.getElem?_eq_getElem _⟩
  obtain ⟨r, hz⟩ := hz
  have h2 := List.all_eq_true.mp gm_ckI _ (List.mem_of_getElem? hz)
  rw [Bool.and_eq_true] at h2
  have hins : Cond.instantiable cw.1 cw.2.2 ∈ gm_tbl := gm_in (of_decide_eq_true h2.1) rfl
  have hini : Cond.initialized cw.1 ∈ gm_tbl := gm_in (of_decide_eq_true h2.2) rfl
  have hKn := hK.1 a _ hc
  refine W.newcK hx hb hown (hts _ hlk) (hts _ hins) (hts _ hini) rfl hd hnc hns hKn.2.1 hW.1 fun H1 kC hkC e1 z1 o1 => ?_
  refine K H1 (hW.push rfl (fun k y hk => gm_cN hk y) ⟨_, hc, (u_born (gm_ty a) hts (gm_uws hc) hKn hkC e1 (gm_tyok hc)).to fun j hj => ?_⟩ z1 o1) (gm_sP hS hW.1 z1 o1)
  rw [gm_fsV G _ _ a hc hj]
  exact gm_dflt G _ _ a j (by simp [va_up]) (by simp [va_up]) (by simp [va_up])
set_option maxHeartbeats 4000000 in
theorem sd_newa : rl_newa L xs (gm_SP l G L xs) := by
  intro m pc nx lk a b z ls st h nc ns Q q0 t n N kd hf hq0 hkd hn0 hN hN2 hnc hns g q hq p e s mid args below meth c H locs lo C hW hS hl hn
  have K := fun H1 hW1 hS1 => g q hq p e s mid args below meth c H1 locs lo C hW1 hS1 hl hn
  have hqe : q = q0 := Option.some.inj (hq.symm.trans hq0)
  subst hqe
  obtain ⟨hx, hb, hml, hown, hts, hN', hK, -⟩ := C
  obtain ⟨rfl, hd⟩ := gm_at hq hf rfl
  have wA := gm_wArr
  cases t <;> first | (cases hkd; done) | skip
  case int =>
    cases hkd
    refine va_newaK hx hb (hts _ (gm_in wA.1 rfl)) rfl hd rfl hn0 hN (by show N * componentBytes .int ≤ _; simp only [componentBytes]; omega) hnc hns hW.1 fun H1 cA e1 z1 o1 hAr hNm => ?_
    have hcA : cA = G.2.2.1 0 := Option.some.inj (hNm.symm.trans (hK.2 0 _ rfl).2)
    subst hcA
    refine K H1 (hW.push rfl (fun k y hk => gm_cN hk y) ?_ z1 o1) (gm_sP hS hW.1 z1 o1)
    show H1[G.1 + h.1.length]? = some (vp_cell _ (N, .inl (va_up h.2.1 h.1.length (fun _ => 0) h.1.length)))
    rw [gm_upS]
    exact e1
  case long =>
    cases hkd
    refine va_newaK hx hb (hts _ (gm_in wA.2.1 rfl)) rfl hd rfl hn0 hN (by show N * componentBytes .long ≤ _; simp only [componentBytes]; omega) hnc hns hW.1 fun H1 cA e1 z1 o1 hAr hNm => ?_
    have hcA : cA = G.2.2.1 1 := Option.some.inj (hNm.symm.trans (hK.2 1 _ rfl).2)
    subst hcA
    refine K H1 (hW.push rfl (fun k y hk => gm_cN hk y) ?_ z1 o1) (gm_sP hS hW.1 z1 o1)
    show H1[G.1 + h.1.length]? = some (vp_cell _ (N, .inr (.inl (va_up h.2.2.1 h.1.length (fun _ => 0) h.1.length))))
    rw [gm_upS]
    exact e1
  case boolean =>
    cases hkd
    refine va_newaK hx hb (hts _ (gm_in wA.2.2.1 rfl)) rfl hd rfl hn0 hN (by show N * componentBytes .boolean ≤ _; simp only [componentBytes]; omega) hnc hns hW.1 fun H1 cA e1 z1 o1 hAr hNm => ?_
    have hcA : cA = G.2.2.1 2 := Option.some.inj (hNm.symm.trans (hK.2 2 _ rfl).2)
    subst hcA
    refine K H1 (hW.push rfl (fun k y hk => gm_cN hk y) ?_ z1 o1) (gm_sP hS hW.1 z1 o1)
    show H1[G.1 + h.1.length]? = some (vp_cell _ (N, .inl (va_up h.2.1 h.1.length (fun _ => 0) h.1.length)))
    rw [gm_upS]
    exact e1
theorem gm_own2 {a : Nat} (ha : a = 2 ∨ a = 5) : gm_own a = gm_otn a := by rcases ha with rfl | rfl <;> rfl
set_option maxHeartbeats 4000000 in
theorem sd_anew : rl_anew L xs (gm_SP l G L xs) := by
  intro m pc nx lk a b z ls st h nc ns Q q0 idx n N hf hq0 hn0 hN hN2 hnc hns g q hq p e s mid args below meth c H locs lo C hW hS hl hn
  have K := fun H1 hW1 hS1 => g q hq p e s mid args below meth c H1 locs lo C hW1 hS1 hl hn
  have hqe : q = q0 := Option.some.inj (hq.symm.trans hq0)
  subst hqe
  obtain ⟨hx, hb, hml, hown, hts, hN', hK, -⟩ := C
  have hck := (gm_fe hq hf).2
  have hck : (decide ((gm_CT[lk]?).map (fun f => (f.1, f.2.1, f.2.2.1)) = some (q.2.2.2.2.1, idx, a)) && (decide (a = 2) || decide (a = 5))) = true := hck
  rw [Bool.and_eq_true, Bool.or_eq_true] at hck
  have ha : a = 2 ∨ a = 5 := hck.2.elim (fun x => Or.inl (of_decide_eq_true x)) (fun x => Or.inr (of_decide_eq_true x))
  have hlk := gm_clk (of_decide_eq_true hck.1)
  rw [gm_own2 ha] at hlk
  obtain ⟨rfl, hd⟩ := gm_at hq hf rfl
  have hover : va_AO (gm_otn a) s := by
    rcases ha with rfl | rfl
    · exact hN'.2.1
    · exact hN'.2.2
  subst hN
  refine W.anew hx hb hown (hts _ hlk) (va_AO.use hover) rfl hd rfl hn0 (by omega) hnc hns fun cA kA comp f1 f2 f3 f4 => ?_
  have hcA : cA = G.2.2.1 (gm_oid a) := by
    obtain ⟨kA', comp', k1, k2, k3, k4⟩ := (hK.2 _ _ (gm_tl_o ha)).2
    exact Option.some.inj (f1.symm.trans k4)
  subst hcA
  have z1 : (H.push ({ cls := G.2.2.1 (gm_oid a), slots := Array.replicate n.toNatClampNeg .null, vm := .none } : Cell)).size = G.1 + h.1.length + 1 := by rw [Array.size_push, hW.1]
  have e1 : (H.push ({ cls := G.2.2.1 (gm_oid a), slots := Array.replicate n.toNatClampNeg .null, vm := .none } : Cell))[G.1 + h.1.length]? = some (arrV (G.2.2.1 (gm_oid a)) n.toNatClampNeg (fun _ => .null)) := by rw [← hW.1, Array.getElem?_push_size, ← arrV_new]
  have o1 : ∀ q : Nat, q < G.1 + h.1.length → (H.push ({ cls := G.2.2.1 (gm_oid a), slots := Array.replicate n.toNatClampNeg .null, vm := .none } : Cell))[q]? = H[q]? := fun q hq => by rw [Array.getElem?_push, if_neg (by rw [hW.1]; exact Nat.ne_of_lt hq)]
  rw [hW.1]
  refine K _ (hW.push (kd := (a + 4, n.toNatClampNeg)) rfl (fun k y hk => gm_cN hk y) ?_ z1 o1) (gm_sP hS hW.1 z1 o1)
  show _ = some (vp_cell _ (n.toNatClampNeg, .inr (.inr (.inr (.inr (fun i => (va_up h.2.2.2 h.1.length (fun _ => none) h.1.length i).map fun x => G.1 + x))))))
  rw [gm_upS, e1]
  rfl
/-- a method's start, for a call -/
def gm_Pc (vs : List Value) (h : gm_H) : Array Value → State → Prop := va_Pc (vs.map (gm_cv G)) (fun U => gm_WW G h U.heap ∧ gm_N U ∧ va_K G.2.2.2 gm_cl (gm_tl G.2.2.1) U ∧ va_X G.2.1 L xs U U.heap ∧ G.2.1 < G.1 ∧ G.1 ≤ U.heap.size)
set_option maxHeartbeats 4000000 in
theorem gm_met {a kd : Nat} {q : gm_M} (hq : gm_PT[a]? = some q) (hk : (gm_PP[a]?).map (fun r => r.2.2.2.2) = some kd) (h3 : ¬ kd = 3) (h4 : ¬ kd = 4) {vs : List Value} {h : gm_H} {R : Value → gm_H → Prop} (hlen : (gm_sl vs).length ≤ q.2.2.1) (hSP : gm_SP l G L xs a 0 (gm_ent q.2.2.1 vs) [] h 0 0 R) :
    Met l q.1 (Cond.code q.1 q.2.1 q.2.2.1 q.2.2.2.1 :: gm_tbl) (gm_rm q) (gm_Pc G L xs vs h) (gm_Qc G q R) q.2.2.2.2.2.2.2.2.1 q.2.2.2.2.2.2.2.2.2.1 (gm_A G) := by
  obtain ⟨⟨e1, e2, e3⟩, -⟩ := gm_mw hq hk h3 h4
  refine Met.ofW (cc := q.2.1) (maxL := q.2.2.1) (ret := q.2.2.2.1) e2 rfl ?_
  intro p e s m args below meth c s₁ B hml hv
  obtain ⟨rfl, hW, hN, hK, hX, hbB, hBs⟩ := hv
  have hts := atoms_spec (ws := Cond.code q.1 q.2.1 q.2.2.1 q.2.2.2.1 :: gm_tbl) B.pre
  have hown : s.vm.findClass q.1.cls = some m.cls := findClass_of_methodNamed B.named
  have hin : meth.name = q.1.name := (name_of_methodNamed B.named B.method).1
  have hl := lv_entry (vs.map (gm_cv G)) (n := q.2.2.1) (by rw [gm_lg_sl]; exact hlen)
  rw [← gm_al_sl G vs 0 (q.2.2.1 - (gm_sl vs).length)] at hl
  rw [lg_entry_eq]
  exact hSP q hq p e s m _ below meth c s.heap [] _ ⟨B.exec, B.bytes, hml, by rw [← e1]; exact hown, fun w hw => hts w (List.mem_cons_of_mem _ hw), hN, hK, hX, hbB, hBs, B.returns, B.notSynchronized, fun hz => hin.trans hz⟩ hW va_S.rf hl (gm_ent_len hlen)
theorem gm_Pc_blind (vs : List Value) (h : gm_H) : FrameBlind (gm_Pc G L xs vs h) := by
  intro a U g mk hz
  obtain ⟨h1, h2, h3, h4, h5, h6, h7⟩ := hz
  exact ⟨h1, h2, gm_N.same rfl h3, va_K.moved (u := U) (U := U.calling g mk a) (Vm.Alike.refl U.vm) h4, va_X.moved (u := U) (U := U.calling g mk a) (Vm.Alike.refl U.vm) h5, h6, h7⟩
theorem gm_Pc_at {q : gm_M} {p : Program} {s : State} {mid : MethodId} {args : Array Value} {meth : Method} {c : Code} {H : Heap} {locs : List Loc} {vs : List Value} {h : gm_H} (C : gm_Cx G L xs q p s mid args meth c) (hW : gm_WW G h H) (hS : va_S (gm_A G) s.heap H locs) : ∀ U : State, U.heap = H → s.WarmedH U.vm → gm_Pc G L xs vs h (vs.map (gm_cv G)).toArray U := by
  obtain ⟨hx, hb, hml, hown, hts, hN, hK, hX, hbB, hBs, -⟩ := C
  intro U hU hWm
  refine ⟨rfl, by rw [hU]; exact hW, gm_N.warm hWm hN, va_K.moved hWm.alike hK, ?_, hbB, by rw [hU, hW.1]; omega⟩
  rw [hU]
  exact (hX.kept (hS.2.1 _ (Nat.lt_of_lt_of_le hbB hBs) (fun hz => Nat.not_le.mpr hbB hz))).moved hWm.alike
end GmD
section GmE
variable {p : Program} {l : Launch} {e : Env} {R : Room} {s : State} {mid : MethodId} {args : Array Value} {below : List Frame} {meth : Method} {cd : Code} {H : Heap} {locs : List Loc} {cells slots : Nat} {Qf : State → Prop}
variable {pc : Nat} {lo : Array Slot} {rest st0 : List Value} {G : gm_G} {H0 : Heap} {q : gm_M} {Rv : Value → gm_H → Prop} {a0 : Array Value} {mc ms : Nat}
theorem gm_cont (hr : va_Run p l e R s mid args below meth cd H locs cells slots mc ms (F0 mid pc lo st0) rest (gm_Qc G q Rv a0) (gm_A G)) (hS : va_S (gm_A G) H0 H locs)
    (kk : ∀ (v : Value) (h2 : gm_H) (H1 : Heap) (locs1 : List Loc), gm_WW G h2 H1 → Rv v h2 → va_S (gm_A G) H0 H1 locs1 → W p l e R s mid args below meth cd H1 locs1 (cells + mc) (slots + ms) Qf (F0 mid (pc + 3) lo ((q.2.2.2.1.map fun _ => gm_cv G v).toList ++ rest))) : W p l e R s mid args below meth cd H locs cells slots Qf (F0 mid pc lo st0) := by
  intro T hT X
  obtain ⟨v, st₀, t, T', Lc, h0, X', hL, e1, e2, ⟨⟨v', h2, hv, hp, hR⟩, hz, hk⟩, st⟩ := hr T hT X
  cases hv
  rw [h0] at hz hk
  obtain ⟨t2, a1, b1⟩ := kk v' h2 T'.heap (locs ++ Lc) (by rw [e1]; exact hp) hR
    ⟨Nat.le_trans hS.1 (by rw [e1]; exact hz), fun x g1 g2 => by rw [e1, hk x (Nat.lt_of_lt_of_le g1 hS.1) g2]; exact hS.2.1 x g1 g2, fun x hx => by
      rcases List.mem_append.mp hx with g | g
      · exact hS.2.2 x g
      · exact hL x g⟩ T' rfl X'
  exact ⟨t2, st t2 a1, b1⟩
end GmE
section GmF
variable (l : Launch) (G : gm_G) (L : Nat) (xs : Nat → Int32)
theorem gm_mapRet (G : gm_G) (o : Option FieldType) (v : Value) (rest : List Value) : ((o.map fun _ => v).toList ++ rest).map (gm_cv G) = (o.map fun _ => gm_cv G v).toList ++ rest.map (gm_cv G) := by cases o <;> simp
theorem gm_GoodIn {a kd : Nat} {q : gm_M} (hq : gm_PT[a]? = some q) (hk : (gm_PP[a]?).map (fun r => r.2.2.2.2) = some kd) (h3 : ¬ kd = 3) (h4 : ¬ kd = 4) : GoodIn gm_tbl (Cond.code q.1 q.2.1 q.2.2.1 q.2.2.2.1 :: gm_tbl) := by
  obtain ⟨-, -, hc, -⟩ := gm_mw hq hk h3 h4
  intro w hw
  rcases List.mem_cons.mp hw with rfl | hw
  · exact ⟨hc, gm_goodIn hc⟩
  · exact ⟨hw, gm_goodIn hw⟩
set_option maxHeartbeats 4000000 in
theorem sd_cV : rl_cV L xs (gm_SP l G L xs) := by
  intro m pc nx lk a b z ls st h nc ns Q q0 q2 idx r vs rest R hf hst hr hq2 hq0 hlen hsl hcat hnc hns g0 g1 q hq p e s mid args below meth c H locs lo C hW hS hl hn
  have K := fun v h2 H1 locs1 hW1 hR hS1 => g1 v h2 hR q hq p e s mid args below meth c H1 locs1 lo C hW1 hS1 hl hn
  have hPc := gm_Pc_at G L xs (vs := .ref r :: vs) C hW hS
  have hqe : q = q0 := Option.some.inj (hq.symm.trans hq0)
  subst hqe
  subst hst
  obtain ⟨hx, hb, hml, hown, hts, hN, hK, -⟩ := C
  have hck := (gm_fe hq hf).2
  have hck : (decide ((gm_MT[lk]?).map (fun f => (f.1, f.2.1, f.2.2.1, f.2.2.2.1)) = some (q.2.2.2.2.1, idx, b, a)) && decide (b = 0) && decide ((gm_PP[a]?).map (fun r => r.2.2.2.2) = some 0) && (gm_PT[a]?).any (fun q' => decide (q'.2.2.2.2.2.2.1 + 1 ≤ q.2.2.2.2.2.2.1) && decide (8 + (q'.2.2.1 + 11) + q'.2.2.2.2.2.2.2.1 ≤ q.2.2.2.2.2.2.2.1))) = true := hck
  rw [hq2] at hck
  simp only [Bool.and_eq_true, decide_eq_true_eq, Option.any_some, and_assoc] at hck
  obtain ⟨hlk, rfl, hkd, hfr, hlo⟩ := hck
  obtain ⟨pl, hpl⟩ := gm_mlk hlk
  have hlink := gm_mlk0 hq2 hpl
  obtain ⟨⟨e1, e2, e3⟩, hini, hcode, hinst, -⟩ := gm_mw hq2 hkd (by decide) (by decide)
  obtain ⟨hinst, hsel⟩ := hinst rfl
  obtain ⟨rfl, hd⟩ := gm_at hq hf rfl
  have hM := gm_met l G L xs hq2 hkd (by decide) (by decide) hsl g0
  have hcl : ∃ cw, gm_cl[q2.2.2.2.2.1]? = some cw := by
    obtain ⟨rr, h1, -⟩ := hW.2 r _ (gm_ws_get hr)
    exact ⟨rr, h1⟩
  obtain ⟨cw, hcw⟩ := hcl
  have hrecv := va_recv hK hW.2 hcw (gm_ws_get hr)
  have hC : cw.1 = q2.1.cls := by rw [e1, (gm_clnm hcw).1]
  rw [hC] at hrecv
  refine gm_cont (va_runV (As := vs.map (gm_cv G)) (rest := rest.map (gm_cv G)) ⟨hx, hb, hml, hown, hts⟩ hM ⟨callB_of q2.2.2.2.2.2.1 hts (gm_GoodIn hq2 hkd (by decide) (by decide)) rfl rfl rfl (hts _ hini) (hts _ hlink) e3 ⟨hfr, hlo⟩, hts _ hinst, hts _ hsel⟩ ⟨gm_Pc_blind G L xs _ _, hrecv, hPc⟩ rfl (by rw [List.length_map]; exact hlen) hl.1 (by rw [List.map_append, List.map_cons, List.map_reverse]; rfl) (lv_room (by rw [gm_cats]; exact hcat)) hd ⟨hnc, hns⟩) hS (fun v h2 H1 locs1 hW1 hR hS1 => ?_)
  have K1 := K v h2 H1 locs1 hW1 hR hS1
  rw [gm_mapRet] at K1
  exact K1
set_option maxHeartbeats 4000000 in
theorem sd_cS : rl_cS L xs (gm_SP l G L xs) := by
  intro m pc nx lk a b z ls st h nc ns Q q0 q2 idx vs rest R hf hb2 hst hq2 hq0 hlen hsl hcat hnc hns g0 g1 q hq p e s mid args below meth c H locs lo C hW hS hl hn
  have K := fun v h2 H1 locs1 hW1 hR hS1 => g1 v h2 hR q hq p e s mid args below meth c H1 locs1 lo C hW1 hS1 hl hn
  have hPc := gm_Pc_at G L xs (vs := vs) C hW hS
  have hqe : q = q0 := Option.some.inj (hq.symm.trans hq0)
  subst hqe
  subst hst
  obtain ⟨hx, hb, hml, hown, hts, hN, hK, -⟩ := C
  have hck := (gm_fe hq hf).2
  have hck : (decide ((gm_MT[lk]?).map (fun f => (f.1, f.2.1, f.2.2.1, f.2.2.2.1)) = some (q.2.2.2.2.1, idx, b, a)) && (if b = 2 then decide (1 ≤ q.2.2.2.2.2.2.1) && decide (8 + 18 ≤ q.2.2.2.2.2.2.2.1) else if b = 4 ∨ b = 5 then decide (1 ≤ q.2.2.2.2.2.2.1) && decide (8 + 13 ≤ q.2.2.2.2.2.2.2.1) else (decide (b = 0) || decide (b = 1)) && decide ((gm_PP[a]?).map (fun r => r.2.2.2.2) = some 1) && (gm_PT[a]?).any (fun q' => decide (q'.2.2.2.2.2.2.1 + 1 ≤ q.2.2.2.2.2.2.1) && decide (8 + (q'.2.2.1 + 11) + q'.2.2.2.2.2.2.2.1 ≤ q.2.2.2.2.2.2.2.1)))) = true := hck
  rw [hq2, if_neg hb2.1, if_neg hb2.2] at hck
  simp only [Bool.and_eq_true, Bool.or_eq_true, decide_eq_true_eq, Option.any_some, and_assoc] at hck
  obtain ⟨hlk, hb01, hkd, hfr, hlo⟩ := hck
  obtain ⟨pl, hpl⟩ := gm_mlk hlk
  obtain ⟨⟨e1, e2, e3⟩, hini, hcode, -, hstat, -⟩ := gm_mw hq2 hkd (by decide) (by decide)
  have hstat := hstat rfl
  obtain ⟨rfl, hd⟩ := gm_at hq hf rfl
  have hM := gm_met l G L xs hq2 hkd (by decide) (by decide) hsl g0
  have kk : ∀ (v : Value) (h2 : gm_H) (H1 : Heap) (locs1 : List Loc), gm_WW G h2 H1 → R v h2 → va_S (gm_A G) s.heap H1 locs1 → W p l e (gm_rm q) s mid args below meth c H1 locs1 (nc + q2.2.2.2.2.2.2.2.2.1) (ns + q2.2.2.2.2.2.2.2.2.2.1) (MQ below (gm_Qc G q Q) args s q.2.2.2.2.2.2.2.2.1 q.2.2.2.2.2.2.2.2.2.1 (gm_A G)) (F0 mid (pc + 3) lo ((q2.2.2.2.1.map fun _ => gm_cv G v).toList ++ rest.map (gm_cv G))) := by
    intro v h2 H1 locs1 hW1 hR hS1
    have K1 := K v h2 H1 locs1 hW1 hR hS1
    rw [gm_mapRet] at K1
    exact K1
  rcases hb01 with rfl | rfl
  · have hlink := gm_mlk0 hq2 hpl
    exact gm_cont (va_runS (As := vs.map (gm_cv G)) (rest := rest.map (gm_cv G)) ⟨hx, hb, hml, hown, hts⟩ hM ⟨callB_of q2.2.2.2.2.2.1 hts (gm_GoodIn hq2 hkd (by decide) (by decide)) rfl rfl rfl (hts _ hini) (hts _ hlink) e3 ⟨hfr, hlo⟩, hts _ hstat⟩ ⟨gm_Pc_blind G L xs _ _, hPc⟩ rfl (by rw [List.length_map]; exact hlen) hl.1 (by rw [List.map_append, List.map_reverse]) (lv_room (by rw [gm_cats]; exact hcat)) hd ⟨hnc, hns⟩) hS kk
  · have hlink := gm_mlk1 hq2 hpl
    exact gm_cont (va_runSN (As := vs.map (gm_cv G)) (rest := rest.map (gm_cv G)) ⟨hx, hb, hml, hown, hts⟩ hM ⟨va_cnB q2.2.2.2.2.2.1 hts (gm_GoodIn hq2 hkd (by decide) (by decide)) rfl rfl rfl (hN.1 _ _ _ _ hlink) (hts _ hini) e3 ⟨hfr, hlo⟩, hts _ hstat, trivial⟩ ⟨gm_Pc_blind G L xs _ _, hPc⟩ rfl (by rw [List.length_map]; exact hlen) hl.1 (by rw [List.map_append, List.map_reverse]) (lv_room (by rw [gm_cats]; exact hcat)) hd ⟨hnc, hns⟩) hS kk
set_option maxHeartbeats 4000000 in
theorem sd_cI : rl_cI L xs (gm_SP l G L xs) := by
  intro m pc nx lk a b z ls st h nc ns Q q0 q2 idx r vs rest R hf hb3 hst hq2 hq0 hlen hsl hcat hnc hns g0 g1 q hq p e s mid args below meth c H locs lo C hW hS hl hn
  have K := fun v h2 H1 locs1 hW1 hR hS1 => g1 v h2 hR q hq p e s mid args below meth c H1 locs1 lo C hW1 hS1 hl hn
  have hPc := gm_Pc_at G L xs (vs := .ref r :: vs) C hW hS
  have hqe : q = q0 := Option.some.inj (hq.symm.trans hq0)
  subst hqe
  subst hst
  obtain ⟨hx, hb, hml, hown, hts, hN, hK, -⟩ := C
  have hck := (gm_fe hq hf).2
  have hck : (decide ((gm_MT[lk]?).map (fun f => (f.1, f.2.1, f.2.2.1, f.2.2.2.1)) = some (q.2.2.2.2.1, idx, b, a)) && (if b = 3 then decide (1 ≤ q.2.2.2.2.2.2.1) && decide (20 ≤ q.2.2.2.2.2.2.2.1) else (decide (b = 0) || decide (b = 1)) && decide ((gm_PP[a]?).map (fun r => r.2.2.2.2) = some 2) && (gm_PT[a]?).any (fun q' => decide (q'.2.2.2.2.2.2.1 + 1 ≤ q.2.2.2.2.2.2.1) && decide (8 + (q'.2.2.1 + 11) + q'.2.2.2.2.2.2.2.1 ≤ q.2.2.2.2.2.2.2.1)))) = true := hck
  rw [hq2, if_neg hb3] at hck
  simp only [Bool.and_eq_true, Bool.or_eq_true, decide_eq_true_eq, Option.any_some, and_assoc] at hck
  obtain ⟨hlk, hb01, hkd, hfr, hlo⟩ := hck
  obtain ⟨pl, hpl⟩ := gm_mlk hlk
  obtain ⟨⟨e1, e2, e3⟩, hini, hcode, -, -, hin⟩ := gm_mw hq2 hkd (by decide) (by decide)
  obtain ⟨hinst, hname, hret⟩ := hin rfl
  obtain ⟨rfl, hd⟩ := gm_at hq hf rfl
  have hM := gm_met l G L xs hq2 hkd (by decide) (by decide) hsl g0
  have hG := gm_GoodIn hq2 hkd (by decide) (by decide)
  have kk : ∀ (v : Value) (h2 : gm_H) (H1 : Heap) (locs1 : List Loc), gm_WW G h2 H1 → R v h2 → va_S (gm_A G) s.heap H1 locs1 → W p l e (gm_rm q) s mid args below meth c H1 locs1 (nc + q2.2.2.2.2.2.2.2.2.1) (ns + q2.2.2.2.2.2.2.2.2.2.1) (MQ below (gm_Qc G q Q) args s q.2.2.2.2.2.2.2.2.1 q.2.2.2.2.2.2.2.2.2.1 (gm_A G)) (F0 mid (pc + 3) lo ((q2.2.2.2.1.map fun _ => gm_cv G v).toList ++ rest.map (gm_cv G))) := by
    intro v h2 H1 locs1 hW1 hR hS1
    have K1 := K v h2 H1 locs1 hW1 hR hS1
    rw [gm_mapRet] at K1
    exact K1
  rw [hret] at hM hG
  rcases hb01 with rfl | rfl
  · have hlink := gm_mlk0 hq2 hpl
    exact gm_cont (va_runI (As := vs.map (gm_cv G)) (rest := rest.map (gm_cv G)) ⟨hx, hb, hml, hown, hts⟩ hM (cwI q2.2.2.2.2.2.1 hts hG rfl rfl rfl (hts _ hini) (hts _ hlink) (hts _ hinst) hname e3 ⟨hfr, hlo⟩) ⟨gm_Pc_blind G L xs _ _, hPc⟩ rfl (by rw [List.length_map]; exact hlen) hl.1 (by rw [List.map_append, List.map_cons, List.map_reverse]; rfl) (lv_room (by rw [gm_cats]; exact hcat)) hd ⟨hnc, hns⟩) hS kk
  · have hlink := gm_mlk1 hq2 hpl
    exact gm_cont (va_runIN (As := vs.map (gm_cv G)) (rest := rest.map (gm_cv G)) ⟨hx, hb, hml, hown, hts⟩ hM ⟨va_cnB q2.2.2.2.2.2.1 hts hG rfl rfl rfl (hN.1 _ _ _ _ hlink) (hts _ hini) e3 ⟨hfr, hlo⟩, hname, hts _ hinst⟩ ⟨gm_Pc_blind G L xs _ _, hPc⟩ rfl (by rw [List.length_map]; exact hlen) hl.1 (by rw [List.map_append, List.map_cons, List.map_reverse]; rfl) (lv_room (by rw [gm_cats]; exact hcat)) hd ⟨hnc, hns⟩) hS kk
set_option maxHeartbeats 4000000 in
theorem sd_obj : rl_obj L xs (gm_SP l G L xs) := by
  intro m pc nx lk a b z ls st h nc ns Q idx r hf hb3 hcat g q hq p e s mid args below meth c H locs lo C hW hS hl hn
  have K := g q hq p e s mid args below meth c H locs lo C hW hS hl hn
  subst hb3
  obtain ⟨hx, hb, hml, hown, hts, hN, hK, -⟩ := C
  have hck := (gm_fe hq hf).2
  have hck : (decide ((gm_MT[lk]?).map (fun f => (f.1, f.2.1, f.2.2.1, f.2.2.2.1)) = some (q.2.2.2.2.1, idx, 3, a)) && (decide (1 ≤ q.2.2.2.2.2.2.1) && decide (20 ≤ q.2.2.2.2.2.2.2.1))) = true := hck
  simp only [Bool.and_eq_true, decide_eq_true_eq, and_assoc] at hck
  obtain ⟨hlk, hfr, hlo⟩ := hck
  obtain ⟨pl, hpl⟩ := gm_mlk hlk
  have hlink : Cond.methodLink (gm_own q.2.2.2.2.1) idx objectInit ∈ gm_tbl := gm_in (of_decide_eq_true (show decide (lw_tbl[pl]? = some (.methodLink (gm_own q.2.2.2.2.1) idx objectInit)) = true from hpl)) rfl
  obtain ⟨rfl, hd⟩ := gm_at hq hf rfl
  refine W.objInit hx hb hown (hts _ hlink) (hts _ (gm_in gm_wObj.1 rfl)) (hts _ (gm_in gm_wObj.2 rfl)) rfl (hl.1.trans hml.symm) rfl hd hfr ?_ K
  show 2 * 0 + _ + 12 ≤ q.2.2.2.2.2.2.2.1
  rw [gm_cats]
  omega
set_option maxHeartbeats 4000000 in
theorem sd_mmin : rl_mmin L xs (gm_SP l G L xs) := by
  intro m pc nx lk a b z ls st h nc ns Q idx q0 x y hf hb4 hq0 hcat hnc hns g q hq p e s mid args below meth c H locs lo C hW hS hl hn
  have K := g q hq p e s mid args below meth c H locs lo C hW hS hl hn
  have hqe : q = q0 := Option.some.inj (hq.symm.trans hq0)
  subst hqe
  subst hb4
  obtain ⟨hx, hb, hml, hown, hts, hN, hK, -⟩ := C
  have hck := (gm_fe hq hf).2
  have hck : (decide ((gm_MT[lk]?).map (fun f => (f.1, f.2.1, f.2.2.1, f.2.2.2.1)) = some (q.2.2.2.2.1, idx, 4, a)) && (decide (1 ≤ q.2.2.2.2.2.2.1) && decide (8 + 13 ≤ q.2.2.2.2.2.2.2.1))) = true := hck
  simp only [Bool.and_eq_true, decide_eq_true_eq, and_assoc] at hck
  obtain ⟨hlk, hfr, hlo⟩ := hck
  obtain ⟨pl, hpl⟩ := gm_mlk hlk
  have hlink : Cond.methodLink (gm_own q.2.2.2.2.1) idx Lib.Math.min.name ∈ gm_tbl := gm_in (of_decide_eq_true (show decide (lw_tbl[pl]? = some (.methodLink (gm_own q.2.2.2.2.1) idx Lib.Math.min.name)) = true from hpl)) rfl
  obtain ⟨rfl, hd⟩ := gm_at hq hf rfl
  have wM := gm_wMath
  exact va_mmin hx hb (hml.trans hl.1.symm) hown (hts _ hlink) (hts _ (gm_in wM.1.1 rfl)) (hts _ (gm_in wM.2.2 rfl)) (hts _ (gm_in wM.1.2 rfl)) hfr (by show _ + 13 ≤ q.2.2.2.2.2.2.2.1; rw [gm_cats]; omega) hnc hns hd K
set_option maxHeartbeats 4000000 in
theorem sd_mabs : rl_mabs L xs (gm_SP l G L xs) := by
  intro m pc nx lk a b z ls st h nc ns Q idx q0 x hf hb4 hq0 hcat hnc hns g q hq p e s mid args below meth c H locs lo C hW hS hl hn
  have K := g q hq p e s mid args below meth c H locs lo C hW hS hl hn
  have hqe : q = q0 := Option.some.inj (hq.symm.trans hq0)
  subst hqe
  subst hb4
  obtain ⟨hx, hb, hml, hown, hts, hN, hK, -⟩ := C
  have hck := (gm_fe hq hf).2
  have hck : (decide ((gm_MT[lk]?).map (fun f => (f.1, f.2.1, f.2.2.1, f.2.2.2.1)) = some (q.2.2.2.2.1, idx, 5, a)) && (decide (1 ≤ q.2.2.2.2.2.2.1) && decide (8 + 13 ≤ q.2.2.2.2.2.2.2.1))) = true := hck
  simp only [Bool.and_eq_true, decide_eq_true_eq, and_assoc] at hck
  obtain ⟨hlk, hfr, hlo⟩ := hck
  obtain ⟨pl, hpl⟩ := gm_mlk hlk
  have hlink : Cond.methodLink (gm_own q.2.2.2.2.1) idx Lib.Math.abs.name ∈ gm_tbl := gm_in (of_decide_eq_true (show decide (lw_tbl[pl]? = some (.methodLink (gm_own q.2.2.2.2.1) idx Lib.Math.abs.name)) = true from hpl)) rfl
  obtain ⟨rfl, hd⟩ := gm_at hq hf rfl
  have wM := gm_wMath
  exact va_mabs hx hb (hml.trans hl.1.symm) hown (hts _ hlink) (hts _ (gm_in wM.2.1.1 rfl)) (hts _ (gm_in wM.2.2 rfl)) (hts _ (gm_in wM.2.1.2 rfl)) hfr (by show _ + 13 ≤ q.2.2.2.2.2.2.2.1; rw [gm_cats]; omega) hnc hns hd K
end GmF
end
section
section GmG
variable (l : Launch) (G : gm_G) (L : Nat) (xs : Nat → Int32)
set_option maxHeartbeats 4000000 in
theorem sd_cpi : rl_cpi L xs (gm_SP l G L xs) := by
  intro m pc nx lk a b z ls st h nc ns Q idx r w n1 n2 sp dp n hf hb2 hr hw h1 h2 h3 h4 h5 hcat g q hq p e s mid args below meth c H locs lo C hW hS hl hn
  have K := fun H1 locs1 hW1 hS1 => g q hq p e s mid args below meth c H1 locs1 lo C hW1 hS1 hl hn
  subst hb2
  obtain ⟨hx, hb, hml, hown, hts, hN, hK, -⟩ := C
  have hck := (gm_fe hq hf).2
  have hck : (decide ((gm_MT[lk]?).map (fun f => (f.1, f.2.1, f.2.2.1, f.2.2.2.1)) = some (q.2.2.2.2.1, idx, 2, a)) && (decide (1 ≤ q.2.2.2.2.2.2.1) && decide (8 + 18 ≤ q.2.2.2.2.2.2.2.1))) = true := hck
  simp only [Bool.and_eq_true, decide_eq_true_eq, and_assoc] at hck
  obtain ⟨hlk, hfr, hlo⟩ := hck
  obtain ⟨pl, hpl⟩ := gm_mlk hlk
  have hlink : Cond.methodLink (gm_own q.2.2.2.2.1) idx arraycopyName ∈ gm_tbl := gm_in (of_decide_eq_true (show decide (lw_tbl[pl]? = some (.methodLink (gm_own q.2.2.2.2.1) idx arraycopyName)) = true from hpl)) rfl
  obtain ⟨rfl, hd⟩ := gm_at hq hf rfl
  have wS := gm_wSys
  have nn : ∀ z : Int32, ¬ z < 0 → z.toInt = (z.toNatClampNeg : Int) := by
    intro z hz
    have hz0 : (0 : Int) ≤ z.toInt := by
      have := Int32.not_lt.mp hz
      simpa using Int32.le_iff_toInt_le.mp this
    show z.toInt = ((z.toInt.toNat : Nat) : Int)
    omega
  intro T hT X
  have hc0 : H[G.1 + r]? = some (vp_cell (G.2.2.1 0) (n1, .inl (h.2.1 r))) := hW.2 r _ (gm_ws_get hr)
  have hc1 : H[G.1 + w]? = some (vp_cell (G.2.2.1 0) (n2, .inl (h.2.1 w))) := hW.2 w _ (gm_ws_get hw)
  obtain ⟨-, k0, hk0, cm0, hkk0⟩ := (hK.2 0 _ rfl).1 n1 (fun j => .int (h.2.1 r j))
  obtain ⟨-, k1, hk1, cm1, hkk1⟩ := (hK.2 0 _ rfl).1 n2 (fun j => .int (h.2.1 w j))
  obtain ⟨vm', X', step⟩ := X.arraycopy hx hown (hts _ hlink) (hts _ (gm_in wS.1 rfl)) (hts _ (gm_in wS.2.1 rfl)) (hts _ (gm_in wS.2.2 rfl)) (src := G.1 + r) (dst := G.1 + w) (cs := vp_cell (G.2.2.1 0) (n1, .inl (h.2.1 r))) (cd := vp_cell (G.2.2.1 0) (n2, .inl (h.2.1 w))) (srcPos := sp) (destPos := dp) (n := n) (by rw [hT]; exact hc0) (by rw [hT]; exact hc1)
    (fun _ h => by cases h) (fun _ h => by cases h) (fun h => by cases h) (fun h => by cases h) hk0 hk1 hkk0 hkk1 (by simp [refKind]) h1 h2 h3
    (by rw [nn sp h1, nn n h3]; show ¬ _ > ((arrV _ n1 _).slots.size : Int); rw [arrV_size]; omega)
    (by rw [nn dp h2, nn n h3]; show ¬ _ > ((arrV _ n2 _).slots.size : Int); rw [arrV_size]; omega)
    (fun vm₁ _ i hi => by
      have e : (vp_cell (G.2.2.1 0) (n1, .inl (h.2.1 r))).slots.getD (sp.toNatClampNeg + i) .null = .int (h.2.1 r (sp.toNatClampNeg + i)) := by
        show (arrV (G.2.2.1 0) n1 (fun j => .int (h.2.1 r j))).slots.getD _ _ = _
        rw [Array.getD_eq_getD_getElem?, arrV_read _ _ (by omega)]
        rfl
      refine ⟨?_, ?_⟩
      · rw [e]
        rfl
      · rw [e]
        exact trivial)
    (g := F0 mid pc lo (.int n :: .int dp :: .ref (G.1 + w) :: .int sp :: .ref (G.1 + r) :: st.map (gm_cv G))) rfl (by rw [hml]; exact hl.1) (rest := st.map (gm_cv G)) rfl (by rw [hb]; exact hd) hfr (by
      show 2 * 0 + _ + (nativeFrameWords "java/lang/System" "arraycopy" 5 + 11) ≤ q.2.2.2.2.2.2.2.1
      have e1 : nativeFrameWords "java/lang/System" "arraycopy" 5 = 7 := by decide
      rw [gm_cats, e1]
      omega)
  have e1 : copied (vp_cell (G.2.2.1 0) (n1, .inl (h.2.1 r))) (vp_cell (G.2.2.1 0) (n2, .inl (h.2.1 w))) sp dp n = vp_cell (G.2.2.1 0) (n2, .inl (va_cpy (h.2.1 r) (h.2.1 w) sp.toNatClampNeg dp.toNatClampNeg n.toNatClampNeg)) := va_copied (fun z => .int z) _ _ (h.2.1 r) (h.2.1 w) h4
  rw [e1] at X' step
  have hlt : G.1 + w < H.size := (Array.getElem?_eq_some_iff.mp hc1).1
  generalize hY : vp_cell (G.2.2.1 0) (n2, .inl (va_cpy (h.2.1 r) (h.2.1 w) sp.toNatClampNeg dp.toNatClampNeg n.toNatClampNeg)) = Y at X' step
  have hheap : ((T.setVm vm').setCell (G.1 + w) Y).heap = H.setIfInBounds (G.1 + w) Y := by rw [← hT]; rfl
  have oq : ∀ q : Nat, q ≠ G.1 + w → (H.setIfInBounds (G.1 + w) Y)[q]? = H[q]? := fun q hq => by simp [Array.getElem?_setIfInBounds, Ne.symm hq]
  have zz : (H.setIfInBounds (G.1 + w) Y).size = H.size := by simp
  obtain ⟨t, a1, b1⟩ := K _ _ (hW.set hw rfl (fun k y hkr => gm_cI hkr y) (by
      show (H.setIfInBounds (G.1 + w) Y)[G.1 + w]? = some (vp_cell _ (n2, .inl (va_up (h.2.1) w (va_cpy (h.2.1 r) (h.2.1 w) sp.toNatClampNeg dp.toNatClampNeg n.toNatClampNeg) w)))
      rw [gm_upS, hY]
      simp [Array.getElem?_setIfInBounds, hlt]) zz oq) ⟨by rw [zz]; exact hS.1, fun q g1 g2 => by
      rw [oq q (fun e => g2 (by rw [e]; exact Nat.le_add_right _ _))]
      exact hS.2.1 q g1 g2, fun q hq => by
      rcases List.mem_append.mp hq with h | h
      · exact hS.2.2 q h
      · obtain ⟨z, -, hz⟩ := List.mem_map.mp h
        rw [← hz]
        exact Nat.le_add_right _ _⟩ _ hheap X'
  exact ⟨t, step t a1, b1⟩

set_option maxHeartbeats 4000000 in
theorem sd_cpl : rl_cpl L xs (gm_SP l G L xs) := by
  intro m pc nx lk a b z ls st h nc ns Q idx r w n1 n2 sp dp n hf hb2 hr hw h1 h2 h3 h4 h5 hcat g q hq p e s mid args below meth c H locs lo C hW hS hl hn
  have K := fun H1 locs1 hW1 hS1 => g q hq p e s mid args below meth c H1 locs1 lo C hW1 hS1 hl hn
  subst hb2
  obtain ⟨hx, hb, hml, hown, hts, hN, hK, -⟩ := C
  have hck := (gm_fe hq hf).2
  have hck : (decide ((gm_MT[lk]?).map (fun f => (f.1, f.2.1, f.2.2.1, f.2.2.2.1)) = some (q.2.2.2.2.1, idx, 2, a)) && (decide (1 ≤ q.2.2.2.2.2.2.1) && decide (8 + 18 ≤ q.2.2.2.2.2.2.2.1))) = true := hck
  simp only [Bool.and_eq_true, decide_eq_true_eq, and_assoc] at hck
  obtain ⟨hlk, hfr, hlo⟩ := hck
  obtain ⟨pl, hpl⟩ := gm_mlk hlk
  have hlink : Cond.methodLink (gm_own q.2.2.2.2.1) idx arraycopyName ∈ gm_tbl := gm_in (of_decide_eq_true (show decide (lw_tbl[pl]? = some (.methodLink (gm_own q.2.2.2.2.1) idx arraycopyName)) = true from hpl)) rfl
  obtain ⟨rfl, hd⟩ := gm_at hq hf rfl
  have wS := gm_wSys
  have nn : ∀ z : Int32, ¬ z < 0 → z.toInt = (z.toNatClampNeg : Int) := by
    intro z hz
    have hz0 : (0 : Int) ≤ z.toInt := by
      have := Int32.not_lt.mp hz
      simpa using Int32.le_iff_toInt_le.mp this
    show z.toInt = ((z.toInt.toNat : Nat) : Int)
    omega
  intro T hT X
  have hc0 : H[G.1 + r]? = some (vp_cell (G.2.2.1 1) (n1, .inr <| .inl (h.2.2.1 r))) := hW.2 r _ (gm_ws_get hr)
  have hc1 : H[G.1 + w]? = some (vp_cell (G.2.2.1 1) (n2, .inr <| .inl (h.2.2.1 w))) := hW.2 w _ (gm_ws_get hw)
  obtain ⟨-, k0, hk0, cm0, hkk0⟩ := (hK.2 1 _ rfl).1 n1 (fun j => .long (h.2.2.1 r j))
  obtain ⟨-, k1, hk1, cm1, hkk1⟩ := (hK.2 1 _ rfl).1 n2 (fun j => .long (h.2.2.1 w j))
  obtain ⟨vm', X', step⟩ := X.arraycopy hx hown (hts _ hlink) (hts _ (gm_in wS.1 rfl)) (hts _ (gm_in wS.2.1 rfl)) (hts _ (gm_in wS.2.2 rfl)) (src := G.1 + r) (dst := G.1 + w) (cs := vp_cell (G.2.2.1 1) (n1, .inr <| .inl (h.2.2.1 r))) (cd := vp_cell (G.2.2.1 1) (n2, .inr <| .inl (h.2.2.1 w))) (srcPos := sp) (destPos := dp) (n := n) (by rw [hT]; exact hc0) (by rw [hT]; exact hc1)
    (fun _ h => by cases h) (fun _ h => by cases h) (fun h => by cases h) (fun h => by cases h) hk0 hk1 hkk0 hkk1 (by simp [refKind]) h1 h2 h3
    (by rw [nn sp h1, nn n h3]; show ¬ _ > ((arrV _ n1 _).slots.size : Int); rw [arrV_size]; omega)
    (by rw [nn dp h2, nn n h3]; show ¬ _ > ((arrV _ n2 _).slots.size : Int); rw [arrV_size]; omega)
    (fun vm₁ _ i hi => by
      have e : (vp_cell (G.2.2.1 1) (n1, .inr <| .inl (h.2.2.1 r))).slots.getD (sp.toNatClampNeg + i) .null = .long (h.2.2.1 r (sp.toNatClampNeg + i)) := by
        show (arrV (G.2.2.1 1) n1 (fun j => .long (h.2.2.1 r j))).slots.getD _ _ = _
        rw [Array.getD_eq_getD_getElem?, arrV_read _ _ (by omega)]
        rfl
      refine ⟨?_, ?_⟩
      · rw [e]
        rfl
      · rw [e]
        exact trivial)
    (g := F0 mid pc lo (.int n :: .int dp :: .ref (G.1 + w) :: .int sp :: .ref (G.1 + r) :: st.map (gm_cv G))) rfl (by rw [hml]; exact hl.1) (rest := st.map (gm_cv G)) rfl (by rw [hb]; exact hd) hfr (by
      show 2 * 0 + _ + (nativeFrameWords "java/lang/System" "arraycopy" 5 + 11) ≤ q.2.2.2.2.2.2.2.1
      have e1 : nativeFrameWords "java/lang/System" "arraycopy" 5 = 7 := by decide
      rw [gm_cats, e1]
      omega)
  have e1 : copied (vp_cell (G.2.2.1 1) (n1, .inr <| .inl (h.2.2.1 r))) (vp_cell (G.2.2.1 1) (n2, .inr <| .inl (h.2.2.1 w))) sp dp n = vp_cell (G.2.2.1 1) (n2, .inr <| .inl (va_cpy (h.2.2.1 r) (h.2.2.1 w) sp.toNatClampNeg dp.toNatClampNeg n.toNatClampNeg)) := va_copied (fun z => .long z) _ _ (h.2.2.1 r) (h.2.2.1 w) h4
  rw [e1] at X' step
  have hlt : G.1 + w < H.size := (Array.getElem?_eq_some_iff.mp hc1).1
  generalize hY : vp_cell (G.2.2.1 1) (n2, .inr <| .inl (va_cpy (h.2.2.1 r) (h.2.2.1 w) sp.toNatClampNeg dp.toNatClampNeg n.toNatClampNeg)) = Y at X' step
  have hheap : ((T.setVm vm').setCell (G.1 + w) Y).heap = H.setIfInBounds (G.1 + w) Y := by rw [← hT]; rfl
  have oq : ∀ q : Nat, q ≠ G.1 + w → (H.setIfInBounds (G.1 + w) Y)[q]? = H[q]? := fun q hq => by simp [Array.getElem?_setIfInBounds, Ne.symm hq]
  have zz : (H.setIfInBounds (G.1 + w) Y).size = H.size := by simp
  obtain ⟨t, a1, b1⟩ := K _ _ (hW.set hw rfl (fun k y hkr => gm_cJ hkr y) (by
      show (H.setIfInBounds (G.1 + w) Y)[G.1 + w]? = some (vp_cell _ (n2, .inr <| .inl (va_up (h.2.2.1) w (va_cpy (h.2.2.1 r) (h.2.2.1 w) sp.toNatClampNeg dp.toNatClampNeg n.toNatClampNeg) w)))
      rw [gm_upS, hY]
      simp [Array.getElem?_setIfInBounds, hlt]) zz oq) ⟨by rw [zz]; exact hS.1, fun q g1 g2 => by
      rw [oq q (fun e => g2 (by rw [e]; exact Nat.le_add_right _ _))]
      exact hS.2.1 q g1 g2, fun q hq => by
      rcases List.mem_append.mp hq with h | h
      · exact hS.2.2 q h
      · obtain ⟨z, -, hz⟩ := List.mem_map.mp h
        rw [← hz]
        exact Nat.le_add_right _ _⟩ _ hheap X'
  exact ⟨t, step t a1, b1⟩

set_option maxHeartbeats 4000000 in
theorem sd_iret : rl_iret L xs (gm_SP l G L xs) := by
  intro m pc nx lk a b z ls h nc ns Q q0 ty x hf hq0 hty hnar hnc hns hQ q hq p e s mid args below meth c H locs lo C hW hS hl hn
  have hqe : q = q0 := Option.some.inj (hq.symm.trans hq0)
  subst hqe
  obtain ⟨hx, hb, hml, hown, hts, hN, hK, hX, hbB, hBs, hr, hlocks, -⟩ := C
  refine W.widen hnc hns ?_
  exact W.zret hx hb (hr.trans hty) hnar (fun t ht hWm => ⟨⟨.int x, h, by rw [hty]; rfl, by rw [ht]; exact hW, hQ⟩, hS.F ht⟩) hS.2.2 (gm_at hq hf rfl).2 hlocks
set_option maxHeartbeats 4000000 in
theorem sd_lret : rl_lret L xs (gm_SP l G L xs) := by
  intro m pc nx lk a b z ls h nc ns Q q0 x hf hq0 hty hnc hns hQ q hq p e s mid args below meth c H locs lo C hW hS hl hn
  have hqe : q = q0 := Option.some.inj (hq.symm.trans hq0)
  subst hqe
  obtain ⟨hx, hb, hml, hown, hts, hN, hK, hX, hbB, hBs, hr, hlocks, -⟩ := C
  refine W.widen hnc hns ?_
  exact W.lret hx hb (hr.trans hty) (fun t ht hWm => ⟨⟨.long x, h, by rw [hty]; rfl, by rw [ht]; exact hW, hQ⟩, hS.F ht⟩) hS.2.2 (gm_at hq hf rfl).2 hlocks
set_option maxHeartbeats 4000000 in
theorem sd_aret : rl_aret L xs (gm_SP l G L xs) := by
  intro m pc nx lk a b z ls h nc ns Q q0 n v hf hq0 hty hv hnc hns hQ q hq p e s mid args below meth c H locs lo C hW hS hl hn
  have hqe : q = q0 := Option.some.inj (hq.symm.trans hq0)
  subst hqe
  obtain ⟨hx, hb, hml, hown, hts, hN, hK, hX, hbB, hBs, hr, hlocks, -⟩ := C
  refine W.widen hnc hns ?_
  refine W.aret hx hb (hr.trans hty) (Or.inl ⟨_, rfl⟩) ?_ (fun t ht hWm => ⟨⟨v, h, by rw [hty]; rfl, by rw [ht]; exact hW, hQ⟩, hS.F ht⟩) hS.2.2 (gm_at hq hf rfl).2 hlocks
  rcases hv with rfl | ⟨r, rfl⟩
  · exact Or.inl rfl
  · exact Or.inr ⟨_, rfl⟩
set_option maxHeartbeats 4000000 in
theorem sd_ret : rl_ret L xs (gm_SP l G L xs) := by
  intro m pc nx lk a b z ls h nc ns Q q0 hf hq0 hty hnc hns hQ q hq p e s mid args below meth c H locs lo C hW hS hl hn
  have hqe : q = q0 := Option.some.inj (hq.symm.trans hq0)
  subst hqe
  obtain ⟨hx, hb, hml, hown, hts, hN, hK, hX, hbB, hBs, hr, hlocks, -⟩ := C
  refine W.widen hnc hns ?_
  exact W.vret hx hb (hr.trans hty) (fun t ht hWm => ⟨⟨.null, h, by rw [hty]; rfl, by rw [ht]; exact hW, hQ⟩, hS.F ht⟩) hS.2.2 (gm_at hq hf rfl).2 hlocks

/-- what the abstract machine shows, the machine does -/
theorem gm_sound : gm_Cl L xs (gm_SP l G L xs) := ⟨sd_psh l G L xs, sd_ld l G L xs, sd_st1 l G L xs, sd_st2 l G L xs, sd_inc l G L xs, sd_bin l G L xs, sd_div l G L xs, sd_rem l G L xs, sd_un l G L xs, sd_binl l G L xs, sd_shl l G L xs, sd_lcmp l G L xs, sd_i2l l G L xs, sd_l2i l G L xs, sd_dup l G L xs, sd_pop l G L xs, sd_dup2 l G L xs, sd_if l G L xs, sd_icmp l G L xs, sd_goto l G L xs, sd_ifnull l G L xs, sd_ifnullN l G L xs, sd_ifnn l G L xs, sd_ifnnN l G L xs, sd_tabO l G L xs, sd_tabI l G L xs, sd_get l G L xs, sd_puti l G L xs, sd_putl l G L xs, sd_putr l G L xs, sd_iald l G L xs, sd_lald l G L xs, sd_zald l G L xs, sd_aald l G L xs, sd_iast l G L xs, sd_last l G L xs, sd_zast l G L xs, sd_aast l G L xs, sd_alen l G L xs, sd_sld l G L xs, sd_slen l G L xs, sd_new l G L xs, sd_newa l G L xs, sd_anew l G L xs, sd_cV l G L xs, sd_cS l G L xs, sd_cI l G L xs, sd_obj l G L xs, sd_cpi l G L xs, sd_cpl l G L xs, sd_mmin l G L xs, sd_mabs l G L xs, sd_drop l G L xs, sd_iret l G L xs, sd_lret l G L xs, sd_aret l G L xs, sd_ret l G L xs⟩
end GmG
end
section
/-! THE CLAIM OUT OF ONE WALK OF THE LAW'S BODY. Your part is whole_start (and what it stands on); all else here is the same for every law, but numbers. -/
def R_law : String := "GridMenderLaw"
def lw_P (b : Addr) (xs : List Int32) (args : Array Value) (s : State) : Prop := args = #[.ref b] ∧ s.IntsAt b xs ∧ xs.length ≤ 3072 ∧ (Jvm.Cond.and given_1 narrow_1).before args s = true
def lw_Q (_ : Array Value) (s : State) (o : Outcome) (t : State) : Prop := o = .returned (some (.int 1)) ∧ Framed s o t [] 600000 7302250
def lw_Z (below : List Frame) (a : Array Value) (s : State) : State → Prop := fun t => ∃ o, t.status = .running ∧ Ended t below o ∧ lw_Q a s o t
/-- the law's own end, with 1 on the stack, nothing written that was there before, its room as the claim has it -/
theorem lw_ret {p : Program} {l : Launch} {e : Env} {s : State} {m : MethodId} {below : List Frame} {meth : Method} {c : Code} {b : Nat} (hx : p.tables.exec = Jvm.exec) (hb : c.code = code) (hr : meth.sig.returnType = ret) (hlocks : meth.locks = false) {pc : Nat} {H : Heap} {ls : Array Slot} (hdg : decode code pc = .ok (.ireturn, 1)) : W p l e room_1 s m #[Value.ref b] below meth c H [] 600000 7302250 (lw_Z below #[Value.ref b] s) (F0 m pc ls [.int 1]) := by
  intro T hT X
  obtain ⟨fs, hret, hrun, hended, hW, hframe⟩ := X.leave (v := some (.int 1)) (hlocks := hlocks) (fun h => by rw [hr] at h; cases h)
  have hmeth' : T.vm.method? m = some meth := X.method'
  refine ⟨T.setFrames fs, ?_, .returned (some (.int 1)), hrun, hended, rfl, ⟨_, rfl⟩, hW, hframe⟩
  jvm_step X.here [X.here.top, hx, hb, hdg, hmeth', hr, ret, narrow_b1]
  (try refine ⟨rfl, ?_⟩); (try refine ⟨rfl, ?_⟩)
  first | (intro acts; rw [hret _ acts rfl rfl rfl]) | rw [hret _ _ rfl rfl rfl]
  exact Steps.refl _
/-- what holds at the law's entry: the machine, the code, the tables' words (any of lw_tbl by 'hts w (by decide +kernel)'), the script of L ints xs at the cell b, what the Statement gives of the start (any of its parts by flat_of_before) -/
def lw_At (p : Program) (s : State) (m : MethodId) (meth : Method) (c : Code) (b L : Nat) (xs : Nat → Int32) : Prop :=
  p.tables.exec = Jvm.exec ∧ c.code = code ∧ meth.sig.returnType = ret ∧ c.maxLocals = 4 ∧ s.vm.findClass R_law = some m.cls ∧ (∀ w ∈ lw_tbl, w.before #[Value.ref b] s = true) ∧ va_X b L xs s s.heap ∧ b < s.heap.size ∧ meth.locks = false ∧ (Jvm.Cond.and given_1 narrow_1).before #[Value.ref b] s = true
theorem gm_arrT {ty : FieldType} {A : Array Value} {s : State} (h : (Cond.arrayClass ty).before A s = true) : ∃ cA, ArrOfT s cA ty ∧ s.vm.findClass ("[" ++ ty.toString) = some cA := by
  obtain ⟨cA, kA, comp, h1, h2, h3⟩ := Cond.arrayClass_spec h
  exact ⟨cA, fun n z => ⟨fun k h => (by cases h), kA, h2, comp, h3⟩, h1⟩
theorem gm_arrO {C : String} {A : Array Value} {s : State} (h : (Cond.arrayOver (.object C)).before A s = true) : ∃ cA, ArrOfT s cA (.object C) ∧ va_RA s cA (.object C) := by
  obtain ⟨comp, cA, kA, h1, -, h3, h4, h5⟩ := Cond.arrayOver_spec h
  exact ⟨cA, fun n z => ⟨fun k h => (by cases h), kA, h3, comp, h4⟩, kA, comp, h3, h4, h1, h5⟩
theorem gm_kn {ci : Nat} {cw : vw_C} (hc : gm_cl[ci]? = some cw) {A : Array Value} {s : State} (hts : ∀ w ∈ gm_tbl, w.before A s = true) : ∃ (cC : ClassId) (iS : Nat → Nat), u_Kn s cw.1 cw.2.1 cw.2.2 cC iS := by
  have hz : ∃ r, (gm_cl.zip gm_CP)[ci]? = some (cw, r) := by
    have hal : ci < gm_cl.length := (List.getElem?_eq_some_iff.mp hc).1
    refine ⟨gm_CP[ci]'(by exact hal), ?_⟩
    rw [List.getElem?_zip_eq_some]
    exact ⟨hc, List.getElem?_eq_getElem _⟩
  obtain ⟨r, hz⟩ := hz
  have h2 := List.all_eq_true.mp gm_ckI _ (List.mem_of_getElem? hz)
  rw [Bool.and_eq_true] at h2
  exact u_known hts (gm_uws hc) (hts _ (gm_in (of_decide_eq_true h2.1) rfl))
theorem gm_dcs {A : Array Value} {s : State} (hts : ∀ w ∈ gm_tbl, w.before A s = true) : ∃ (dC : Nat → ClassId) (dI : Nat → Nat → Nat), ∀ (c : Nat) (q : vw_C), gm_cl[c]? = some q → u_Kn s q.1 q.2.1 q.2.2 (dC c) (dI c) := by
  have h : ∀ c : Nat, ∃ (cC : ClassId) (iS : Nat → Nat), ∀ q, gm_cl[c]? = some q → u_Kn s q.1 q.2.1 q.2.2 cC iS := by
    intro c
    cases hc : gm_cl[c]? with
    | none => exact ⟨0, fun _ => 0, fun q hq => by cases hq⟩
    | some cw =>
      obtain ⟨cC, iS, hk⟩ := gm_kn hc hts
      exact ⟨cC, iS, fun q hq => by cases hq; exact hk⟩
  exact ⟨fun c => Classical.choose (h c), fun c => Classical.choose (Classical.choose_spec (h c)), fun c q hq => Classical.choose_spec (Classical.choose_spec (h c)) q hq⟩
def gm_h0 : gm_H := ([], fun _ _ => 0, fun _ _ => 0, fun _ _ => none)
set_option maxHeartbeats 4000000 in
/-- THE LAW, from its entry, out of what the abstract machine does -/
theorem gm_start (hgo : ∀ (L : Nat) (xs : Nat → Int32), L ≤ 3072 → Go L xs 199 0 [some (.retAddr 0), none, none, none] [] gm_h0 0 0 (fun v _ => v = .int 1)) {p : Program} {e : Env} {s : State} {m : MethodId} {below : List Frame} {meth : Method} {c : Code} (l : Launch) {b L : Nat} {xs : Nat → Int32} (hL : L ≤ 3072) (C0 : lw_At p s m meth c b L xs) : W p l e room_1 s m #[Value.ref b] below meth c s.heap [] 0 0 (lw_Z below #[Value.ref b] s) (entryFrame m ([Value.ref b] : List Value).toArray 4) := by
  obtain ⟨hx, hb, hr, hml, hown, hts0, hX, hbl, hlocks, hgv⟩ := C0
  have hts : ∀ w ∈ gm_tbl, w.before #[Value.ref b] s = true := fun w hw => hts0 w (List.mem_filter.mp hw).1
  have wA := gm_wArr
  obtain ⟨c0, a0, f0⟩ := gm_arrT (hts _ (gm_in wA.1 rfl))
  obtain ⟨c1, a1, f1⟩ := gm_arrT (hts _ (gm_in wA.2.1 rfl))
  obtain ⟨c2, a2, f2⟩ := gm_arrT (hts _ (gm_in wA.2.2.1 rfl))
  obtain ⟨c3, a3, f3⟩ := gm_arrO (hts0 _ (List.mem_of_getElem? wA.2.2.2.1))
  obtain ⟨c4, a4, f4⟩ := gm_arrO (hts0 _ (List.mem_of_getElem? wA.2.2.2.2))
  obtain ⟨dC, dI, hKc⟩ := gm_dcs hts
  obtain ⟨ids, i0, i1, i2, i3, i4⟩ : ∃ ids : Nat → ClassId, ids 0 = c0 ∧ ids 1 = c1 ∧ ids 2 = c2 ∧ ids 3 = c3 ∧ ids 4 = c4 := ⟨fun k => if k = 0 then c0 else if k = 1 then c1 else if k = 2 then c2 else if k = 3 then c3 else c4, rfl, rfl, rfl, rfl, rfl⟩
  have hK : va_K (dC, dI) gm_cl (gm_tl ids) s := by
    refine ⟨hKc, fun k q hq => ?_⟩
    rcases k with _ | _ | _ | _ | _ | k
    · cases hq; rw [i0]; exact ⟨a0, f0⟩
    · cases hq; rw [i1]; exact ⟨a1, f1⟩
    · cases hq; rw [i2]; exact ⟨a2, f2⟩
    · cases hq; rw [i3]; exact ⟨a3, f3⟩
    · cases hq; rw [i4]; exact ⟨a4, f4⟩
    · simp [gm_tl] at hq
  obtain ⟨G, hG⟩ : ∃ G : gm_G, G = (s.heap.size, b, ids, (dC, dI)) := ⟨_, rfl⟩
  have hN : gm_N s := ⟨fun a i x n hx => va_Nw.of rfl (hts0 _ hx), va_AO.of (hts0 _ (List.mem_of_getElem? wA.2.2.2.1)), va_AO.of (hts0 _ (List.mem_of_getElem? wA.2.2.2.2))⟩
  have hq : gm_PT[199]? = some (yL_law, cL_law, 4, some .boolean, 12, 1, 11, 434, 600000, 7302250, cd_199) := rfl
  have hl := lv_entry ([.ref b]) (n := 4) (Nat.le_of_ble_eq_true rfl)
  rw [lg_entry_eq]
  have hW0 : gm_WW G gm_h0 s.heap := ⟨by rw [hG]; rfl, fun k q hk => by simp [gm_ws, gm_h0] at hk⟩
  have hl2 : lv_has ((lg_sl ([.ref b]) ++ List.replicate (4 - (lg_sl ([.ref b])).length) Slot.unset).toArray) 4 (gm_al (gm_cv G) 0 [some (.retAddr 0), none, none, none]) := by rw [hG]; exact hl
  have K := hgo L xs hL (gm_SP l G L xs) (gm_sound l G L xs) _ hq p e s m #[.ref b] below meth c s.heap [] _ ⟨hx, hb, hml, hown, hts, hN, by rw [hG]; exact hK, by rw [hG]; exact hX, by rw [hG]; exact hbl, by rw [hG]; exact Nat.le_refl _, hr, hlocks, fun hz => absurd hz (by decide)⟩ hW0 va_S.rf hl2 rfl
  intro T hT X
  obtain ⟨t, st, o, hrun, hend, hQc, Lc, hF, hLc⟩ := K T hT X
  obtain ⟨⟨v, h2, ho, -, hv⟩, -⟩ := hQc
  subst hv
  refine ⟨t, st, o, hrun, hend, ho, hF.1, hF.2.1, hF.2.2.weaken (fun x hx hlt => absurd hlt (Nat.not_lt.mpr (by have := hLc x hx; rw [hG] at this; exact this))) (Nat.le_refl _) (Nat.le_refl _)⟩
end
section
/-! the heap behind the two constructors: shapes and references stay -/
def SH : List (Nat × Nat) := [(0, 6), (0, 0), (1, 7), (0, 3), (0, 4), (1, 35), (1, 245), (2, 35), (2, 7), (0, 4), (1, 35), (1, 245), (2, 35), (2, 7), (1, 7), (1, 7), (1, 245), (1, 7), (0, 1), (1, 81), (1, 81), (1, 162), (1, 162), (0, 2), (1, 7), (6, 6), (9, 4), (0, 2), (1, 7), (0, 2), (1, 7), (0, 2), (1, 7), (0, 2), (1, 7), (0, 2), (1, 7), (0, 2), (1, 7), (0, 5), (1, 60), (0, 5), (1, 60), (0, 5), (1, 60), (0, 5), (1, 60), (0, 7), (1, 4), (1, 4), (1, 240), (1, 60), (1, 7), (1, 7), (1, 40), (1, 280), (3, 40), (3, 1600), (3, 40), (3, 40), (1, 280), (1, 7), (3, 49), (3, 196), (1, 98), (1, 98), (1, 42), (1, 6), (1, 6), (1, 6)]
def MR : Nat → Nat → Option Nat := fun r k => match r with
  | 0 => (match k with | 0 => some 1 | 1 => some 3 | 2 => some 18 | 3 => some 23 | 4 => some 25 | 5 => some 26 | _ => none)
  | 1 => (match k with | 6 => some 2 | _ => none)
  | 3 => (match k with | 0 => some 1 | 1 => some 4 | 2 => some 8 | 3 => some 9 | 4 => some 13 | 5 => some 14 | 6 => some 15 | 7 => some 16 | 8 => some 17 | _ => none)
  | 4 => (match k with | 1 => some 5 | 2 => some 6 | 3 => some 7 | _ => none)
  | 9 => (match k with | 1 => some 10 | 2 => some 11 | 3 => some 12 | _ => none)
  | 18 => (match k with | 0 => some 1 | 1 => some 19 | 2 => some 20 | 3 => some 21 | 4 => some 22 | _ => none)
  | 23 => (match k with | 4 => some 24 | _ => none)
  | 25 => (match k with | 0 => some 27 | 1 => some 29 | 2 => some 31 | 3 => some 33 | 4 => some 35 | 5 => some 37 | _ => none)
  | 26 => (match k with | 0 => some 39 | 1 => some 41 | 2 => some 43 | 3 => some 45 | _ => none)
  | 27 => (match k with | 4 => some 28 | _ => none)
  | 29 => (match k with | 4 => some 30 | _ => none)
  | 31 => (match k with | 4 => some 32 | _ => none)
  | 33 => (match k with | 4 => some 34 | _ => none)
  | 35 => (match k with | 4 => some 36 | _ => none)
  | 37 => (match k with | 4 => some 38 | _ => none)
  | 39 => (match k with | 3 => some 40 | _ => none)
  | 41 => (match k with | 3 => some 42 | _ => none)
  | 43 => (match k with | 3 => some 44 | _ => none)
  | 45 => (match k with | 3 => some 46 | _ => none)
  | 47 => (match k with | 0 => some 48 | 1 => some 49 | 2 => some 50 | 3 => some 51 | 10 => some 52 | 12 => some 53 | 14 => some 54 | 15 => some 55 | 16 => some 56 | 17 => some 57 | 19 => some 58 | 20 => some 59 | 21 => some 60 | 22 => some 61 | 23 => some 62 | 24 => some 63 | 25 => some 64 | 26 => some 65 | 29 => some 66 | 30 => some 67 | 31 => some 68 | 32 => some 69 | _ => none)
  | _ => none
abbrev Mi : Type := Nat → Nat → Int32
abbrev Ml : Type := Nat → Nat → Int64
def gm_w (Q : Value → Mi → Ml → Prop) : Value → gm_H → Prop := fun v h => h.1 = SH ∧ h.2.2.2 = MR ∧ Q v h.2.1 h.2.2.1
def Sg (m pc : Nat) (ls : gm_L) (st : List Value) (mi : Mi) (ml : Ml) (Q : Value → Mi → Ml → Prop) : Prop := ∀ (L : Nat) (xs : Nat → Int32), Go L xs m pc ls st (SH, mi, ml, MR) 0 0 (gm_w Q)
def qi (F : Int32 → Mi → Ml → Prop) : Value → Mi → Ml → Prop := fun v mi ml => ∃ x, v = .int x ∧ F x mi ml
def ql (F : Int64 → Mi → Ml → Prop) : Value → Mi → Ml → Prop := fun v mi ml => ∃ x, v = .long x ∧ F x mi ml
def qv (F : Mi → Ml → Prop) : Value → Mi → Ml → Prop := fun _ mi ml => F mi ml
def qr (F : Option Nat → Mi → Ml → Prop) : Value → Mi → Ml → Prop := fun v mi ml => ∃ x, v = gm_ov x ∧ F x mi ml
/-- the tables of seats, the layings, the sheets, the rows of longs, any row of ints -/
def isT (r : Nat) : Prop := SH[r]? = some (0, 4) ∧ MR r 1 = some (r + 1) ∧ MR r 2 = some (r + 2) ∧ MR r 3 = some (r + 3) ∧ SH[r + 1]? = some (1, 35) ∧ SH[r + 2]? = some (1, 245) ∧ SH[r + 3]? = some (2, 35)
def isY (r : Nat) : Prop := SH[r]? = some (0, 2) ∧ MR r 4 = some (r + 1) ∧ SH[r + 1]? = some (1, 7)
def isS (r : Nat) : Prop := SH[r]? = some (0, 5) ∧ MR r 3 = some (r + 1) ∧ SH[r + 1]? = some (1, 60)
def isJ (r : Nat) : Prop := SH[r]? = some (2, 7)
def isI (r n : Nat) : Prop := SH[r]? = some (1, n)
section GmS
variable {m pc nx lk a b : Nat} {z : Int} {ls : gm_L} {st : List Value} {mi : Mi} {ml : Ml} {Q : Value → Mi → Ml → Prop}
theorem sg_psh {ins : Instr} (f : gm_fetch m pc = some (nx, ins, lk, a, b, z)) {v : Value} (hv : gm_psh ins z = some v) (g : Sg m nx ls (v :: st) mi ml Q) : Sg m pc ls st mi ml Q := fun L xs => go_psh f hv (g L xs)
theorem sg_ld {ins : Instr} (f : gm_fetch m pc = some (nx, ins, lk, a, b, z)) {v : Value} {k : Nat} (hv : gm_ldi ins = some (gm_kd v, k)) (hk : ls[k]? = some (some v)) (g : Sg m nx ls (v :: st) mi ml Q) : Sg m pc ls st mi ml Q := fun L xs => go_ld f hv hk (g L xs)
theorem sg_st1 {ins : Instr} (f : gm_fetch m pc = some (nx, ins, lk, a, b, z)) {v : Value} {k : Nat} {ls' : gm_L} (hv : gm_sti ins = some (gm_kd v, k)) (h1 : Nat.beq (gm_kd v) 1 = false) (hk : Nat.blt k ls.length = true) (he : gm_s1 ls k v = ls') (g : Sg m nx ls' st mi ml Q) : Sg m pc ls (v :: st) mi ml Q := fun L xs => go_st1 f hv (fun hz => by rw [hz] at h1; cases h1) (Nat.le_of_ble_eq_true hk) (he ▸ g L xs)
theorem sg_st2 {ins : Instr} (f : gm_fetch m pc = some (nx, ins, lk, a, b, z)) {x : Int64} {k : Nat} {ls' : gm_L} (hv : gm_sti ins = some (1, k)) (hk : Nat.blt (k + 1) ls.length = true) (he : gm_s2 ls k (.long x) = ls') (g : Sg m nx ls' st mi ml Q) : Sg m pc ls (.long x :: st) mi ml Q := fun L xs => go_st2 f hv (Nat.le_of_ble_eq_true hk) (he ▸ g L xs)
theorem sg_inc {k : Nat} {n : Int} (f : gm_fetch m pc = some (nx, .iinc k n, lk, a, b, z)) {x d : Int32} {ls' : gm_L} (hk : ls[k]? = some (some (.int x))) (hd : Int32.ofInt n = d) (he : gm_s1 ls k (.int (x + d)) = ls') (g : Sg m nx ls' st mi ml Q) : Sg m pc ls st mi ml Q := fun L xs => go_inc f hk (by rw [hd, he]; exact g L xs)
theorem sg_bin {ins : Instr} (f : gm_fetch m pc = some (nx, ins, lk, a, b, z)) {F : Int32 → Int32 → Int32} {x y : Int32} (hv : gm_bin ins = some F) (g : Sg m nx ls (.int (F x y) :: st) mi ml Q) : Sg m pc ls (.int y :: .int x :: st) mi ml Q := fun L xs => go_bin f hv (g L xs)
theorem sg_div (f : gm_fetch m pc = some (nx, .idiv, lk, a, b, z)) {x y : Int32} (h : ¬ y = 0) (g : Sg m nx ls (.int (x / y) :: st) mi ml Q) : Sg m pc ls (.int y :: .int x :: st) mi ml Q := fun L xs => go_div f h (g L xs)
theorem sg_rem (f : gm_fetch m pc = some (nx, .irem, lk, a, b, z)) {x y : Int32} (h : ¬ y = 0) (g : Sg m nx ls (.int (x - x / y * y) :: st) mi ml Q) : Sg m pc ls (.int y :: .int x :: st) mi ml Q := fun L xs => go_rem f h (g L xs)
theorem sg_un {ins : Instr} (f : gm_fetch m pc = some (nx, ins, lk, a, b, z)) {F : Int32 → Int32} {x : Int32} (hv : gm_un ins = some F) (g : Sg m nx ls (.int (F x) :: st) mi ml Q) : Sg m pc ls (.int x :: st) mi ml Q := fun L xs => go_un f hv (g L xs)
theorem sg_binl {ins : Instr} (f : gm_fetch m pc = some (nx, ins, lk, a, b, z)) {F : Int64 → Int64 → Int64} {x y : Int64} (hv : gm_binl ins = some F) (g : Sg m nx ls (.long (F x y) :: st) mi ml Q) : Sg m pc ls (.long y :: .long x :: st) mi ml Q := fun L xs => go_binl f hv (g L xs)
theorem sg_shl {ins : Instr} (f : gm_fetch m pc = some (nx, ins, lk, a, b, z)) {F : Int64 → Int32 → Int64} {x : Int64} {y : Int32} (hv : gm_shl ins = some F) (g : Sg m nx ls (.long (F x y) :: st) mi ml Q) : Sg m pc ls (.int y :: .long x :: st) mi ml Q := fun L xs => go_shl f hv (g L xs)
theorem sg_lcmp (f : gm_fetch m pc = some (nx, .lcmp, lk, a, b, z)) {x y : Int64} (g : Sg m nx ls (.int (lg_cmp x y) :: st) mi ml Q) : Sg m pc ls (.long y :: .long x :: st) mi ml Q := fun L xs => go_lcmp f (g L xs)
theorem sg_i2l (f : gm_fetch m pc = some (nx, .i2l, lk, a, b, z)) {x : Int32} (g : Sg m nx ls (.long x.toInt64 :: st) mi ml Q) : Sg m pc ls (.int x :: st) mi ml Q := fun L xs => go_i2l f (g L xs)
theorem sg_l2i (f : gm_fetch m pc = some (nx, .l2i, lk, a, b, z)) {x : Int64} (g : Sg m nx ls (.int x.toInt32 :: st) mi ml Q) : Sg m pc ls (.long x :: st) mi ml Q := fun L xs => go_l2i f (g L xs)
theorem sg_dup (f : gm_fetch m pc = some (nx, .dup, lk, a, b, z)) {v : Value} (hv : v.category = 1) (g : Sg m nx ls (v :: v :: st) mi ml Q) : Sg m pc ls (v :: st) mi ml Q := fun L xs => go_dup f hv (g L xs)
theorem sg_pop (f : gm_fetch m pc = some (nx, .pop, lk, a, b, z)) {v : Value} (hv : v.category = 1) (g : Sg m nx ls st mi ml Q) : Sg m pc ls (v :: st) mi ml Q := fun L xs => go_pop f hv (g L xs)
theorem sg_dup2 (f : gm_fetch m pc = some (nx, .dup2, lk, a, b, z)) {v w : Value} (hv : v.category = 1) (hw : w.category = 1) (g : Sg m nx ls (v :: w :: v :: w :: st) mi ml Q) : Sg m pc ls (v :: w :: st) mi ml Q := fun L xs => go_dup2 f hv hw (g L xs)
theorem sg_if {c : ClassFile.Cond} {off : Int} (f : gm_fetch m pc = some (nx, .ifCond c off, lk, a, b, z)) {x : Int32} (g0 : gm_cnd c x 0 → Sg m a ls st mi ml Q) (g1 : ¬ gm_cnd c x 0 → Sg m nx ls st mi ml Q) : Sg m pc ls (.int x :: st) mi ml Q := fun L xs => go_if f (fun h => g0 h L xs) (fun h => g1 h L xs)
theorem sg_icmp {c : ClassFile.Cond} {off : Int} (f : gm_fetch m pc = some (nx, .if_icmp c off, lk, a, b, z)) {x y : Int32} (g0 : gm_cnd c x y → Sg m a ls st mi ml Q) (g1 : ¬ gm_cnd c x y → Sg m nx ls st mi ml Q) : Sg m pc ls (.int y :: .int x :: st) mi ml Q := fun L xs => go_icmp f (fun h => g0 h L xs) (fun h => g1 h L xs)
theorem sg_goto {off : Int} (f : gm_fetch m pc = some (nx, .goto off, lk, a, b, z)) (g : Sg m a ls st mi ml Q) : Sg m pc ls st mi ml Q := fun L xs => go_goto f (g L xs)
theorem sg_ifnull {off : Int} (f : gm_fetch m pc = some (nx, .ifnull off, lk, a, b, z)) {r : Nat} (g : Sg m nx ls st mi ml Q) : Sg m pc ls (.ref r :: st) mi ml Q := fun L xs => go_ifnull f (g L xs)
theorem sg_ifnullN {off : Int} (f : gm_fetch m pc = some (nx, .ifnull off, lk, a, b, z)) (g : Sg m a ls st mi ml Q) : Sg m pc ls (.null :: st) mi ml Q := fun L xs => go_ifnullN f (g L xs)
theorem sg_ifnn {off : Int} (f : gm_fetch m pc = some (nx, .ifnonnull off, lk, a, b, z)) {r : Nat} (g : Sg m a ls st mi ml Q) : Sg m pc ls (.ref r :: st) mi ml Q := fun L xs => go_ifnn f (g L xs)
theorem sg_ifnnN {off : Int} (f : gm_fetch m pc = some (nx, .ifnonnull off, lk, a, b, z)) (g : Sg m nx ls st mi ml Q) : Sg m pc ls (.null :: st) mi ml Q := fun L xs => go_ifnnN f (g L xs)
theorem sg_tabO {d lo hi : Int} {offs : Array Int} (f : gm_fetch m pc = some (nx, .tableswitch d lo hi offs, lk, a, b, z)) {x : Int32} {t : Nat} (h : x.toInt < lo ∨ hi < x.toInt) (ht : (pc : Int) + d = (t : Int)) (g : Sg m t ls st mi ml Q) : Sg m pc ls (.int x :: st) mi ml Q := fun L xs => go_tabO f h ht (g L xs)
theorem sg_tabI {d lo hi off : Int} {offs : Array Int} (f : gm_fetch m pc = some (nx, .tableswitch d lo hi offs, lk, a, b, z)) {x : Int32} {t : Nat} (h1 : ¬ x.toInt < lo) (h2 : ¬ hi < x.toInt) (ho : offs[(x.toInt - lo).toNat]? = some off) (ht : (pc : Int) + off = (t : Int)) (g : Sg m t ls st mi ml Q) : Sg m pc ls (.int x :: st) mi ml Q := fun L xs => go_tabI f h1 h2 ho ht (g L xs)
theorem sg_geti {idx r : Nat} (f : gm_fetch m pc = some (nx, .getfield idx, lk, a, b, z)) (hr : SH[r]? = some (0, a)) (hf : gm_ft a b = 0) {x : Int32} (hx : mi r b = x) (g : Sg m nx ls (.int x :: st) mi ml Q) : Sg m pc ls (.ref r :: st) mi ml Q := fun L xs => go_get f hr (by rw [gm_fvI hf]; show Go L xs m nx ls (.int (mi r b) :: st) _ _ _ _; rw [hx]; exact g L xs)
theorem sg_getl {idx r : Nat} (f : gm_fetch m pc = some (nx, .getfield idx, lk, a, b, z)) (hr : SH[r]? = some (0, a)) (hf : gm_ft a b = 1) {x : Int64} (hx : ml r b = x) (g : Sg m nx ls (.long x :: st) mi ml Q) : Sg m pc ls (.ref r :: st) mi ml Q := fun L xs => go_get f hr (by rw [gm_fvL hf]; show Go L xs m nx ls (.long (ml r b) :: st) _ _ _ _; rw [hx]; exact g L xs)
theorem sg_getr {idx r w : Nat} (f : gm_fetch m pc = some (nx, .getfield idx, lk, a, b, z)) (hr : SH[r]? = some (0, a)) (hf : gm_ft a b = 2) (hw : MR r b = some w) (g : Sg m nx ls (.ref w :: st) mi ml Q) : Sg m pc ls (.ref r :: st) mi ml Q := fun L xs => go_get f hr (by rw [gm_fvR hf]; show Go L xs m nx ls (gm_ov (MR r b) :: st) _ _ _ _; rw [hw]; exact g L xs)
theorem sg_puti {idx r : Nat} {x : Int32} (f : gm_fetch m pc = some (nx, .putfield idx, lk, a, b, z)) (hr : SH[r]? = some (0, a)) (hf : gm_ft a b = 0) (hn : gm_fin a b = false) (hb : gm_ty a b = .boolean → x = 0 ∨ x = 1) (g : Sg m nx ls st (va_up mi r (va_up (mi r) b x)) ml Q) : Sg m pc ls (.int x :: .ref r :: st) mi ml Q := fun L xs => go_puti f hr hf hn hb (g L xs)
theorem sg_puti2 {idx r : Nat} {x : Int32} {mj : Mi} {fj : Nat → Int32} (f : gm_fetch m pc = some (nx, .putfield idx, lk, a, b, z)) (hr : SH[r]? = some (0, a)) (hf : gm_ft a b = 0) (hn : gm_fin a b = false) (hb : gm_ty a b = .boolean → x = 0 ∨ x = 1) (g : Sg m nx ls st (va_up mj r (va_up fj b x)) ml Q) : Sg m pc ls (.int x :: .ref r :: st) (va_up mj r fj) ml Q := sg_puti f hr hf hn hb (by rw [bx_uu, gm_upS]; exact g)
theorem sg_putl {idx r : Nat} {x : Int64} (f : gm_fetch m pc = some (nx, .putfield idx, lk, a, b, z)) (hr : SH[r]? = some (0, a)) (hf : gm_ft a b = 1) (hn : gm_fin a b = false) (g : Sg m nx ls st mi (va_up ml r (va_up (ml r) b x)) Q) : Sg m pc ls (.long x :: .ref r :: st) mi ml Q := fun L xs => go_putl f hr hf hn (g L xs)
theorem sg_iald {r n : Nat} {i : Int32} (f : gm_fetch m pc = some (nx, .iaload, lk, a, b, z)) (hr : SH[r]? = some (1, n)) (hi : vp_in i n) {x : Int32} (hx : mi r i.toNatClampNeg = x) (g : Sg m nx ls (.int x :: st) mi ml Q) : Sg m pc ls (.int i :: .ref r :: st) mi ml Q := fun L xs => go_iald f hr hi (by show Go L xs m nx ls (.int (mi r i.toNatClampNeg) :: st) _ _ _ _; rw [hx]; exact g L xs)
theorem sg_lald {r n : Nat} {i : Int32} (f : gm_fetch m pc = some (nx, .laload, lk, a, b, z)) (hr : SH[r]? = some (2, n)) (hi : vp_in i n) {x : Int64} (hx : ml r i.toNatClampNeg = x) (g : Sg m nx ls (.long x :: st) mi ml Q) : Sg m pc ls (.int i :: .ref r :: st) mi ml Q := fun L xs => go_lald f hr hi (by show Go L xs m nx ls (.long (ml r i.toNatClampNeg) :: st) _ _ _ _; rw [hx]; exact g L xs)
theorem sg_zald {r n : Nat} {i : Int32} (f : gm_fetch m pc = some (nx, .baload, lk, a, b, z)) (hr : SH[r]? = some (3, n)) (hi : vp_in i n) {x : Int32} (hx : mi r i.toNatClampNeg = x) (g : Sg m nx ls (.int x :: st) mi ml Q) : Sg m pc ls (.int i :: .ref r :: st) mi ml Q := fun L xs => go_zald f hr hi (by show Go L xs m nx ls (.int (mi r i.toNatClampNeg) :: st) _ _ _ _; rw [hx]; exact g L xs)
theorem sg_aald {r n j : Nat} {i : Int32} (f : gm_fetch m pc = some (nx, .aaload, lk, a, b, z)) (hr : SH[r]? = some (j + 4, n)) (hi : vp_in i n) (hj : j = 2 ∨ j = 5) (g : Sg m nx ls (gm_ov (MR r i.toNatClampNeg) :: st) mi ml Q) : Sg m pc ls (.int i :: .ref r :: st) mi ml Q := fun L xs => go_aald f hr hi hj (g L xs)
theorem sg_iast {r n : Nat} {i x : Int32} (f : gm_fetch m pc = some (nx, .iastore, lk, a, b, z)) (hr : SH[r]? = some (1, n)) (hi : vp_in i n) (g : Sg m nx ls st (va_up mi r (va_up (mi r) i.toNatClampNeg x)) ml Q) : Sg m pc ls (.int x :: .int i :: .ref r :: st) mi ml Q := fun L xs => go_iast f hr hi (g L xs)
theorem sg_last {r n : Nat} {i : Int32} {x : Int64} (f : gm_fetch m pc = some (nx, .lastore, lk, a, b, z)) (hr : SH[r]? = some (2, n)) (hi : vp_in i n) (g : Sg m nx ls st mi (va_up ml r (va_up (ml r) i.toNatClampNeg x)) Q) : Sg m pc ls (.long x :: .int i :: .ref r :: st) mi ml Q := fun L xs => go_last f hr hi (g L xs)
theorem sg_zast {r n : Nat} {i x : Int32} (f : gm_fetch m pc = some (nx, .bastore, lk, a, b, z)) (hr : SH[r]? = some (3, n)) (hi : vp_in i n) (hx : x = 0 ∨ x = 1) (g : Sg m nx ls st (va_up mi r (va_up (mi r) i.toNatClampNeg x)) ml Q) : Sg m pc ls (.int x :: .int i :: .ref r :: st) mi ml Q := fun L xs => go_zast f hr hi hx (g L xs)
theorem sg_iast2 {r n : Nat} {i x : Int32} {mj : Mi} {fj : Nat → Int32} (f : gm_fetch m pc = some (nx, .iastore, lk, a, b, z)) (hr : SH[r]? = some (1, n)) (hi : vp_in i n) (g : Sg m nx ls st (va_up mj r (va_up fj i.toNatClampNeg x)) ml Q) : Sg m pc ls (.int x :: .int i :: .ref r :: st) (va_up mj r fj) ml Q := sg_iast f hr hi (by rw [bx_uu, gm_upS]; exact g)
theorem sg_zast2 {r n : Nat} {i x : Int32} {mj : Mi} {fj : Nat → Int32} (f : gm_fetch m pc = some (nx, .bastore, lk, a, b, z)) (hr : SH[r]? = some (3, n)) (hi : vp_in i n) (hx : x = 0 ∨ x = 1) (g : Sg m nx ls st (va_up mj r (va_up fj i.toNatClampNeg x)) ml Q) : Sg m pc ls (.int x :: .int i :: .ref r :: st) (va_up mj r fj) ml Q := sg_zast f hr hi hx (by rw [bx_uu, gm_upS]; exact g)
theorem sg_last2 {r n : Nat} {i : Int32} {x : Int64} {mj : Ml} {fj : Nat → Int64} (f : gm_fetch m pc = some (nx, .lastore, lk, a, b, z)) (hr : SH[r]? = some (2, n)) (hi : vp_in i n) (g : Sg m nx ls st mi (va_up mj r (va_up fj i.toNatClampNeg x)) Q) : Sg m pc ls (.long x :: .int i :: .ref r :: st) mi (va_up mj r fj) Q := sg_last f hr hi (by rw [bx_uu, gm_upS]; exact g)
theorem sg_drop (ks : List Nat) {ls2 : gm_L} (he : gm_dr ls ks = ls2) (g : Sg m pc ls2 st mi ml Q) : Sg m pc ls st mi ml Q := fun L xs => go_drop (ks := ks) (by rw [he]; exact g L xs)
theorem gm_kd_ov (x : Option Nat) : gm_kd (gm_ov x) = 2 := by cases x <;> rfl
theorem sg_ldo {ins : Instr} (f : gm_fetch m pc = some (nx, ins, lk, a, b, z)) {x : Option Nat} {k : Nat} (hv : gm_ldi ins = some (2, k)) (hk : ls[k]? = some (some (gm_ov x))) (g : Sg m nx ls (gm_ov x :: st) mi ml Q) : Sg m pc ls st mi ml Q := sg_ld f (by rw [gm_kd_ov]; exact hv) hk g
theorem sg_sto {ins : Instr} (f : gm_fetch m pc = some (nx, ins, lk, a, b, z)) {x : Option Nat} {k : Nat} {ls' : gm_L} (hv : gm_sti ins = some (2, k)) (hk : Nat.blt k ls.length = true) (he : gm_s1 ls k (gm_ov x) = ls') (g : Sg m nx ls' st mi ml Q) : Sg m pc ls (gm_ov x :: st) mi ml Q := sg_st1 f (by rw [gm_kd_ov]; exact hv) (by rw [gm_kd_ov]; rfl) hk he g
theorem gm_nz {x : Int32} (h : x = 0 ∨ x = 1) : narrow .boolean (.int x) = .int x := by rcases h with rfl | rfl <;> decide
theorem gm_qv {F : Mi → Ml → Prop} {v : Value} (h : qv F v mi ml) : F mi ml := h
theorem gm_swk {x : Int32} {n : Nat} (c : ¬ (x.toInt < 0 ∨ (n : Int) < x.toInt)) : ∃ k : Nat, k ≤ n ∧ x = nI k := by
  refine ⟨x.toInt.toNat, by omega, ?_⟩
  have h0 : 0 ≤ x.toInt := by omega
  apply Int32.toInt_inj.mp
  have hlt : x.toInt.toNat < 2 ^ 31 := by
    have := Int32.toInt_lt x
    omega
  rw [nI_toInt hlt]
  omega
theorem sg_alen {r n : Nat} (f : gm_fetch m pc = some (nx, .arraylength, lk, a, b, z)) (hr : SH[r]? = some (1, n)) (g : Sg m nx ls (.int (Int32.ofNat n) :: st) mi ml Q) : Sg m pc ls (.ref r :: st) mi ml Q := fun L xs => go_alen f hr (g L xs)
theorem gm_fq {ins : Instr} (f : gm_fetch m pc = some (nx, ins, lk, a, b, z)) : ∃ q, gm_PT[m]? = some q := by
  unfold gm_fetch at f
  cases h : gm_PT[m]? with
  | none => rw [h] at f; cases f
  | some q => exact ⟨q, rfl⟩
theorem sg_cV {idx r : Nat} {vs rest : List Value} {q2 : gm_M} {en : gm_L} {R : Value → Mi → Ml → Prop} (f : gm_fetch m pc = some (nx, .invokevirtual idx, lk, a, b, z)) (hq2 : gm_PT[a]? = some q2) (h0 : q2.2.2.2.2.2.2.2.2.1 = 0 ∧ q2.2.2.2.2.2.2.2.2.2.1 = 0) (hst : st = vs.reverse ++ .ref r :: rest) (hr : SH[r]? = some (0, q2.2.2.2.2.1)) (hlen : vs.length = q2.2.2.2.2.2.1) (hsl : Nat.ble (gm_sl (.ref r :: vs)).length q2.2.2.1 = true) (hcat : Nat.ble (rest.map fun v => v.category).sum 8 = true) (hen : gm_ent q2.2.2.1 (.ref r :: vs) = en)
    (g0 : Sg a 0 en [] mi ml R) (g1 : ∀ v mi2 ml2, R v mi2 ml2 → Sg m nx ls ((q2.2.2.2.1.map fun _ => v).toList ++ rest) mi2 ml2 Q) : Sg m pc ls st mi ml Q := by
  intro L xs
  obtain ⟨q, hq⟩ := gm_fq f
  subst hen
  refine go_cV (R := gm_w R) f hst hr hq2 hq hlen (Nat.le_of_ble_eq_true hsl) (Nat.le_of_ble_eq_true hcat) (by rw [h0.1]; exact Nat.zero_le _) (by rw [h0.2]; exact Nat.zero_le _) (g0 L xs) (fun v h2 hR => ?_)
  obtain ⟨s2, i2, l2, r2⟩ := h2
  obtain ⟨e1, e2, hR⟩ := hR
  cases e1; cases e2
  rw [h0.1, h0.2]
  exact g1 v i2 l2 hR L xs
theorem sg_cS {idx : Nat} {vs rest : List Value} {q2 : gm_M} {en : gm_L} {R : Value → Mi → Ml → Prop} (f : gm_fetch m pc = some (nx, .invokestatic idx, lk, a, b, z)) (hb : ¬ b = 2 ∧ ¬ (b = 4 ∨ b = 5)) (hq2 : gm_PT[a]? = some q2) (h0 : q2.2.2.2.2.2.2.2.2.1 = 0 ∧ q2.2.2.2.2.2.2.2.2.2.1 = 0) (hst : st = vs.reverse ++ rest) (hlen : vs.length = q2.2.2.2.2.2.1) (hsl : Nat.ble (gm_sl vs).length q2.2.2.1 = true) (hcat : Nat.ble (rest.map fun v => v.category).sum 8 = true) (hen : gm_ent q2.2.2.1 vs = en)
    (g0 : Sg a 0 en [] mi ml R) (g1 : ∀ v mi2 ml2, R v mi2 ml2 → Sg m nx ls ((q2.2.2.2.1.map fun _ => v).toList ++ rest) mi2 ml2 Q) : Sg m pc ls st mi ml Q := by
  intro L xs
  obtain ⟨q, hq⟩ := gm_fq f
  subst hen
  refine go_cS (R := gm_w R) f hb hst hq2 hq hlen (Nat.le_of_ble_eq_true hsl) (Nat.le_of_ble_eq_true hcat) (by rw [h0.1]; exact Nat.zero_le _) (by rw [h0.2]; exact Nat.zero_le _) (g0 L xs) (fun v h2 hR => ?_)
  obtain ⟨s2, i2, l2, r2⟩ := h2
  obtain ⟨e1, e2, hR⟩ := hR
  cases e1; cases e2
  rw [h0.1, h0.2]
  exact g1 v i2 l2 hR L xs
theorem sg_mmin {idx : Nat} {x y : Int32} (f : gm_fetch m pc = some (nx, .invokestatic idx, lk, a, 4, z)) (hcat : Nat.ble (st.map fun v => v.category).sum 8 = true) (g : Sg m nx ls (.int (if y < x then y else x) :: st) mi ml Q) : Sg m pc ls (.int y :: .int x :: st) mi ml Q := by
  intro L xs
  obtain ⟨q, hq⟩ := gm_fq f
  exact go_mmin f rfl hq (Nat.le_of_ble_eq_true hcat) (Nat.zero_le _) (Nat.zero_le _) (g L xs)
theorem sg_mabs {idx : Nat} {x : Int32} (f : gm_fetch m pc = some (nx, .invokestatic idx, lk, a, 5, z)) (hcat : Nat.ble (st.map fun v => v.category).sum 8 = true) (g : Sg m nx ls (.int (if 0 ≤ x then x else 0 - x) :: st) mi ml Q) : Sg m pc ls (.int x :: st) mi ml Q := by
  intro L xs
  obtain ⟨q, hq⟩ := gm_fq f
  exact go_mabs f rfl hq (Nat.le_of_ble_eq_true hcat) (Nat.zero_le _) (Nat.zero_le _) (g L xs)
theorem sg_cpi {idx r w n1 n2 : Nat} {sp dp n : Int32} (f : gm_fetch m pc = some (nx, .invokestatic idx, lk, a, 2, z)) (hr : SH[r]? = some (1, n1)) (hw : SH[w]? = some (1, n2)) (h1 : ¬ sp < 0) (h2 : ¬ dp < 0) (h3 : ¬ n < 0) (h4 : sp.toNatClampNeg + n.toNatClampNeg ≤ n1) (h5 : dp.toNatClampNeg + n.toNatClampNeg ≤ n2) (hcat : Nat.ble (st.map fun v => v.category).sum 8 = true)
    (g : Sg m nx ls st (va_up mi w (va_cpy (mi r) (mi w) sp.toNatClampNeg dp.toNatClampNeg n.toNatClampNeg)) ml Q) : Sg m pc ls (.int n :: .int dp :: .ref w :: .int sp :: .ref r :: st) mi ml Q := fun L xs => go_cpi f rfl hr hw h1 h2 h3 h4 h5 (Nat.le_of_ble_eq_true hcat) (g L xs)
theorem sg_cpl {idx r w n1 n2 : Nat} {sp dp n : Int32} (f : gm_fetch m pc = some (nx, .invokestatic idx, lk, a, 2, z)) (hr : SH[r]? = some (2, n1)) (hw : SH[w]? = some (2, n2)) (h1 : ¬ sp < 0) (h2 : ¬ dp < 0) (h3 : ¬ n < 0) (h4 : sp.toNatClampNeg + n.toNatClampNeg ≤ n1) (h5 : dp.toNatClampNeg + n.toNatClampNeg ≤ n2) (hcat : Nat.ble (st.map fun v => v.category).sum 8 = true)
    (g : Sg m nx ls st mi (va_up ml w (va_cpy (ml r) (ml w) sp.toNatClampNeg dp.toNatClampNeg n.toNatClampNeg)) Q) : Sg m pc ls (.int n :: .int dp :: .ref w :: .int sp :: .ref r :: st) mi ml Q := fun L xs => go_cpl f rfl hr hw h1 h2 h3 h4 h5 (Nat.le_of_ble_eq_true hcat) (g L xs)
theorem sg_iret {q : gm_M} {ty : FieldType} {x : Int32} (f : gm_fetch m pc = some (nx, .ireturn, lk, a, b, z)) (hq : gm_PT[m]? = some q) (ht : q.2.2.2.1 = some ty) (hn : narrow ty (.int x) = .int x) (g : Q (.int x) mi ml) : Sg m pc ls [.int x] mi ml Q := fun L xs => go_iret f hq ht hn (Nat.zero_le _) (Nat.zero_le _) ⟨rfl, rfl, g⟩
theorem sg_lret {q : gm_M} {x : Int64} (f : gm_fetch m pc = some (nx, .lreturn, lk, a, b, z)) (hq : gm_PT[m]? = some q) (ht : q.2.2.2.1 = some .long) (g : Q (.long x) mi ml) : Sg m pc ls [.long x] mi ml Q := fun L xs => go_lret f hq ht (Nat.zero_le _) (Nat.zero_le _) ⟨rfl, rfl, g⟩
theorem sg_aret {q : gm_M} {n : String} {x : Option Nat} (f : gm_fetch m pc = some (nx, .areturn, lk, a, b, z)) (hq : gm_PT[m]? = some q) (ht : q.2.2.2.1 = some (.object n)) (g : Q (gm_ov x) mi ml) : Sg m pc ls [gm_ov x] mi ml Q := fun L xs => go_aret f hq ht (by cases x with | none => exact Or.inl rfl | some r => exact Or.inr ⟨r, rfl⟩) (Nat.zero_le _) (Nat.zero_le _) ⟨rfl, rfl, g⟩
theorem sg_ret {q : gm_M} (f : gm_fetch m pc = some (nx, .return_, lk, a, b, z)) (hq : gm_PT[m]? = some q) (ht : q.2.2.2.1 = none) (g : Q .null mi ml) : Sg m pc ls [] mi ml Q := fun L xs => go_ret f hq ht (Nat.zero_le _) (Nat.zero_le _) ⟨rfl, rfl, g⟩
end GmS
end
section
theorem pq1 : gm_PT[1]? = some (yX0_resize, cX0_resize, 3, none, 0, 2, 1, 23, 0, 0, cd_1) := rfl
theorem pq2 : gm_PT[2]? = some (yX0_changeWish, cX0_changeWish, 2, none, 0, 1, 0, 0, 0, 0, cd_2) := rfl
theorem pq3 : gm_PT[3]? = some (yX0_changeLength, cX0_changeLength, 2, none, 0, 1, 0, 0, 0, 0, cd_3) := rfl
theorem pq4 : gm_PT[4]? = some (yX0_changeSides, cX0_changeSides, 2, none, 0, 1, 0, 0, 0, 0, cd_4) := rfl
theorem pq5 : gm_PT[5]? = some (yX0_changeRow, cX0_changeRow, 3, none, 0, 2, 0, 0, 0, 0, cd_5) := rfl
theorem pq6 : gm_PT[6]? = some (yX0_hasRow, cX0_hasRow, 2, (some .boolean), 0, 1, 0, 0, 0, 0, cd_6) := rfl
theorem pq7 : gm_PT[7]? = some (yX0_hasCell, cX0_hasCell, 3, (some .boolean), 0, 2, 1, 21, 0, 0, cd_7) := rfl
theorem pq8 : gm_PT[8]? = some (yX0_isAtOpenSide, cX0_isAtOpenSide, 3, (some .boolean), 0, 2, 0, 0, 0, 0, cd_8) := rfl
theorem pq9 : gm_PT[9]? = some (yX0_numberOf, cX0_numberOf, 3, (some .int), 0, 2, 0, 0, 0, 0, cd_9) := rfl
theorem pq10 : gm_PT[10]? = some (yX0_cellCount, cX0_cellCount, 1, (some .int), 0, 0, 0, 0, 0, 0, cd_10) := rfl
theorem pq11 : gm_PT[11]? = some (yX0_faultyCount, cX0_faultyCount, 3, (some .int), 0, 0, 1, 20, 0, 0, cd_11) := rfl
theorem pq13 : gm_PT[13]? = some (yX1_chainCount, cX1_chainCount, 1, (some .int), 1, 0, 4, 88, 0, 0, cd_13) := rfl
theorem pq14 : gm_PT[14]? = some (yX1_stoppingCells, cX1_stoppingCells, 1, (some .long), 1, 0, 4, 88, 0, 0, cd_14) := rfl
theorem pq15 : gm_PT[15]? = some (yX1_refresh, cX1_refresh, 3, none, 1, 0, 3, 66, 0, 0, cd_15) := rfl
theorem pq16 : gm_PT[16]? = some (yX1_takeKinds, cX1_takeKinds, 4, none, 1, 0, 1, 23, 0, 0, cd_16) := rfl
theorem pq17 : gm_PT[17]? = some (yX1_lastNodeOfNewChain, cX1_lastNodeOfNewChain, 3, (some .int), 1, 0, 2, 44, 0, 0, cd_17) := rfl
theorem pq18 : gm_PT[18]? = some (yX1_goOnFromEntry, cX1_goOnFromEntry, 3, none, 1, 1, 1, 22, 0, 0, cd_18) := rfl
theorem pq19 : gm_PT[19]? = some (yX1_goOnFromExit, cX1_goOnFromExit, 3, none, 1, 1, 1, 22, 0, 0, cd_19) := rfl
theorem pq20 : gm_PT[20]? = some (yX1_reach, cX1_reach, 3, none, 1, 2, 0, 0, 0, 0, cd_20) := rfl
theorem pq21 : gm_PT[21]? = some (yX1_addChain, cX1_addChain, 5, none, 1, 1, 0, 0, 0, 0, cd_21) := rfl
theorem pq22 : gm_PT[22]? = some (yX1_cellsNotPassed, cX1_cellsNotPassed, 6, (some .long), 1, 0, 1, 22, 0, 0, cd_22) := rfl
theorem pq23 : gm_PT[23]? = some (yX1_placeOf, cX1_placeOf, 2, (some .int), 1, 2, 0, 0, 0, 0, cd_23) := rfl
theorem pq25 : gm_PT[25]? = some (yX2_become, cX2_become, 2, none, 2, 1, 1, 49, 0, 0, cd_25) := rfl
theorem pq26 : gm_PT[26]? = some (yX2_beginOn, cX2_beginOn, 2, none, 2, 1, 0, 0, 0, 0, cd_26) := rfl
theorem pq27 : gm_PT[27]? = some (yX2_suits, cX2_suits, 2, (some .boolean), 2, 1, 0, 0, 0, 0, cd_27) := rfl
theorem pq28 : gm_PT[28]? = some (yX2_seatOrFirst, cX2_seatOrFirst, 3, (some .int), 2, 2, 0, 0, 0, 0, cd_28) := rfl
theorem pq29 : gm_PT[29]? = some (yX2_brokenOn, cX2_brokenOn, 4, (some .int), 2, 1, 3, 68, 0, 0, cd_29) := rfl
theorem pq30 : gm_PT[30]? = some (yX2_wideGaps, cX2_wideGaps, 4, (some .int), 2, 2, 2, 44, 0, 0, cd_30) := rfl
theorem pq31 : gm_PT[31]? = some (yX2_farTasks, cX2_farTasks, 5, (some .int), 2, 3, 2, 44, 0, 0, cd_31) := rfl
theorem pq33 : gm_PT[33]? = some (yX3_refresh, cX3_refresh, 1, none, 3, 0, 3, 74, 0, 0, cd_33) := rfl
theorem pq34 : gm_PT[34]? = some (yX3_canPlaceBy, cX3_canPlaceBy, 4, (some .boolean), 3, 2, 2, 51, 0, 0, cd_34) := rfl
theorem pq35 : gm_PT[35]? = some (yX3_canPlace, cX3_canPlace, 7, (some .boolean), 3, 4, 1, 25, 0, 0, cd_35) := rfl
theorem pq36 : gm_PT[36]? = some (yX3_isWhole, cX3_isWhole, 1, (some .boolean), 3, 0, 4, 94, 0, 0, cd_36) := rfl
theorem pq37 : gm_PT[37]? = some (yX3_seatsOfRow, cX3_seatsOfRow, 2, (some .int), 3, 1, 4, 94, 0, 0, cd_37) := rfl
theorem pq38 : gm_PT[38]? = some (yX3_seatsOfAllRows, cX3_seatsOfAllRows, 3, (some .int), 3, 0, 4, 94, 0, 0, cd_38) := rfl
theorem pq39 : gm_PT[39]? = some (yX3_firstRowOfWitness, cX3_firstRowOfWitness, 1, (some .int), 3, 0, 4, 96, 0, 0, cd_39) := rfl
theorem pq40 : gm_PT[40]? = some (yX3_lastRowOfWitness, cX3_lastRowOfWitness, 1, (some .int), 3, 0, 4, 96, 0, 0, cd_40) := rfl
theorem pq41 : gm_PT[41]? = some (yX3_coreOfRow, cX3_coreOfRow, 2, (some .int), 3, 1, 4, 96, 0, 0, cd_41) := rfl
theorem pq42 : gm_PT[42]? = some (yX3_criticalOfRow, cX3_criticalOfRow, 2, (some .int), 3, 1, 4, 96, 0, 0, cd_42) := rfl
theorem pq43 : gm_PT[43]? = some (yX3_refreshMarks, cX3_refreshMarks, 1, none, 3, 0, 3, 76, 0, 0, cd_43) := rfl
theorem pq44 : gm_PT[44]? = some (yX3_markCritical, cX3_markCritical, 3, none, 3, 0, 1, 25, 0, 0, cd_44) := rfl
theorem pq45 : gm_PT[45]? = some (yX3_markWitness, cX3_markWitness, 3, none, 3, 0, 2, 51, 0, 0, cd_45) := rfl
theorem pq46 : gm_PT[46]? = some (yX3_markCore, cX3_markCore, 6, none, 3, 0, 2, 51, 0, 0, cd_46) := rfl
theorem pq47 : gm_PT[47]? = some (yX3_leastLength, cX3_leastLength, 2, (some .int), 3, 0, 3, 74, 0, 0, cd_47) := rfl
theorem pq48 : gm_PT[48]? = some (yX3_greatestWish, cX3_greatestWish, 2, (some .int), 3, 0, 3, 74, 0, 0, cd_48) := rfl
theorem pq49 : gm_PT[49]? = some (yX3_fewestMoves, cX3_fewestMoves, 3, (some .int), 3, 1, 4, 94, 0, 0, cd_49) := rfl
theorem pq50 : gm_PT[50]? = some (yX3_addMovesOfRow, cX3_addMovesOfRow, 4, none, 3, 2, 2, 49, 0, 0, cd_50) := rfl
theorem pq51 : gm_PT[51]? = some (yX3_movesTo, cX3_movesTo, 4, (some .int), 3, 1, 1, 22, 0, 0, cd_51) := rfl
theorem pq52 : gm_PT[52]? = some (yX3_fewestBelow, cX3_fewestBelow, 4, (some .int), 3, 2, 1, 26, 0, 0, cd_52) := rfl
theorem pq53 : gm_PT[53]? = some (yX3_cheapest, cX3_cheapest, 7, (some .int), 3, 2, 0, 0, 0, 0, cd_53) := rfl
theorem pq54 : gm_PT[54]? = some (yX3_layFewest, cX3_layFewest, 7, none, 3, 1, 1, 26, 0, 0, cd_54) := rfl
theorem pq56 : gm_PT[56]? = some (yX4_prepare, cX4_prepare, 5, none, 4, 3, 2, 46, 0, 0, cd_56) := rfl
theorem pq57 : gm_PT[57]? = some (yX4_addUnlessWide, cX4_addUnlessWide, 5, none, 4, 1, 1, 21, 0, 0, cd_57) := rfl
theorem pq58 : gm_PT[58]? = some (yX4_joinSeats, cX4_joinSeats, 3, none, 4, 0, 1, 24, 0, 0, cd_58) := rfl
theorem pq59 : gm_PT[59]? = some (yX4_areNear, cX4_areNear, 5, (some .boolean), 4, 2, 0, 0, 0, 0, cd_59) := rfl
theorem pq60 : gm_PT[60]? = some (yX4_columnAt, cX4_columnAt, 3, (some .int), 4, 2, 0, 0, 0, 0, cd_60) := rfl
theorem pq61 : gm_PT[61]? = some (yX4_seatsFitting, cX4_seatsFitting, 2, (some .long), 4, 1, 0, 0, 0, 0, cd_61) := rfl
theorem pq62 : gm_PT[62]? = some (yX4_seatsWithout, cX4_seatsWithout, 5, (some .long), 4, 1, 0, 0, 0, 0, cd_62) := rfl
theorem pq63 : gm_PT[63]? = some (yX4_seatsFittingAny, cX4_seatsFittingAny, 6, (some .long), 4, 1, 0, 0, 0, 0, cd_63) := rfl
theorem pq64 : gm_PT[64]? = some (yX4_columnsOfAll, cX4_columnsOfAll, 5, (some .int), 4, 1, 0, 0, 0, 0, cd_64) := rfl
theorem pq66 : gm_PT[66]? = some (yX5_begin, cX5_begin, 3, none, 5, 2, 1, 23, 0, 0, cd_66) := rfl
theorem pq67 : gm_PT[67]? = some (yX5_findingAt, cX5_findingAt, 3, (some .int), 5, 2, 0, 0, 0, 0, cd_67) := rfl
theorem pq68 : gm_PT[68]? = some (yX5_hasItems, cX5_hasItems, 3, (some .boolean), 5, 2, 0, 0, 0, 0, cd_68) := rfl
theorem pq69 : gm_PT[69]? = some (yX5_put, cX5_put, 3, none, 5, 2, 0, 0, 0, 0, cd_69) := rfl
theorem pq71 : gm_PT[71]? = some (yX6_grid, cX6_grid, 3, (some .int), 6, 2, 2, 45, 0, 0, cd_71) := rfl
theorem pq72 : gm_PT[72]? = some (yX6_wish, cX6_wish, 3, (some .int), 6, 1, 1, 21, 0, 0, cd_72) := rfl
theorem pq73 : gm_PT[73]? = some (yX6_length, cX6_length, 3, (some .int), 6, 1, 1, 21, 0, 0, cd_73) := rfl
theorem pq74 : gm_PT[74]? = some (yX6_sides, cX6_sides, 3, (some .int), 6, 1, 1, 21, 0, 0, cd_74) := rfl
theorem pq75 : gm_PT[75]? = some (yX6_fault, cX6_fault, 3, (some .int), 6, 2, 2, 43, 0, 0, cd_75) := rfl
theorem pq76 : gm_PT[76]? = some (yX6_lots, cX6_lots, 7, (some .int), 6, 2, 2, 42, 0, 0, cd_76) := rfl
theorem pq77 : gm_PT[77]? = some (yX6_read, cX6_read, 7, (some .int), 6, 2, 1, 22, 0, 0, cd_77) := rfl
theorem pq78 : gm_PT[78]? = some (yX6_cell, cX6_cell, 4, (some .int), 6, 3, 5, 117, 0, 0, cd_78) := rfl
theorem pq79 : gm_PT[79]? = some (yX6_whole, cX6_whole, 1, (some .int), 6, 0, 5, 114, 0, 0, cd_79) := rfl
theorem pq80 : gm_PT[80]? = some (yX6_mend, cX6_mend, 2, (some .int), 6, 0, 5, 116, 0, 0, cd_80) := rfl
theorem pq81 : gm_PT[81]? = some (yX6_moves, cX6_moves, 1, (some .int), 6, 0, 5, 116, 0, 0, cd_81) := rfl
theorem pq82 : gm_PT[82]? = some (yX6_seat, cX6_seat, 4, (some .int), 6, 2, 3, 68, 0, 0, cd_82) := rfl
theorem pq83 : gm_PT[83]? = some (yX6_column, cX6_column, 3, (some .int), 6, 2, 2, 44, 0, 0, cd_83) := rfl
theorem pq84 : gm_PT[84]? = some (yX6_seats, cX6_seats, 2, (some .int), 6, 1, 5, 115, 0, 0, cd_84) := rfl
theorem pq85 : gm_PT[85]? = some (yX6_broken, cX6_broken, 1, (some .int), 6, 0, 4, 91, 0, 0, cd_85) := rfl
theorem pq86 : gm_PT[86]? = some (yX6_witness, cX6_witness, 2, (some .int), 6, 1, 5, 116, 0, 0, cd_86) := rfl
theorem pq87 : gm_PT[87]? = some (yX6_core, cX6_core, 3, (some .int), 6, 0, 5, 117, 0, 0, cd_87) := rfl
theorem pq88 : gm_PT[88]? = some (yX6_critical, cX6_critical, 3, (some .int), 6, 0, 5, 117, 0, 0, cd_88) := rfl
theorem pq89 : gm_PT[89]? = some (yX6_least, cX6_least, 2, (some .int), 6, 1, 4, 95, 0, 0, cd_89) := rfl
theorem pq90 : gm_PT[90]? = some (yX6_chains, cX6_chains, 1, (some .int), 6, 0, 5, 108, 0, 0, cd_90) := rfl
theorem pq91 : gm_PT[91]? = some (yX6_cut, cX6_cut, 1, (some .long), 6, 0, 5, 108, 0, 0, cd_91) := rfl
theorem pq92 : gm_PT[92]? = some (yX6_keep, cX6_keep, 3, (some .int), 6, 1, 2, 70, 0, 0, cd_92) := rfl
theorem pq93 : gm_PT[93]? = some (yX6_go, cX6_go, 3, (some .int), 6, 1, 4, 91, 0, 0, cd_93) := rfl
theorem pq94 : gm_PT[94]? = some (yX6_differ, cX6_differ, 5, (some .int), 6, 1, 3, 68, 0, 0, cd_94) := rfl
theorem pq95 : gm_PT[95]? = some (yX6_drop, cX6_drop, 3, (some .int), 6, 1, 1, 22, 0, 0, cd_95) := rfl
theorem pq96 : gm_PT[96]? = some (yX6_sheet, cX6_sheet, 5, (some .int), 6, 3, 2, 45, 0, 0, cd_96) := rfl
theorem pq97 : gm_PT[97]? = some (yX6_lose, cX6_lose, 3, (some .int), 6, 1, 1, 21, 0, 0, cd_97) := rfl
theorem pq98 : gm_PT[98]? = some (yX6_lay, cX6_lay, 7, (some .int), 6, 4, 1, 22, 0, 0, cd_98) := rfl
theorem pq99 : gm_PT[99]? = some (yX6_get, cX6_get, 6, (some .int), 6, 3, 1, 22, 0, 0, cd_99) := rfl
theorem pq100 : gm_PT[100]? = some (yX6_copy, cX6_copy, 8, (some .int), 6, 5, 1, 49, 0, 0, cd_100) := rfl
theorem pq101 : gm_PT[101]? = some (yX6_write, cX6_write, 6, (some .int), 6, 2, 2, 44, 0, 0, cd_101) := rfl
theorem pq102 : gm_PT[102]? = some (yX6_count, cX6_count, 2, (some .int), 6, 1, 5, 116, 0, 0, cd_102) := rfl
theorem pq103 : gm_PT[103]? = some (yX6_digest, cX6_digest, 6, (some .long), 6, 0, 6, 140, 0, 0, cd_103) := rfl
theorem pq104 : gm_PT[104]? = some (yX6_found, cX6_found, 2, (some .int), 6, 1, 0, 0, 0, 0, cd_104) := rfl
theorem pq105 : gm_PT[105]? = some (yX6_slotAt, cX6_slotAt, 2, (some (.object "GridMender$Laying")), 6, 1, 0, 0, 0, 0, cd_105) := rfl
theorem pq106 : gm_PT[106]? = some (yX6_sheetAt, cX6_sheetAt, 2, (some (.object "GridMender$Sheet")), 6, 1, 0, 0, 0, 0, cd_106) := rfl
theorem pq107 : gm_PT[107]? = some (yX6_filledSlots, cX6_filledSlots, 3, (some .int), 6, 0, 0, 0, 0, 0, cd_107) := rfl
theorem pq108 : gm_PT[108]? = some (yX6_isForm, cX6_isForm, 1, (some .boolean), 6, 1, 0, 0, 0, 0, cd_108) := rfl
theorem pq109 : gm_PT[109]? = some (yX6_bitOf, cX6_bitOf, 2, (some .int), 6, 2, 0, 0, 0, 0, cd_109) := rfl
theorem pq110 : gm_PT[110]? = some (yX6_columnOf, cX6_columnOf, 4, (some .int), 6, 2, 1, 21, 0, 0, cd_110) := rfl
theorem pq111 : gm_PT[111]? = some (yX6_taskAt, cX6_taskAt, 2, (some .int), 6, 2, 1, 21, 0, 0, cd_111) := rfl
theorem pq112 : gm_PT[112]? = some (yX6_tasksMoved, cX6_tasksMoved, 5, (some .int), 6, 3, 2, 44, 0, 0, cd_112) := rfl
theorem pq114 : gm_PT[114]? = some (yX7_in, cX7_in, 6, (some .boolean), 7, 3, 0, 0, 0, 0, cd_114) := rfl
theorem pq115 : gm_PT[115]? = some (yX7_isTwo, cX7_isTwo, 1, (some .boolean), 7, 1, 1, 25, 0, 0, cd_115) := rfl
theorem pq116 : gm_PT[116]? = some (yX7_isIn, cX7_isIn, 3, (some .boolean), 7, 2, 0, 0, 0, 0, cd_116) := rfl
theorem pq117 : gm_PT[117]? = some (yX7_lesser, cX7_lesser, 2, (some .int), 7, 2, 0, 0, 0, 0, cd_117) := rfl
theorem pq118 : gm_PT[118]? = some (yX7_away, cX7_away, 1, (some .int), 7, 1, 0, 0, 0, 0, cd_118) := rfl
theorem pq119 : gm_PT[119]? = some (yX7_size, cX7_size, 4, (some .int), 7, 1, 1, 22, 0, 0, cd_119) := rfl
theorem pq120 : gm_PT[120]? = some (yX7_finding, cX7_finding, 2, (some .int), 7, 1, 0, 0, 0, 0, cd_120) := rfl
theorem pq121 : gm_PT[121]? = some (yX7_isSheet, cX7_isSheet, 1, (some .boolean), 7, 1, 1, 25, 0, 0, cd_121) := rfl
theorem pq122 : gm_PT[122]? = some (yX7_sheet, cX7_sheet, 5, (some .int), 7, 3, 2, 45, 0, 0, cd_122) := rfl
theorem pq123 : gm_PT[123]? = some (yX7_lose, cX7_lose, 2, (some .int), 7, 1, 2, 45, 0, 0, cd_123) := rfl
theorem pq124 : gm_PT[124]? = some (yX7_lacks, cX7_lacks, 4, (some .int), 7, 3, 1, 25, 0, 0, cd_124) := rfl
theorem pq125 : gm_PT[125]? = some (yX7_cutTo, cX7_cutTo, 2, (some .int), 7, 2, 0, 0, 0, 0, cd_125) := rfl
theorem pq126 : gm_PT[126]? = some (yX7_lay, cX7_lay, 6, (some .int), 7, 4, 2, 48, 0, 0, cd_126) := rfl
theorem pq127 : gm_PT[127]? = some (yX7_get, cX7_get, 4, (some .int), 7, 3, 2, 48, 0, 0, cd_127) := rfl
theorem pq128 : gm_PT[128]? = some (yX7_copy, cX7_copy, 7, (some .int), 7, 5, 2, 45, 0, 0, cd_128) := rfl
theorem pq129 : gm_PT[129]? = some (yX7_isRow, cX7_isRow, 2, (some .boolean), 7, 1, 1, 25, 0, 0, cd_129) := rfl
theorem pq130 : gm_PT[130]? = some (yX7_isCell, cX7_isCell, 3, (some .boolean), 7, 2, 2, 46, 0, 0, cd_130) := rfl
theorem pq131 : gm_PT[131]? = some (yX7_faulty, cX7_faulty, 3, (some .int), 7, 0, 2, 45, 0, 0, cd_131) := rfl
theorem pq132 : gm_PT[132]? = some (yX7_grid, cX7_grid, 4, (some .int), 7, 2, 1, 25, 0, 0, cd_132) := rfl
theorem pq133 : gm_PT[133]? = some (yX7_wish, cX7_wish, 3, (some .int), 7, 1, 1, 25, 0, 0, cd_133) := rfl
theorem pq134 : gm_PT[134]? = some (yX7_length, cX7_length, 3, (some .int), 7, 1, 1, 25, 0, 0, cd_134) := rfl
theorem pq135 : gm_PT[135]? = some (yX7_sides, cX7_sides, 3, (some .int), 7, 1, 1, 25, 0, 0, cd_135) := rfl
theorem pq136 : gm_PT[136]? = some (yX7_fault, cX7_fault, 3, (some .int), 7, 2, 3, 68, 0, 0, cd_136) := rfl
theorem pq137 : gm_PT[137]? = some (yX7_becomes, cX7_becomes, 4, none, 7, 3, 0, 0, 0, 0, cd_137) := rfl
theorem pq138 : gm_PT[138]? = some (yX7_lots, cX7_lots, 5, (some .int), 7, 2, 3, 67, 0, 0, cd_138) := rfl
theorem pq139 : gm_PT[139]? = some (yX7_read, cX7_read, 5, (some .int), 7, 2, 2, 46, 0, 0, cd_139) := rfl
theorem pq140 : gm_PT[140]? = some (yX7_columnOf, cX7_columnOf, 4, (some .int), 7, 2, 1, 22, 0, 0, cd_140) := rfl
theorem pq141 : gm_PT[141]? = some (yX7_seatsOf, cX7_seatsOf, 7, none, 7, 2, 2, 45, 0, 0, cd_141) := rfl
theorem pq142 : gm_PT[142]? = some (yX7_seatsNow, cX7_seatsNow, 1, none, 7, 0, 3, 71, 0, 0, cd_142) := rfl
theorem pq143 : gm_PT[143]? = some (yX7_fits, cX7_fits, 3, (some .boolean), 7, 2, 0, 0, 0, 0, cd_143) := rfl
theorem pq144 : gm_PT[144]? = some (yX7_isWhole, cX7_isWhole, 8, (some .boolean), 7, 2, 1, 22, 0, 0, cd_144) := rfl
theorem pq145 : gm_PT[145]? = some (yX7_isWholeNow, cX7_isWholeNow, 1, (some .boolean), 7, 0, 2, 49, 0, 0, cd_145) := rfl
theorem pq146 : gm_PT[146]? = some (yX7_whole, cX7_whole, 1, (some .int), 7, 0, 4, 91, 0, 0, cd_146) := rfl
theorem pq147 : gm_PT[147]? = some (yX7_columnNow, cX7_columnNow, 3, (some .int), 7, 2, 2, 45, 0, 0, cd_147) := rfl
theorem pq148 : gm_PT[148]? = some (yX7_movesTo, cX7_movesTo, 5, (some .int), 7, 2, 3, 67, 0, 0, cd_148) := rfl
theorem pq149 : gm_PT[149]? = some (yX7_fewest, cX7_fewest, 6, (some .int), 7, 0, 4, 91, 0, 0, cd_149) := rfl
theorem pq150 : gm_PT[150]? = some (yX7_chooses, cX7_chooses, 7, none, 7, 1, 4, 91, 0, 0, cd_150) := rfl
theorem pq151 : gm_PT[151]? = some (yX7_mend, cX7_mend, 3, (some .int), 7, 0, 5, 117, 0, 0, cd_151) := rfl
theorem pq152 : gm_PT[152]? = some (yX7_movesNow, cX7_movesNow, 2, (some .int), 7, 0, 5, 116, 0, 0, cd_152) := rfl
theorem pq153 : gm_PT[153]? = some (yX7_moves, cX7_moves, 1, (some .int), 7, 0, 6, 137, 0, 0, cd_153) := rfl
theorem pq154 : gm_PT[154]? = some (yX7_seat, cX7_seat, 4, (some .int), 7, 2, 4, 91, 0, 0, cd_154) := rfl
theorem pq155 : gm_PT[155]? = some (yX7_columnBy, cX7_columnBy, 3, (some .int), 7, 2, 2, 45, 0, 0, cd_155) := rfl
theorem pq156 : gm_PT[156]? = some (yX7_column, cX7_column, 3, (some .int), 7, 2, 3, 67, 0, 0, cd_156) := rfl
theorem pq157 : gm_PT[157]? = some (yX7_seatsBy, cX7_seatsBy, 4, (some .int), 7, 1, 1, 22, 0, 0, cd_157) := rfl
theorem pq158 : gm_PT[158]? = some (yX7_seats, cX7_seats, 2, (some .int), 7, 1, 4, 91, 0, 0, cd_158) := rfl
theorem pq159 : gm_PT[159]? = some (yX7_brokenNow, cX7_brokenNow, 5, (some .int), 7, 0, 2, 45, 0, 0, cd_159) := rfl
theorem pq160 : gm_PT[160]? = some (yX7_broken, cX7_broken, 1, (some .int), 7, 0, 3, 69, 0, 0, cd_160) := rfl
theorem pq161 : gm_PT[161]? = some (yX7_witnessBy, cX7_witnessBy, 4, (some .int), 7, 1, 2, 49, 0, 0, cd_161) := rfl
theorem pq162 : gm_PT[162]? = some (yX7_witness, cX7_witness, 2, (some .int), 7, 1, 4, 91, 0, 0, cd_162) := rfl
theorem pq163 : gm_PT[163]? = some (yX7_coreNow, cX7_coreNow, 9, (some .long), 7, 0, 3, 69, 0, 0, cd_163) := rfl
theorem pq164 : gm_PT[164]? = some (yX7_criticalNow, cX7_criticalNow, 6, (some .long), 7, 0, 3, 69, 0, 0, cd_164) := rfl
theorem pq165 : gm_PT[165]? = some (yX7_core, cX7_core, 1, (some .int), 7, 0, 4, 97, 0, 0, cd_165) := rfl
theorem pq166 : gm_PT[166]? = some (yX7_critical, cX7_critical, 1, (some .int), 7, 0, 4, 94, 0, 0, cd_166) := rfl
theorem pq167 : gm_PT[167]? = some (yX7_leastBy, cX7_leastBy, 5, (some .int), 7, 1, 4, 91, 0, 0, cd_167) := rfl
theorem pq168 : gm_PT[168]? = some (yX7_least, cX7_least, 2, (some .int), 7, 1, 5, 115, 0, 0, cd_168) := rfl
theorem pq169 : gm_PT[169]? = some (yX7_isOut, cX7_isOut, 4, (some .boolean), 7, 1, 1, 22, 0, 0, cd_169) := rfl
theorem pq170 : gm_PT[170]? = some (yX7_isBad, cX7_isBad, 2, (some .boolean), 7, 1, 1, 22, 0, 0, cd_170) := rfl
theorem pq171 : gm_PT[171]? = some (yX7_beside, cX7_beside, 5, (some .int), 7, 2, 3, 68, 0, 0, cd_171) := rfl
theorem pq172 : gm_PT[172]? = some (yX7_reaches, cX7_reaches, 3, none, 7, 2, 0, 0, 0, 0, cd_172) := rfl
theorem pq173 : gm_PT[173]? = some (yX7_goesOn, cX7_goesOn, 5, none, 7, 1, 4, 92, 0, 0, cd_173) := rfl
theorem pq174 : gm_PT[174]? = some (yX7_finds, cX7_finds, 3, (some .int), 7, 0, 5, 116, 0, 0, cd_174) := rfl
theorem pq175 : gm_PT[175]? = some (yX7_turns, cX7_turns, 6, none, 7, 2, 4, 92, 0, 0, cd_175) := rfl
theorem pq176 : gm_PT[176]? = some (yX7_chainsNow, cX7_chainsNow, 6, (some .int), 7, 0, 6, 138, 0, 0, cd_176) := rfl
theorem pq177 : gm_PT[177]? = some (yX7_chains, cX7_chains, 1, (some .int), 7, 0, 7, 163, 0, 0, cd_177) := rfl
theorem pq178 : gm_PT[178]? = some (yX7_cutNow, cX7_cutNow, 4, (some .long), 7, 0, 7, 163, 0, 0, cd_178) := rfl
theorem pq179 : gm_PT[179]? = some (yX7_cut, cX7_cut, 1, (some .long), 7, 0, 8, 186, 0, 0, cd_179) := rfl
theorem pq180 : gm_PT[180]? = some (yX7_taskAt, cX7_taskAt, 4, (some .int), 7, 2, 2, 45, 0, 0, cd_180) := rfl
theorem pq181 : gm_PT[181]? = some (yX7_cellBy, cX7_cellBy, 5, (some .int), 7, 3, 3, 68, 0, 0, cd_181) := rfl
theorem pq182 : gm_PT[182]? = some (yX7_cell, cX7_cell, 6, (some .int), 7, 3, 8, 186, 0, 0, cd_182) := rfl
theorem pq183 : gm_PT[183]? = some (yX7_isSlot, cX7_isSlot, 1, (some .boolean), 7, 1, 1, 25, 0, 0, cd_183) := rfl
theorem pq184 : gm_PT[184]? = some (yX7_keep, cX7_keep, 3, (some .int), 7, 1, 2, 45, 0, 0, cd_184) := rfl
theorem pq185 : gm_PT[185]? = some (yX7_lacksSlot, cX7_lacksSlot, 2, (some .int), 7, 1, 2, 45, 0, 0, cd_185) := rfl
theorem pq186 : gm_PT[186]? = some (yX7_go, cX7_go, 4, (some .int), 7, 1, 3, 69, 0, 0, cd_186) := rfl
theorem pq187 : gm_PT[187]? = some (yX7_differ, cX7_differ, 5, (some .int), 7, 1, 4, 91, 0, 0, cd_187) := rfl
theorem pq188 : gm_PT[188]? = some (yX7_drop, cX7_drop, 2, (some .int), 7, 1, 2, 45, 0, 0, cd_188) := rfl
theorem pq189 : gm_PT[189]? = some (yX7_write, cX7_write, 5, (some .int), 7, 2, 2, 46, 0, 0, cd_189) := rfl
theorem pq190 : gm_PT[190]? = some (yX7_countBy, cX7_countBy, 2, (some .int), 7, 1, 7, 163, 0, 0, cd_190) := rfl
theorem pq191 : gm_PT[191]? = some (yX7_allSeats, cX7_allSeats, 3, (some .int), 7, 0, 2, 45, 0, 0, cd_191) := rfl
theorem pq192 : gm_PT[192]? = some (yX7_count, cX7_count, 2, (some .int), 7, 1, 8, 184, 0, 0, cd_192) := rfl
theorem pq193 : gm_PT[193]? = some (yX7_digest, cX7_digest, 11, (some .long), 7, 0, 8, 186, 0, 0, cd_193) := rfl
theorem pq194 : gm_PT[194]? = some (yJ6_bitCount_0f7a4, cJ6_bitCount_0f7a4, 1, (some .int), 8, 1, 0, 0, 0, 0, cd_194) := rfl
theorem pq195 : gm_PT[195]? = some (yJ13_bitCount_95d88, cJ13_bitCount_95d88, 2, (some .int), 9, 1, 0, 0, 0, 0, cd_195) := rfl
theorem pq198 : gm_PT[198]? = some (yJ7_fill_53178, cJ7_fill_53178, 4, none, 11, 2, 0, 0, 0, 0, cd_198) := rfl
end
section
/-! X0_resize (II)V -/
theorem fe1 (pc : Nat) : gm_fetch 1 pc = gm_find pc cd_1 := rfl
theorem f1_0 : gm_fetch 1 0 = some (1, .aload_n 0, 0, 0, 0, 0) := (fe1 0).trans rfl
theorem f1_1 : gm_fetch 1 1 = some (2, .iload_n 1, 0, 0, 0, 0) := (fe1 1).trans rfl
theorem f1_2 : gm_fetch 1 2 = some (5, .putfield 9, 0, 0, 0, 0) := (fe1 2).trans rfl
theorem f1_5 : gm_fetch 1 5 = some (6, .aload_n 0, 0, 0, 0, 0) := (fe1 5).trans rfl
theorem f1_6 : gm_fetch 1 6 = some (7, .iload_n 2, 0, 0, 0, 0) := (fe1 6).trans rfl
theorem f1_7 : gm_fetch 1 7 = some (10, .putfield 15, 5, 0, 1, 0) := (fe1 7).trans rfl
theorem f1_10 : gm_fetch 1 10 = some (11, .aload_n 0, 0, 0, 0, 0) := (fe1 10).trans rfl
theorem f1_11 : gm_fetch 1 11 = some (12, .aload_n 0, 0, 0, 0, 0) := (fe1 11).trans rfl
theorem f1_12 : gm_fetch 1 12 = some (15, .getfield 18, 10, 0, 2, 0) := (fe1 12).trans rfl
theorem f1_15 : gm_fetch 1 15 = some (16, .iload_n 2, 0, 0, 0, 0) := (fe1 15).trans rfl
theorem f1_16 : gm_fetch 1 16 = some (19, .invokestatic 34, 16, 197, 4, 0) := (fe1 16).trans rfl
theorem f1_19 : gm_fetch 1 19 = some (22, .putfield 18, 10, 0, 2, 0) := (fe1 19).trans rfl
theorem f1_22 : gm_fetch 1 22 = some (23, .aload_n 0, 0, 0, 0, 0) := (fe1 22).trans rfl
theorem f1_23 : gm_fetch 1 23 = some (26, .getfield 30, 23, 0, 6, 0) := (fe1 23).trans rfl
theorem f1_26 : gm_fetch 1 26 = some (27, .iconst 0, 0, 0, 0, 0) := (fe1 26).trans rfl
theorem f1_27 : gm_fetch 1 27 = some (30, .invokestatic 40, 17, 198, 0, 0) := (fe1 27).trans rfl
theorem f1_30 : gm_fetch 1 30 = some (31, .aload_n 0, 0, 0, 0, 0) := (fe1 30).trans rfl
theorem f1_31 : gm_fetch 1 31 = some (32, .dup, 0, 0, 0, 0) := (fe1 31).trans rfl
theorem f1_32 : gm_fetch 1 32 = some (35, .getfield 27, 20, 0, 5, 0) := (fe1 32).trans rfl
theorem f1_35 : gm_fetch 1 35 = some (36, .iconst 1, 0, 0, 0, 0) := (fe1 35).trans rfl
theorem f1_36 : gm_fetch 1 36 = some (37, .iadd, 0, 0, 0, 0) := (fe1 36).trans rfl
theorem f1_37 : gm_fetch 1 37 = some (40, .putfield 27, 20, 0, 5, 0) := (fe1 37).trans rfl
theorem f1_40 : gm_fetch 1 40 = some (41, .return_, 0, 0, 0, 0) := (fe1 40).trans rfl
set_option maxRecDepth 10000 in
theorem rg1_0 {mi : Mi} {ml : Ml} {F : Mi → Ml → Prop} {x1 : Int32} {x2 : Int32}  (h : Sg 198 0 [some (.ref 2), some (.int 0), none, none] [] (va_up mi 1 (va_up (va_up (va_up (mi 1) 0 x1) 1 x2) 2 (if x2 < (mi 1 2) then x2 else (mi 1 2)))) ml (qv fun mi2 ml3 => F (va_up mi2 1 (va_up (mi2 1) 5 ((mi2 1 5) + 1))) ml3)) : Sg 1 0 [some (.ref 1), some (.int x1), some (.int x2)] [] mi ml (qv F) := by
  refine sg_ld f1_0 (v := .ref 1) rfl rfl ?_
  refine sg_ld f1_1 (v := .int x1) rfl rfl ?_
  refine sg_puti f1_2 rfl rfl rfl (fun hz => by cases hz) ?_
  refine sg_ld f1_5 (v := .ref 1) rfl rfl ?_
  refine sg_ld f1_6 (v := .int x2) rfl rfl ?_
  refine sg_puti2 f1_7 rfl rfl rfl (fun hz => by cases hz) ?_
  refine sg_ld f1_10 (v := .ref 1) rfl rfl ?_
  refine sg_ld f1_11 (v := .ref 1) rfl rfl ?_
  refine sg_geti f1_12 rfl rfl (x := (mi 1 2)) rfl ?_
  refine sg_ld f1_15 (v := .int x2) rfl rfl ?_
  refine sg_mmin f1_16 rfl ?_
  refine sg_puti2 f1_19 rfl rfl rfl (fun hz => by cases hz) ?_
  refine sg_ld f1_22 (v := .ref 1) rfl rfl ?_
  refine sg_getr f1_23 rfl rfl (w := 2) rfl ?_
  refine sg_psh f1_26 (v := .int 0) (by decide) ?_
  refine sg_cS f1_27 (vs := [.ref 2, .int 0]) (rest := []) (en := [some (.ref 2), some (.int 0), none, none]) (by decide) pq198 ⟨rfl, rfl⟩ rfl rfl rfl rfl rfl h ?_
  intro _ mi2 ml3 h
  have h := gm_qv h
  refine sg_ld f1_30 (v := .ref 1) rfl rfl ?_
  refine sg_dup f1_31 rfl ?_
  refine sg_geti f1_32 rfl rfl (x := (mi2 1 5)) rfl ?_
  refine sg_psh f1_35 (v := .int 1) (by decide) ?_
  refine sg_bin f1_36 rfl ?_
  refine sg_puti f1_37 rfl rfl rfl (fun hz => by cases hz) ?_
  exact sg_ret f1_40 pq1 rfl h

/-! X0_changeWish (I)V -/
theorem fe2 (pc : Nat) : gm_fetch 2 pc = gm_find pc cd_2 := rfl
theorem f2_0 : gm_fetch 2 0 = some (1, .aload_n 0, 0, 0, 0, 0) := (fe2 0).trans rfl
theorem f2_1 : gm_fetch 2 1 = some (2, .iload_n 1, 0, 0, 0, 0) := (fe2 1).trans rfl
theorem f2_2 : gm_fetch 2 2 = some (5, .putfield 18, 10, 0, 2, 0) := (fe2 2).trans rfl
theorem f2_5 : gm_fetch 2 5 = some (6, .aload_n 0, 0, 0, 0, 0) := (fe2 5).trans rfl
theorem f2_6 : gm_fetch 2 6 = some (7, .dup, 0, 0, 0, 0) := (fe2 6).trans rfl
theorem f2_7 : gm_fetch 2 7 = some (10, .getfield 27, 20, 0, 5, 0) := (fe2 7).trans rfl
theorem f2_10 : gm_fetch 2 10 = some (11, .iconst 1, 0, 0, 0, 0) := (fe2 10).trans rfl
theorem f2_11 : gm_fetch 2 11 = some (12, .iadd, 0, 0, 0, 0) := (fe2 11).trans rfl
theorem f2_12 : gm_fetch 2 12 = some (15, .putfield 27, 20, 0, 5, 0) := (fe2 12).trans rfl
theorem f2_15 : gm_fetch 2 15 = some (16, .return_, 0, 0, 0, 0) := (fe2 15).trans rfl
set_option maxRecDepth 10000 in
theorem rg2_0 {mi : Mi} {ml : Ml} {F : Mi → Ml → Prop} {x1 : Int32}  (h : F (va_up mi 1 (va_up (va_up (mi 1) 2 x1) 5 ((mi 1 5) + 1))) ml) : Sg 2 0 [some (.ref 1), some (.int x1)] [] mi ml (qv F) := by
  refine sg_ld f2_0 (v := .ref 1) rfl rfl ?_
  refine sg_ld f2_1 (v := .int x1) rfl rfl ?_
  refine sg_puti f2_2 rfl rfl rfl (fun hz => by cases hz) ?_
  refine sg_ld f2_5 (v := .ref 1) rfl rfl ?_
  refine sg_dup f2_6 rfl ?_
  refine sg_geti f2_7 rfl rfl (x := (mi 1 5)) rfl ?_
  refine sg_psh f2_10 (v := .int 1) (by decide) ?_
  refine sg_bin f2_11 rfl ?_
  refine sg_puti2 f2_12 rfl rfl rfl (fun hz => by cases hz) ?_
  exact sg_ret f2_15 pq2 rfl h

/-! X0_changeLength (I)V -/
theorem fe3 (pc : Nat) : gm_fetch 3 pc = gm_find pc cd_3 := rfl
theorem f3_0 : gm_fetch 3 0 = some (1, .aload_n 0, 0, 0, 0, 0) := (fe3 0).trans rfl
theorem f3_1 : gm_fetch 3 1 = some (2, .iload_n 1, 0, 0, 0, 0) := (fe3 1).trans rfl
theorem f3_2 : gm_fetch 3 2 = some (5, .putfield 21, 14, 0, 3, 0) := (fe3 2).trans rfl
theorem f3_5 : gm_fetch 3 5 = some (6, .aload_n 0, 0, 0, 0, 0) := (fe3 5).trans rfl
theorem f3_6 : gm_fetch 3 6 = some (7, .dup, 0, 0, 0, 0) := (fe3 6).trans rfl
theorem f3_7 : gm_fetch 3 7 = some (10, .getfield 27, 20, 0, 5, 0) := (fe3 7).trans rfl
theorem f3_10 : gm_fetch 3 10 = some (11, .iconst 1, 0, 0, 0, 0) := (fe3 10).trans rfl
theorem f3_11 : gm_fetch 3 11 = some (12, .iadd, 0, 0, 0, 0) := (fe3 11).trans rfl
theorem f3_12 : gm_fetch 3 12 = some (15, .putfield 27, 20, 0, 5, 0) := (fe3 12).trans rfl
theorem f3_15 : gm_fetch 3 15 = some (16, .return_, 0, 0, 0, 0) := (fe3 15).trans rfl
set_option maxRecDepth 10000 in
theorem rg3_0 {mi : Mi} {ml : Ml} {F : Mi → Ml → Prop} {x1 : Int32}  (h : F (va_up mi 1 (va_up (va_up (mi 1) 3 x1) 5 ((mi 1 5) + 1))) ml) : Sg 3 0 [some (.ref 1), some (.int x1)] [] mi ml (qv F) := by
  refine sg_ld f3_0 (v := .ref 1) rfl rfl ?_
  refine sg_ld f3_1 (v := .int x1) rfl rfl ?_
  refine sg_puti f3_2 rfl rfl rfl (fun hz => by cases hz) ?_
  refine sg_ld f3_5 (v := .ref 1) rfl rfl ?_
  refine sg_dup f3_6 rfl ?_
  refine sg_geti f3_7 rfl rfl (x := (mi 1 5)) rfl ?_
  refine sg_psh f3_10 (v := .int 1) (by decide) ?_
  refine sg_bin f3_11 rfl ?_
  refine sg_puti2 f3_12 rfl rfl rfl (fun hz => by cases hz) ?_
  exact sg_ret f3_15 pq3 rfl h

/-! X0_changeSides (I)V -/
theorem fe4 (pc : Nat) : gm_fetch 4 pc = gm_find pc cd_4 := rfl
theorem f4_0 : gm_fetch 4 0 = some (1, .aload_n 0, 0, 0, 0, 0) := (fe4 0).trans rfl
theorem f4_1 : gm_fetch 4 1 = some (2, .iload_n 1, 0, 0, 0, 0) := (fe4 1).trans rfl
theorem f4_2 : gm_fetch 4 2 = some (5, .putfield 24, 18, 0, 4, 0) := (fe4 2).trans rfl
theorem f4_5 : gm_fetch 4 5 = some (6, .aload_n 0, 0, 0, 0, 0) := (fe4 5).trans rfl
theorem f4_6 : gm_fetch 4 6 = some (7, .dup, 0, 0, 0, 0) := (fe4 6).trans rfl
theorem f4_7 : gm_fetch 4 7 = some (10, .getfield 27, 20, 0, 5, 0) := (fe4 7).trans rfl
theorem f4_10 : gm_fetch 4 10 = some (11, .iconst 1, 0, 0, 0, 0) := (fe4 10).trans rfl
theorem f4_11 : gm_fetch 4 11 = some (12, .iadd, 0, 0, 0, 0) := (fe4 11).trans rfl
theorem f4_12 : gm_fetch 4 12 = some (15, .putfield 27, 20, 0, 5, 0) := (fe4 12).trans rfl
theorem f4_15 : gm_fetch 4 15 = some (16, .return_, 0, 0, 0, 0) := (fe4 15).trans rfl
set_option maxRecDepth 10000 in
theorem rg4_0 {mi : Mi} {ml : Ml} {F : Mi → Ml → Prop} {x1 : Int32}  (h : F (va_up mi 1 (va_up (va_up (mi 1) 4 x1) 5 ((mi 1 5) + 1))) ml) : Sg 4 0 [some (.ref 1), some (.int x1)] [] mi ml (qv F) := by
  refine sg_ld f4_0 (v := .ref 1) rfl rfl ?_
  refine sg_ld f4_1 (v := .int x1) rfl rfl ?_
  refine sg_puti f4_2 rfl rfl rfl (fun hz => by cases hz) ?_
  refine sg_ld f4_5 (v := .ref 1) rfl rfl ?_
  refine sg_dup f4_6 rfl ?_
  refine sg_geti f4_7 rfl rfl (x := (mi 1 5)) rfl ?_
  refine sg_psh f4_10 (v := .int 1) (by decide) ?_
  refine sg_bin f4_11 rfl ?_
  refine sg_puti2 f4_12 rfl rfl rfl (fun hz => by cases hz) ?_
  exact sg_ret f4_15 pq4 rfl h

/-! X0_changeRow (II)V -/
theorem fe5 (pc : Nat) : gm_fetch 5 pc = gm_find pc cd_5 := rfl
theorem f5_0 : gm_fetch 5 0 = some (1, .aload_n 0, 0, 0, 0, 0) := (fe5 0).trans rfl
theorem f5_1 : gm_fetch 5 1 = some (4, .getfield 30, 23, 0, 6, 0) := (fe5 1).trans rfl
theorem f5_4 : gm_fetch 5 4 = some (5, .iload_n 1, 0, 0, 0, 0) := (fe5 4).trans rfl
theorem f5_5 : gm_fetch 5 5 = some (6, .iload_n 2, 0, 0, 0, 0) := (fe5 5).trans rfl
theorem f5_6 : gm_fetch 5 6 = some (7, .iastore, 0, 0, 0, 0) := (fe5 6).trans rfl
theorem f5_7 : gm_fetch 5 7 = some (8, .aload_n 0, 0, 0, 0, 0) := (fe5 7).trans rfl
theorem f5_8 : gm_fetch 5 8 = some (9, .dup, 0, 0, 0, 0) := (fe5 8).trans rfl
theorem f5_9 : gm_fetch 5 9 = some (12, .getfield 27, 20, 0, 5, 0) := (fe5 9).trans rfl
theorem f5_12 : gm_fetch 5 12 = some (13, .iconst 1, 0, 0, 0, 0) := (fe5 12).trans rfl
theorem f5_13 : gm_fetch 5 13 = some (14, .iadd, 0, 0, 0, 0) := (fe5 13).trans rfl
theorem f5_14 : gm_fetch 5 14 = some (17, .putfield 27, 20, 0, 5, 0) := (fe5 14).trans rfl
theorem f5_17 : gm_fetch 5 17 = some (18, .return_, 0, 0, 0, 0) := (fe5 17).trans rfl
set_option maxRecDepth 10000 in
theorem rg5_0 {mi : Mi} {ml : Ml} {F : Mi → Ml → Prop} {x1 : Int32} {x2 : Int32}  (h : (vp_in x1 7) ∧ (F (va_up (va_up mi 2 (va_up (mi 2) (Int32.toNatClampNeg x1) x2)) 1 (va_up (mi 1) 5 ((mi 1 5) + 1))) ml)) : Sg 5 0 [some (.ref 1), some (.int x1), some (.int x2)] [] mi ml (qv F) := by
  refine sg_ld f5_0 (v := .ref 1) rfl rfl ?_
  refine sg_getr f5_1 rfl rfl (w := 2) rfl ?_
  refine sg_ld f5_4 (v := .int x1) rfl rfl ?_
  refine sg_ld f5_5 (v := .int x2) rfl rfl ?_
  obtain ⟨e1, h⟩ := h
  refine sg_iast f5_6 rfl e1 ?_
  refine sg_ld f5_7 (v := .ref 1) rfl rfl ?_
  refine sg_dup f5_8 rfl ?_
  refine sg_geti f5_9 rfl rfl (x := (mi 1 5)) rfl ?_
  refine sg_psh f5_12 (v := .int 1) (by decide) ?_
  refine sg_bin f5_13 rfl ?_
  refine sg_puti f5_14 rfl rfl rfl (fun hz => by cases hz) ?_
  exact sg_ret f5_17 pq5 rfl h

/-! X0_hasRow (I)Z -/
theorem fe6 (pc : Nat) : gm_fetch 6 pc = gm_find pc cd_6 := rfl
theorem f6_0 : gm_fetch 6 0 = some (1, .iload_n 1, 0, 0, 0, 0) := (fe6 0).trans rfl
theorem f6_1 : gm_fetch 6 1 = some (4, .ifCond .lt 15, 0, 16, 0, 0) := (fe6 1).trans rfl
theorem f6_4 : gm_fetch 6 4 = some (5, .iload_n 1, 0, 0, 0, 0) := (fe6 4).trans rfl
theorem f6_5 : gm_fetch 6 5 = some (6, .aload_n 0, 0, 0, 0, 0) := (fe6 5).trans rfl
theorem f6_6 : gm_fetch 6 6 = some (9, .getfield 9, 0, 0, 0, 0) := (fe6 6).trans rfl
theorem f6_9 : gm_fetch 6 9 = some (12, .if_icmp .ge 7, 0, 16, 0, 0) := (fe6 9).trans rfl
theorem f6_12 : gm_fetch 6 12 = some (13, .iconst 1, 0, 0, 0, 0) := (fe6 12).trans rfl
theorem f6_13 : gm_fetch 6 13 = some (16, .goto 4, 0, 17, 0, 0) := (fe6 13).trans rfl
theorem f6_16 : gm_fetch 6 16 = some (17, .iconst 0, 0, 0, 0, 0) := (fe6 16).trans rfl
theorem f6_17 : gm_fetch 6 17 = some (18, .ireturn, 0, 0, 0, 0) := (fe6 17).trans rfl
set_option maxRecDepth 10000 in
theorem rg6_0 {mi : Mi} {ml : Ml} {F : Int32 → Mi → Ml → Prop} {x1 : Int32}  (h : ((x1 < 0) → F 0 mi ml) ∧ (¬ (x1 < 0) → (((mi 1 0) ≤ x1) → F 0 mi ml) ∧ (¬ ((mi 1 0) ≤ x1) → F 1 mi ml))) : Sg 6 0 [some (.ref 1), some (.int x1)] [] mi ml (qi F) := by
  refine sg_ld f6_0 (v := .int x1) rfl rfl ?_
  refine sg_if f6_1 (fun c => ?_) (fun c => ?_)
  · have h := h.1 c
    refine sg_psh f6_16 (v := .int 0) (by decide) ?_
    exact sg_iret f6_17 pq6 rfl (by decide) ⟨_, rfl, h⟩
  · have h := h.2 c
    refine sg_ld f6_4 (v := .int x1) rfl rfl ?_
    refine sg_ld f6_5 (v := .ref 1) rfl rfl ?_
    refine sg_geti f6_6 rfl rfl (x := (mi 1 0)) rfl ?_
    refine sg_icmp f6_9 (fun c => ?_) (fun c => ?_)
    · have h := h.1 c
      refine sg_psh f6_16 (v := .int 0) (by decide) ?_
      exact sg_iret f6_17 pq6 rfl (by decide) ⟨_, rfl, h⟩
    · have h := h.2 c
      refine sg_psh f6_12 (v := .int 1) (by decide) ?_
      refine sg_goto f6_13 ?_
      exact sg_iret f6_17 pq6 rfl (by decide) ⟨_, rfl, h⟩

/-! X0_hasCell (II)Z -/
theorem fe7 (pc : Nat) : gm_fetch 7 pc = gm_find pc cd_7 := rfl
theorem f7_0 : gm_fetch 7 0 = some (1, .iload_n 1, 0, 0, 0, 0) := (fe7 0).trans rfl
theorem f7_1 : gm_fetch 7 1 = some (4, .ifCond .lt 23, 0, 24, 0, 0) := (fe7 1).trans rfl
theorem f7_4 : gm_fetch 7 4 = some (5, .iload_n 1, 0, 0, 0, 0) := (fe7 4).trans rfl
theorem f7_5 : gm_fetch 7 5 = some (6, .aload_n 0, 0, 0, 0, 0) := (fe7 5).trans rfl
theorem f7_6 : gm_fetch 7 6 = some (9, .getfield 15, 5, 0, 1, 0) := (fe7 6).trans rfl
theorem f7_9 : gm_fetch 7 9 = some (12, .if_icmp .ge 15, 0, 24, 0, 0) := (fe7 9).trans rfl
theorem f7_12 : gm_fetch 7 12 = some (13, .aload_n 0, 0, 0, 0, 0) := (fe7 12).trans rfl
theorem f7_13 : gm_fetch 7 13 = some (14, .iload_n 2, 0, 0, 0, 0) := (fe7 13).trans rfl
theorem f7_14 : gm_fetch 7 14 = some (17, .invokevirtual 46, 27, 6, 0, 0) := (fe7 14).trans rfl
theorem f7_17 : gm_fetch 7 17 = some (20, .ifCond .eq 7, 0, 24, 0, 0) := (fe7 17).trans rfl
theorem f7_20 : gm_fetch 7 20 = some (21, .iconst 1, 0, 0, 0, 0) := (fe7 20).trans rfl
theorem f7_21 : gm_fetch 7 21 = some (24, .goto 4, 0, 25, 0, 0) := (fe7 21).trans rfl
theorem f7_24 : gm_fetch 7 24 = some (25, .iconst 0, 0, 0, 0, 0) := (fe7 24).trans rfl
theorem f7_25 : gm_fetch 7 25 = some (26, .ireturn, 0, 0, 0, 0) := (fe7 25).trans rfl
set_option maxRecDepth 10000 in
theorem rg7_0 {mi : Mi} {ml : Ml} {F : Int32 → Mi → Ml → Prop} {x1 : Int32} {x2 : Int32}  (h : ((x1 < 0) → F 0 mi ml) ∧ (¬ (x1 < 0) → (((mi 1 1) ≤ x1) → F 0 mi ml) ∧ (¬ ((mi 1 1) ≤ x1) → Sg 6 0 [some (.ref 1), some (.int x2)] [] mi ml (qi fun y1 mi2 ml3 => ((y1 = 0) → F 0 mi2 ml3) ∧ (¬ (y1 = 0) → F 1 mi2 ml3))))) : Sg 7 0 [some (.ref 1), some (.int x1), some (.int x2)] [] mi ml (qi F) := by
  refine sg_ld f7_0 (v := .int x1) rfl rfl ?_
  refine sg_if f7_1 (fun c => ?_) (fun c => ?_)
  · have h := h.1 c
    refine sg_psh f7_24 (v := .int 0) (by decide) ?_
    exact sg_iret f7_25 pq7 rfl (by decide) ⟨_, rfl, h⟩
  · have h := h.2 c
    refine sg_ld f7_4 (v := .int x1) rfl rfl ?_
    refine sg_ld f7_5 (v := .ref 1) rfl rfl ?_
    refine sg_geti f7_6 rfl rfl (x := (mi 1 1)) rfl ?_
    refine sg_icmp f7_9 (fun c => ?_) (fun c => ?_)
    · have h := h.1 c
      refine sg_psh f7_24 (v := .int 0) (by decide) ?_
      exact sg_iret f7_25 pq7 rfl (by decide) ⟨_, rfl, h⟩
    · have h := h.2 c
      refine sg_ld f7_12 (v := .ref 1) rfl rfl ?_
      refine sg_ld f7_13 (v := .int x2) rfl rfl ?_
      refine sg_cV f7_14 (vs := [.int x2]) (r := 1) (rest := []) (en := [some (.ref 1), some (.int x2)]) pq6 ⟨rfl, rfl⟩ rfl rfl rfl rfl rfl rfl h ?_
      rintro _ mi2 ml3 ⟨y1, rfl, h⟩
      refine sg_if f7_17 (fun c => ?_) (fun c => ?_)
      · have h := h.1 c
        refine sg_psh f7_24 (v := .int 0) (by decide) ?_
        exact sg_iret f7_25 pq7 rfl (by decide) ⟨_, rfl, h⟩
      · have h := h.2 c
        refine sg_psh f7_20 (v := .int 1) (by decide) ?_
        refine sg_goto f7_21 ?_
        exact sg_iret f7_25 pq7 rfl (by decide) ⟨_, rfl, h⟩

/-! X0_isAtOpenSide (II)Z -/
theorem fe8 (pc : Nat) : gm_fetch 8 pc = gm_find pc cd_8 := rfl
theorem f8_0 : gm_fetch 8 0 = some (1, .iload_n 1, 0, 0, 0, 0) := (fe8 0).trans rfl
theorem f8_1 : gm_fetch 8 1 = some (4, .ifCond .ne 12, 0, 13, 0, 0) := (fe8 1).trans rfl
theorem f8_4 : gm_fetch 8 4 = some (5, .aload_n 0, 0, 0, 0, 0) := (fe8 4).trans rfl
theorem f8_5 : gm_fetch 8 5 = some (8, .getfield 24, 18, 0, 4, 0) := (fe8 5).trans rfl
theorem f8_8 : gm_fetch 8 8 = some (9, .iconst 1, 0, 0, 0, 0) := (fe8 8).trans rfl
theorem f8_9 : gm_fetch 8 9 = some (10, .iand, 0, 0, 0, 0) := (fe8 9).trans rfl
theorem f8_10 : gm_fetch 8 10 = some (13, .ifCond .ne 55, 0, 65, 0, 0) := (fe8 10).trans rfl
theorem f8_13 : gm_fetch 8 13 = some (14, .iload_n 2, 0, 0, 0, 0) := (fe8 13).trans rfl
theorem f8_14 : gm_fetch 8 14 = some (17, .ifCond .ne 12, 0, 26, 0, 0) := (fe8 14).trans rfl
theorem f8_17 : gm_fetch 8 17 = some (18, .aload_n 0, 0, 0, 0, 0) := (fe8 17).trans rfl
theorem f8_18 : gm_fetch 8 18 = some (21, .getfield 24, 18, 0, 4, 0) := (fe8 18).trans rfl
theorem f8_21 : gm_fetch 8 21 = some (22, .iconst 2, 0, 0, 0, 0) := (fe8 21).trans rfl
theorem f8_22 : gm_fetch 8 22 = some (23, .iand, 0, 0, 0, 0) := (fe8 22).trans rfl
theorem f8_23 : gm_fetch 8 23 = some (26, .ifCond .ne 42, 0, 65, 0, 0) := (fe8 23).trans rfl
theorem f8_26 : gm_fetch 8 26 = some (27, .iload_n 1, 0, 0, 0, 0) := (fe8 26).trans rfl
theorem f8_27 : gm_fetch 8 27 = some (28, .aload_n 0, 0, 0, 0, 0) := (fe8 27).trans rfl
theorem f8_28 : gm_fetch 8 28 = some (31, .getfield 15, 5, 0, 1, 0) := (fe8 28).trans rfl
theorem f8_31 : gm_fetch 8 31 = some (32, .iconst 1, 0, 0, 0, 0) := (fe8 31).trans rfl
theorem f8_32 : gm_fetch 8 32 = some (33, .isub, 0, 0, 0, 0) := (fe8 32).trans rfl
theorem f8_33 : gm_fetch 8 33 = some (36, .if_icmp .ne 12, 0, 45, 0, 0) := (fe8 33).trans rfl
theorem f8_36 : gm_fetch 8 36 = some (37, .aload_n 0, 0, 0, 0, 0) := (fe8 36).trans rfl
theorem f8_37 : gm_fetch 8 37 = some (40, .getfield 24, 18, 0, 4, 0) := (fe8 37).trans rfl
theorem f8_40 : gm_fetch 8 40 = some (41, .iconst 4, 0, 0, 0, 0) := (fe8 40).trans rfl
theorem f8_41 : gm_fetch 8 41 = some (42, .iand, 0, 0, 0, 0) := (fe8 41).trans rfl
theorem f8_42 : gm_fetch 8 42 = some (45, .ifCond .ne 23, 0, 65, 0, 0) := (fe8 42).trans rfl
theorem f8_45 : gm_fetch 8 45 = some (46, .iload_n 2, 0, 0, 0, 0) := (fe8 45).trans rfl
theorem f8_46 : gm_fetch 8 46 = some (47, .aload_n 0, 0, 0, 0, 0) := (fe8 46).trans rfl
theorem f8_47 : gm_fetch 8 47 = some (50, .getfield 9, 0, 0, 0, 0) := (fe8 47).trans rfl
theorem f8_50 : gm_fetch 8 50 = some (51, .iconst 1, 0, 0, 0, 0) := (fe8 50).trans rfl
theorem f8_51 : gm_fetch 8 51 = some (52, .isub, 0, 0, 0, 0) := (fe8 51).trans rfl
theorem f8_52 : gm_fetch 8 52 = some (55, .if_icmp .ne 17, 0, 69, 0, 0) := (fe8 52).trans rfl
theorem f8_55 : gm_fetch 8 55 = some (56, .aload_n 0, 0, 0, 0, 0) := (fe8 55).trans rfl
theorem f8_56 : gm_fetch 8 56 = some (59, .getfield 24, 18, 0, 4, 0) := (fe8 56).trans rfl
theorem f8_59 : gm_fetch 8 59 = some (61, .bipush 8, 0, 0, 0, 0) := (fe8 59).trans rfl
theorem f8_61 : gm_fetch 8 61 = some (62, .iand, 0, 0, 0, 0) := (fe8 61).trans rfl
theorem f8_62 : gm_fetch 8 62 = some (65, .ifCond .eq 7, 0, 69, 0, 0) := (fe8 62).trans rfl
theorem f8_65 : gm_fetch 8 65 = some (66, .iconst 1, 0, 0, 0, 0) := (fe8 65).trans rfl
theorem f8_66 : gm_fetch 8 66 = some (69, .goto 4, 0, 70, 0, 0) := (fe8 66).trans rfl
theorem f8_69 : gm_fetch 8 69 = some (70, .iconst 0, 0, 0, 0, 0) := (fe8 69).trans rfl
theorem f8_70 : gm_fetch 8 70 = some (71, .ireturn, 0, 0, 0, 0) := (fe8 70).trans rfl
set_option maxRecDepth 10000 in
theorem rg8_0 {mi : Mi} {ml : Ml} {F : Int32 → Mi → Ml → Prop} {x1 : Int32} {x2 : Int32}  (h : ((¬ x1 = 0) → Sg 8 13 [some (.ref 1), some (.int x1), some (.int x2)] [] mi ml (qi F)) ∧ (¬ (¬ x1 = 0) → ((¬ ((mi 1 4) &&& 1) = 0) → F 1 mi ml) ∧ (¬ (¬ ((mi 1 4) &&& 1) = 0) → Sg 8 13 [some (.ref 1), some (.int x1), some (.int x2)] [] mi ml (qi F)))) : Sg 8 0 [some (.ref 1), some (.int x1), some (.int x2)] [] mi ml (qi F) := by
  refine sg_ld f8_0 (v := .int x1) rfl rfl ?_
  refine sg_if f8_1 (fun c => ?_) (fun c => ?_)
  · have h := h.1 c
    exact h
  · have h := h.2 c
    refine sg_ld f8_4 (v := .ref 1) rfl rfl ?_
    refine sg_geti f8_5 rfl rfl (x := (mi 1 4)) rfl ?_
    refine sg_psh f8_8 (v := .int 1) (by decide) ?_
    refine sg_bin f8_9 rfl ?_
    refine sg_if f8_10 (fun c => ?_) (fun c => ?_)
    · have h := h.1 c
      refine sg_psh f8_65 (v := .int 1) (by decide) ?_
      refine sg_goto f8_66 ?_
      exact sg_iret f8_70 pq8 rfl (by decide) ⟨_, rfl, h⟩
    · have h := h.2 c
      exact h

set_option maxRecDepth 10000 in
theorem rg8_13 {mi : Mi} {ml : Ml} {F : Int32 → Mi → Ml → Prop} {x1 : Int32} {x2 : Int32}  (h : ((¬ x2 = 0) → Sg 8 26 [some (.ref 1), some (.int x1), some (.int x2)] [] mi ml (qi F)) ∧ (¬ (¬ x2 = 0) → ((¬ ((mi 1 4) &&& 2) = 0) → F 1 mi ml) ∧ (¬ (¬ ((mi 1 4) &&& 2) = 0) → Sg 8 26 [some (.ref 1), some (.int x1), some (.int x2)] [] mi ml (qi F)))) : Sg 8 13 [some (.ref 1), some (.int x1), some (.int x2)] [] mi ml (qi F) := by
  refine sg_ld f8_13 (v := .int x2) rfl rfl ?_
  refine sg_if f8_14 (fun c => ?_) (fun c => ?_)
  · have h := h.1 c
    exact h
  · have h := h.2 c
    refine sg_ld f8_17 (v := .ref 1) rfl rfl ?_
    refine sg_geti f8_18 rfl rfl (x := (mi 1 4)) rfl ?_
    refine sg_psh f8_21 (v := .int 2) (by decide) ?_
    refine sg_bin f8_22 rfl ?_
    refine sg_if f8_23 (fun c => ?_) (fun c => ?_)
    · have h := h.1 c
      refine sg_psh f8_65 (v := .int 1) (by decide) ?_
      refine sg_goto f8_66 ?_
      exact sg_iret f8_70 pq8 rfl (by decide) ⟨_, rfl, h⟩
    · have h := h.2 c
      exact h

set_option maxRecDepth 10000 in
theorem rg8_26 {mi : Mi} {ml : Ml} {F : Int32 → Mi → Ml → Prop} {x1 : Int32} {x2 : Int32}  (h : ((¬ x1 = ((mi 1 1) - 1)) → Sg 8 45 [some (.ref 1), some (.int x1), some (.int x2)] [] mi ml (qi F)) ∧ (¬ (¬ x1 = ((mi 1 1) - 1)) → ((¬ ((mi 1 4) &&& 4) = 0) → F 1 mi ml) ∧ (¬ (¬ ((mi 1 4) &&& 4) = 0) → Sg 8 45 [some (.ref 1), some (.int x1), some (.int x2)] [] mi ml (qi F)))) : Sg 8 26 [some (.ref 1), some (.int x1), some (.int x2)] [] mi ml (qi F) := by
  refine sg_ld f8_26 (v := .int x1) rfl rfl ?_
  refine sg_ld f8_27 (v := .ref 1) rfl rfl ?_
  refine sg_geti f8_28 rfl rfl (x := (mi 1 1)) rfl ?_
  refine sg_psh f8_31 (v := .int 1) (by decide) ?_
  refine sg_bin f8_32 rfl ?_
  refine sg_icmp f8_33 (fun c => ?_) (fun c => ?_)
  · have h := h.1 c
    exact h
  · have h := h.2 c
    refine sg_ld f8_36 (v := .ref 1) rfl rfl ?_
    refine sg_geti f8_37 rfl rfl (x := (mi 1 4)) rfl ?_
    refine sg_psh f8_40 (v := .int 4) (by decide) ?_
    refine sg_bin f8_41 rfl ?_
    refine sg_if f8_42 (fun c => ?_) (fun c => ?_)
    · have h := h.1 c
      refine sg_psh f8_65 (v := .int 1) (by decide) ?_
      refine sg_goto f8_66 ?_
      exact sg_iret f8_70 pq8 rfl (by decide) ⟨_, rfl, h⟩
    · have h := h.2 c
      exact h

set_option maxRecDepth 10000 in
theorem rg8_45 {mi : Mi} {ml : Ml} {F : Int32 → Mi → Ml → Prop} {x1 : Int32} {x2 : Int32}  (h : ((¬ x2 = ((mi 1 0) - 1)) → F 0 mi ml) ∧ (¬ (¬ x2 = ((mi 1 0) - 1)) → ((((mi 1 4) &&& 8) = 0) → F 0 mi ml) ∧ (¬ (((mi 1 4) &&& 8) = 0) → F 1 mi ml))) : Sg 8 45 [some (.ref 1), some (.int x1), some (.int x2)] [] mi ml (qi F) := by
  refine sg_ld f8_45 (v := .int x2) rfl rfl ?_
  refine sg_ld f8_46 (v := .ref 1) rfl rfl ?_
  refine sg_geti f8_47 rfl rfl (x := (mi 1 0)) rfl ?_
  refine sg_psh f8_50 (v := .int 1) (by decide) ?_
  refine sg_bin f8_51 rfl ?_
  refine sg_icmp f8_52 (fun c => ?_) (fun c => ?_)
  · have h := h.1 c
    refine sg_psh f8_69 (v := .int 0) (by decide) ?_
    exact sg_iret f8_70 pq8 rfl (by decide) ⟨_, rfl, h⟩
  · have h := h.2 c
    refine sg_ld f8_55 (v := .ref 1) rfl rfl ?_
    refine sg_geti f8_56 rfl rfl (x := (mi 1 4)) rfl ?_
    refine sg_psh f8_59 (v := .int 8) (by decide) ?_
    refine sg_bin f8_61 rfl ?_
    refine sg_if f8_62 (fun c => ?_) (fun c => ?_)
    · have h := h.1 c
      refine sg_psh f8_69 (v := .int 0) (by decide) ?_
      exact sg_iret f8_70 pq8 rfl (by decide) ⟨_, rfl, h⟩
    · have h := h.2 c
      refine sg_psh f8_65 (v := .int 1) (by decide) ?_
      refine sg_goto f8_66 ?_
      exact sg_iret f8_70 pq8 rfl (by decide) ⟨_, rfl, h⟩

/-! X0_numberOf (II)I -/
theorem fe9 (pc : Nat) : gm_fetch 9 pc = gm_find pc cd_9 := rfl
theorem f9_0 : gm_fetch 9 0 = some (1, .iload_n 2, 0, 0, 0, 0) := (fe9 0).trans rfl
theorem f9_1 : gm_fetch 9 1 = some (2, .aload_n 0, 0, 0, 0, 0) := (fe9 1).trans rfl
theorem f9_2 : gm_fetch 9 2 = some (5, .getfield 15, 5, 0, 1, 0) := (fe9 2).trans rfl
theorem f9_5 : gm_fetch 9 5 = some (6, .imul, 0, 0, 0, 0) := (fe9 5).trans rfl
theorem f9_6 : gm_fetch 9 6 = some (7, .iload_n 1, 0, 0, 0, 0) := (fe9 6).trans rfl
theorem f9_7 : gm_fetch 9 7 = some (8, .iadd, 0, 0, 0, 0) := (fe9 7).trans rfl
theorem f9_8 : gm_fetch 9 8 = some (9, .ireturn, 0, 0, 0, 0) := (fe9 8).trans rfl
set_option maxRecDepth 10000 in
theorem rg9_0 {mi : Mi} {ml : Ml} {F : Int32 → Mi → Ml → Prop} {x1 : Int32} {x2 : Int32}  (h : F ((x2 * (mi 1 1)) + x1) mi ml) : Sg 9 0 [some (.ref 1), some (.int x1), some (.int x2)] [] mi ml (qi F) := by
  refine sg_ld f9_0 (v := .int x2) rfl rfl ?_
  refine sg_ld f9_1 (v := .ref 1) rfl rfl ?_
  refine sg_geti f9_2 rfl rfl (x := (mi 1 1)) rfl ?_
  refine sg_bin f9_5 rfl ?_
  refine sg_ld f9_6 (v := .int x1) rfl rfl ?_
  refine sg_bin f9_7 rfl ?_
  exact sg_iret f9_8 pq9 rfl rfl ⟨_, rfl, h⟩

/-! X0_cellCount ()I -/
theorem fe10 (pc : Nat) : gm_fetch 10 pc = gm_find pc cd_10 := rfl
theorem f10_0 : gm_fetch 10 0 = some (1, .aload_n 0, 0, 0, 0, 0) := (fe10 0).trans rfl
theorem f10_1 : gm_fetch 10 1 = some (4, .getfield 9, 0, 0, 0, 0) := (fe10 1).trans rfl
theorem f10_4 : gm_fetch 10 4 = some (5, .aload_n 0, 0, 0, 0, 0) := (fe10 4).trans rfl
theorem f10_5 : gm_fetch 10 5 = some (8, .getfield 15, 5, 0, 1, 0) := (fe10 5).trans rfl
theorem f10_8 : gm_fetch 10 8 = some (9, .imul, 0, 0, 0, 0) := (fe10 8).trans rfl
theorem f10_9 : gm_fetch 10 9 = some (10, .ireturn, 0, 0, 0, 0) := (fe10 9).trans rfl
set_option maxRecDepth 10000 in
theorem rg10_0 {mi : Mi} {ml : Ml} {F : Int32 → Mi → Ml → Prop}   (h : F ((mi 1 0) * (mi 1 1)) mi ml) : Sg 10 0 [some (.ref 1)] [] mi ml (qi F) := by
  refine sg_ld f10_0 (v := .ref 1) rfl rfl ?_
  refine sg_geti f10_1 rfl rfl (x := (mi 1 0)) rfl ?_
  refine sg_ld f10_4 (v := .ref 1) rfl rfl ?_
  refine sg_geti f10_5 rfl rfl (x := (mi 1 1)) rfl ?_
  refine sg_bin f10_8 rfl ?_
  exact sg_iret f10_9 pq10 rfl rfl ⟨_, rfl, h⟩

/-! X0_faultyCount ()I -/
theorem fe11 (pc : Nat) : gm_fetch 11 pc = gm_find pc cd_11 := rfl
theorem f11_0 : gm_fetch 11 0 = some (1, .iconst 0, 0, 0, 0, 0) := (fe11 0).trans rfl
theorem f11_1 : gm_fetch 11 1 = some (2, .istore_n 1, 0, 0, 0, 0) := (fe11 1).trans rfl
theorem f11_2 : gm_fetch 11 2 = some (3, .iconst 0, 0, 0, 0, 0) := (fe11 2).trans rfl
theorem f11_3 : gm_fetch 11 3 = some (4, .istore_n 2, 0, 0, 0, 0) := (fe11 3).trans rfl
theorem f11_4 : gm_fetch 11 4 = some (5, .iload_n 2, 0, 0, 0, 0) := (fe11 4).trans rfl
theorem f11_5 : gm_fetch 11 5 = some (6, .aload_n 0, 0, 0, 0, 0) := (fe11 5).trans rfl
theorem f11_6 : gm_fetch 11 6 = some (9, .getfield 9, 0, 0, 0, 0) := (fe11 6).trans rfl
theorem f11_9 : gm_fetch 11 9 = some (12, .if_icmp .ge 21, 0, 30, 0, 0) := (fe11 9).trans rfl
theorem f11_12 : gm_fetch 11 12 = some (13, .iload_n 1, 0, 0, 0, 0) := (fe11 12).trans rfl
theorem f11_13 : gm_fetch 11 13 = some (14, .aload_n 0, 0, 0, 0, 0) := (fe11 13).trans rfl
theorem f11_14 : gm_fetch 11 14 = some (17, .getfield 30, 23, 0, 6, 0) := (fe11 14).trans rfl
theorem f11_17 : gm_fetch 11 17 = some (18, .iload_n 2, 0, 0, 0, 0) := (fe11 17).trans rfl
theorem f11_18 : gm_fetch 11 18 = some (19, .iaload, 0, 0, 0, 0) := (fe11 18).trans rfl
theorem f11_19 : gm_fetch 11 19 = some (22, .invokestatic 50, 30, 194, 0, 0) := (fe11 19).trans rfl
theorem f11_22 : gm_fetch 11 22 = some (23, .iadd, 0, 0, 0, 0) := (fe11 22).trans rfl
theorem f11_23 : gm_fetch 11 23 = some (24, .istore_n 1, 0, 0, 0, 0) := (fe11 23).trans rfl
theorem f11_24 : gm_fetch 11 24 = some (27, .iinc 2 1, 0, 0, 0, 0) := (fe11 24).trans rfl
theorem f11_27 : gm_fetch 11 27 = some (30, .goto (-23), 0, 4, 0, 0) := (fe11 27).trans rfl
theorem f11_30 : gm_fetch 11 30 = some (31, .iload_n 1, 0, 0, 0, 0) := (fe11 30).trans rfl
theorem f11_31 : gm_fetch 11 31 = some (32, .ireturn, 0, 0, 0, 0) := (fe11 31).trans rfl
set_option maxRecDepth 10000 in
theorem rg11_0 {mi : Mi} {ml : Ml} {F : Int32 → Mi → Ml → Prop}   (h : Sg 11 4 [some (.ref 1), some (.int 0), some (.int 0)] [] mi ml (qi F)) : Sg 11 0 [some (.ref 1), none, none] [] mi ml (qi F) := by
  refine sg_psh f11_0 (v := .int 0) (by decide) ?_
  refine sg_st1 f11_1 (ls' := [some (.ref 1), some (.int 0), none]) rfl rfl rfl rfl ?_
  refine sg_psh f11_2 (v := .int 0) (by decide) ?_
  refine sg_st1 f11_3 (ls' := [some (.ref 1), some (.int 0), some (.int 0)]) rfl rfl rfl rfl ?_
  exact h

set_option maxRecDepth 10000 in
theorem rg11_4 {mi : Mi} {ml : Ml} {F : Int32 → Mi → Ml → Prop} {x1 : Int32} {x2 : Int32}  (h : (((mi 1 0) ≤ x2) → F x1 mi ml) ∧ (¬ ((mi 1 0) ≤ x2) → (vp_in x2 7) ∧ (Sg 194 0 [some (.int (mi 2 (Int32.toNatClampNeg x2)))] [] mi ml (qi fun y2 mi3 ml4 => Sg 11 4 [some (.ref 1), some (.int (x1 + y2)), some (.int (x2 + 1))] [] mi3 ml4 (qi F))))) : Sg 11 4 [some (.ref 1), some (.int x1), some (.int x2)] [] mi ml (qi F) := by
  refine sg_ld f11_4 (v := .int x2) rfl rfl ?_
  refine sg_ld f11_5 (v := .ref 1) rfl rfl ?_
  refine sg_geti f11_6 rfl rfl (x := (mi 1 0)) rfl ?_
  refine sg_icmp f11_9 (fun c => ?_) (fun c => ?_)
  · have h := h.1 c
    refine sg_ld f11_30 (v := .int x1) rfl rfl ?_
    exact sg_iret f11_31 pq11 rfl rfl ⟨_, rfl, h⟩
  · have h := h.2 c
    refine sg_ld f11_12 (v := .int x1) rfl rfl ?_
    refine sg_ld f11_13 (v := .ref 1) rfl rfl ?_
    refine sg_getr f11_14 rfl rfl (w := 2) rfl ?_
    refine sg_ld f11_17 (v := .int x2) rfl rfl ?_
    obtain ⟨e1, h⟩ := h
    refine sg_iald f11_18 rfl e1 (x := (mi 2 (Int32.toNatClampNeg x2))) rfl ?_
    refine sg_cS f11_19 (vs := [.int (mi 2 (Int32.toNatClampNeg x2))]) (rest := [.int x1]) (en := [some (.int (mi 2 (Int32.toNatClampNeg x2)))]) (by decide) pq194 ⟨rfl, rfl⟩ rfl rfl rfl rfl rfl h ?_
    rintro _ mi3 ml4 ⟨y2, rfl, h⟩
    refine sg_bin f11_22 rfl ?_
    refine sg_st1 f11_23 (ls' := [some (.ref 1), some (.int (x1 + y2)), some (.int x2)]) rfl rfl rfl rfl ?_
    refine sg_inc f11_24 (d := 1) (ls' := [some (.ref 1), some (.int (x1 + y2)), some (.int (x2 + 1))]) rfl (by decide) rfl ?_
    refine sg_goto f11_27 ?_
    exact h

/-! X2_become (LGridMender$Laying;)V -/
theorem fe25 (pc : Nat) : gm_fetch 25 pc = gm_find pc cd_25 := rfl
theorem f25_0 : gm_fetch 25 0 = some (1, .aload_n 0, 0, 0, 0, 0) := (fe25 0).trans rfl
theorem f25_1 : gm_fetch 25 1 = some (2, .aload_n 1, 0, 0, 0, 0) := (fe25 1).trans rfl
theorem f25_2 : gm_fetch 25 2 = some (5, .getfield 15, 60, 2, 0, 0) := (fe25 2).trans rfl
theorem f25_5 : gm_fetch 25 5 = some (8, .putfield 15, 60, 2, 0, 0) := (fe25 5).trans rfl
theorem f25_8 : gm_fetch 25 8 = some (9, .aload_n 0, 0, 0, 0, 0) := (fe25 8).trans rfl
theorem f25_9 : gm_fetch 25 9 = some (10, .aload_n 1, 0, 0, 0, 0) := (fe25 9).trans rfl
theorem f25_10 : gm_fetch 25 10 = some (13, .getfield 19, 62, 2, 1, 0) := (fe25 10).trans rfl
theorem f25_13 : gm_fetch 25 13 = some (16, .putfield 19, 62, 2, 1, 0) := (fe25 13).trans rfl
theorem f25_16 : gm_fetch 25 16 = some (17, .aload_n 0, 0, 0, 0, 0) := (fe25 16).trans rfl
theorem f25_17 : gm_fetch 25 17 = some (18, .aload_n 1, 0, 0, 0, 0) := (fe25 17).trans rfl
theorem f25_18 : gm_fetch 25 18 = some (21, .getfield 23, 63, 2, 2, 0) := (fe25 18).trans rfl
theorem f25_21 : gm_fetch 25 21 = some (24, .putfield 23, 63, 2, 2, 0) := (fe25 21).trans rfl
theorem f25_24 : gm_fetch 25 24 = some (25, .aload_n 0, 0, 0, 0, 0) := (fe25 24).trans rfl
theorem f25_25 : gm_fetch 25 25 = some (26, .aload_n 1, 0, 0, 0, 0) := (fe25 25).trans rfl
theorem f25_26 : gm_fetch 25 26 = some (29, .getfield 26, 64, 2, 3, 0) := (fe25 26).trans rfl
theorem f25_29 : gm_fetch 25 29 = some (32, .putfield 26, 64, 2, 3, 0) := (fe25 29).trans rfl
theorem f25_32 : gm_fetch 25 32 = some (33, .aload_n 1, 0, 0, 0, 0) := (fe25 32).trans rfl
theorem f25_33 : gm_fetch 25 33 = some (36, .getfield 9, 65, 2, 4, 0) := (fe25 33).trans rfl
theorem f25_36 : gm_fetch 25 36 = some (37, .iconst 0, 0, 0, 0, 0) := (fe25 36).trans rfl
theorem f25_37 : gm_fetch 25 37 = some (38, .aload_n 0, 0, 0, 0, 0) := (fe25 37).trans rfl
theorem f25_38 : gm_fetch 25 38 = some (41, .getfield 9, 65, 2, 4, 0) := (fe25 38).trans rfl
theorem f25_41 : gm_fetch 25 41 = some (42, .iconst 0, 0, 0, 0, 0) := (fe25 41).trans rfl
theorem f25_42 : gm_fetch 25 42 = some (44, .bipush 7, 0, 0, 0, 0) := (fe25 42).trans rfl
theorem f25_44 : gm_fetch 25 44 = some (47, .invokestatic 29, 119, 0, 2, 0) := (fe25 44).trans rfl
theorem f25_47 : gm_fetch 25 47 = some (48, .return_, 0, 0, 0, 0) := (fe25 47).trans rfl
set_option maxRecDepth 10000 in
theorem rg25_0 {mi : Mi} {ml : Ml} {F : Mi → Ml → Prop} {rx0 : Nat} {rx1 : Nat} (hrx0 : isY rx0) (hrx1 : isY rx1) (h : ((mi rx1 0) = 0 ∨ (mi rx1 0) = 1) ∧ (F (va_up (va_up mi rx0 (va_up (va_up (va_up (va_up (mi rx0) 0 (mi rx1 0)) 1 ((va_up mi rx0 (va_up (mi rx0) 0 (mi rx1 0))) rx1 1)) 2 ((va_up mi rx0 (va_up (va_up (mi rx0) 0 (mi rx1 0)) 1 ((va_up mi rx0 (va_up (mi rx0) 0 (mi rx1 0))) rx1 1))) rx1 2)) 3 ((va_up mi rx0 (va_up (va_up (va_up (mi rx0) 0 (mi rx1 0)) 1 ((va_up mi rx0 (va_up (mi rx0) 0 (mi rx1 0))) rx1 1)) 2 ((va_up mi rx0 (va_up (va_up (mi rx0) 0 (mi rx1 0)) 1 ((va_up mi rx0 (va_up (mi rx0) 0 (mi rx1 0))) rx1 1))) rx1 2))) rx1 3))) (rx0 + 1) (va_cpy ((va_up mi rx0 (va_up (va_up (va_up (va_up (mi rx0) 0 (mi rx1 0)) 1 ((va_up mi rx0 (va_up (mi rx0) 0 (mi rx1 0))) rx1 1)) 2 ((va_up mi rx0 (va_up (va_up (mi rx0) 0 (mi rx1 0)) 1 ((va_up mi rx0 (va_up (mi rx0) 0 (mi rx1 0))) rx1 1))) rx1 2)) 3 ((va_up mi rx0 (va_up (va_up (va_up (mi rx0) 0 (mi rx1 0)) 1 ((va_up mi rx0 (va_up (mi rx0) 0 (mi rx1 0))) rx1 1)) 2 ((va_up mi rx0 (va_up (va_up (mi rx0) 0 (mi rx1 0)) 1 ((va_up mi rx0 (va_up (mi rx0) 0 (mi rx1 0))) rx1 1))) rx1 2))) rx1 3))) (rx1 + 1)) ((va_up mi rx0 (va_up (va_up (va_up (va_up (mi rx0) 0 (mi rx1 0)) 1 ((va_up mi rx0 (va_up (mi rx0) 0 (mi rx1 0))) rx1 1)) 2 ((va_up mi rx0 (va_up (va_up (mi rx0) 0 (mi rx1 0)) 1 ((va_up mi rx0 (va_up (mi rx0) 0 (mi rx1 0))) rx1 1))) rx1 2)) 3 ((va_up mi rx0 (va_up (va_up (va_up (mi rx0) 0 (mi rx1 0)) 1 ((va_up mi rx0 (va_up (mi rx0) 0 (mi rx1 0))) rx1 1)) 2 ((va_up mi rx0 (va_up (va_up (mi rx0) 0 (mi rx1 0)) 1 ((va_up mi rx0 (va_up (mi rx0) 0 (mi rx1 0))) rx1 1))) rx1 2))) rx1 3))) (rx0 + 1)) (Int32.toNatClampNeg 0) (Int32.toNatClampNeg 0) (Int32.toNatClampNeg 7))) ml)) : Sg 25 0 [some (.ref rx0), some (.ref rx1)] [] mi ml (qv F) := by
  refine sg_ld f25_0 (v := .ref rx0) rfl rfl ?_
  refine sg_ld f25_1 (v := .ref rx1) rfl rfl ?_
  refine sg_geti f25_2 hrx1.1 rfl (x := (mi rx1 0)) rfl ?_
  obtain ⟨e1, h⟩ := h
  refine sg_puti f25_5 hrx0.1 rfl rfl (fun _ => e1) ?_
  refine sg_ld f25_8 (v := .ref rx0) rfl rfl ?_
  refine sg_ld f25_9 (v := .ref rx1) rfl rfl ?_
  refine sg_geti f25_10 hrx1.1 rfl (x := ((va_up mi rx0 (va_up (mi rx0) 0 (mi rx1 0))) rx1 1)) rfl ?_
  refine sg_puti2 f25_13 hrx0.1 rfl rfl (fun hz => by cases hz) ?_
  refine sg_ld f25_16 (v := .ref rx0) rfl rfl ?_
  refine sg_ld f25_17 (v := .ref rx1) rfl rfl ?_
  refine sg_geti f25_18 hrx1.1 rfl (x := ((va_up mi rx0 (va_up (va_up (mi rx0) 0 (mi rx1 0)) 1 ((va_up mi rx0 (va_up (mi rx0) 0 (mi rx1 0))) rx1 1))) rx1 2)) rfl ?_
  refine sg_puti2 f25_21 hrx0.1 rfl rfl (fun hz => by cases hz) ?_
  refine sg_ld f25_24 (v := .ref rx0) rfl rfl ?_
  refine sg_ld f25_25 (v := .ref rx1) rfl rfl ?_
  refine sg_geti f25_26 hrx1.1 rfl (x := ((va_up mi rx0 (va_up (va_up (va_up (mi rx0) 0 (mi rx1 0)) 1 ((va_up mi rx0 (va_up (mi rx0) 0 (mi rx1 0))) rx1 1)) 2 ((va_up mi rx0 (va_up (va_up (mi rx0) 0 (mi rx1 0)) 1 ((va_up mi rx0 (va_up (mi rx0) 0 (mi rx1 0))) rx1 1))) rx1 2))) rx1 3)) rfl ?_
  refine sg_puti2 f25_29 hrx0.1 rfl rfl (fun hz => by cases hz) ?_
  refine sg_ld f25_32 (v := .ref rx1) rfl rfl ?_
  refine sg_getr f25_33 hrx1.1 rfl (w := rx1 + 1) hrx1.2.1 ?_
  refine sg_psh f25_36 (v := .int 0) (by decide) ?_
  refine sg_ld f25_37 (v := .ref rx0) rfl rfl ?_
  refine sg_getr f25_38 hrx0.1 rfl (w := rx0 + 1) hrx0.2.1 ?_
  refine sg_psh f25_41 (v := .int 0) (by decide) ?_
  refine sg_psh f25_42 (v := .int 7) (by decide) ?_
  refine sg_cpi f25_44 hrx1.2.2 hrx0.2.2 (by decide) (by decide) (by decide) (by decide) (by decide) rfl ?_
  exact sg_ret f25_47 pq25 rfl h

/-! X2_beginOn (LGridMender$Board;)V -/
theorem fe26 (pc : Nat) : gm_fetch 26 pc = gm_find pc cd_26 := rfl
theorem f26_0 : gm_fetch 26 0 = some (1, .aload_n 0, 0, 0, 0, 0) := (fe26 0).trans rfl
theorem f26_1 : gm_fetch 26 1 = some (2, .iconst 1, 0, 0, 0, 0) := (fe26 1).trans rfl
theorem f26_2 : gm_fetch 26 2 = some (5, .putfield 15, 60, 2, 0, 0) := (fe26 2).trans rfl
theorem f26_5 : gm_fetch 26 5 = some (6, .aload_n 0, 0, 0, 0, 0) := (fe26 5).trans rfl
theorem f26_6 : gm_fetch 26 6 = some (7, .aload_n 1, 0, 0, 0, 0) := (fe26 6).trans rfl
theorem f26_7 : gm_fetch 26 7 = some (10, .getfield 35, 2, 0, 0, 0) := (fe26 7).trans rfl
theorem f26_10 : gm_fetch 26 10 = some (13, .putfield 19, 62, 2, 1, 0) := (fe26 10).trans rfl
theorem f26_13 : gm_fetch 26 13 = some (14, .aload_n 0, 0, 0, 0, 0) := (fe26 13).trans rfl
theorem f26_14 : gm_fetch 26 14 = some (15, .aload_n 1, 0, 0, 0, 0) := (fe26 14).trans rfl
theorem f26_15 : gm_fetch 26 15 = some (18, .getfield 38, 8, 0, 1, 0) := (fe26 15).trans rfl
theorem f26_18 : gm_fetch 26 18 = some (21, .putfield 23, 63, 2, 2, 0) := (fe26 18).trans rfl
theorem f26_21 : gm_fetch 26 21 = some (22, .aload_n 0, 0, 0, 0, 0) := (fe26 21).trans rfl
theorem f26_22 : gm_fetch 26 22 = some (23, .aload_n 1, 0, 0, 0, 0) := (fe26 22).trans rfl
theorem f26_23 : gm_fetch 26 23 = some (26, .getfield 39, 13, 0, 2, 0) := (fe26 23).trans rfl
theorem f26_26 : gm_fetch 26 26 = some (29, .putfield 26, 64, 2, 3, 0) := (fe26 26).trans rfl
theorem f26_29 : gm_fetch 26 29 = some (30, .return_, 0, 0, 0, 0) := (fe26 29).trans rfl
set_option maxRecDepth 10000 in
theorem rg26_0 {mi : Mi} {ml : Ml} {F : Mi → Ml → Prop} {rx0 : Nat} (hrx0 : isY rx0) (h : F (va_up mi rx0 (va_up (va_up (va_up (va_up (mi rx0) 0 1) 1 ((va_up mi rx0 (va_up (mi rx0) 0 1)) 1 0)) 2 ((va_up mi rx0 (va_up (va_up (mi rx0) 0 1) 1 ((va_up mi rx0 (va_up (mi rx0) 0 1)) 1 0))) 1 1)) 3 ((va_up mi rx0 (va_up (va_up (va_up (mi rx0) 0 1) 1 ((va_up mi rx0 (va_up (mi rx0) 0 1)) 1 0)) 2 ((va_up mi rx0 (va_up (va_up (mi rx0) 0 1) 1 ((va_up mi rx0 (va_up (mi rx0) 0 1)) 1 0))) 1 1))) 1 2))) ml) : Sg 26 0 [some (.ref rx0), some (.ref 1)] [] mi ml (qv F) := by
  refine sg_ld f26_0 (v := .ref rx0) rfl rfl ?_
  refine sg_psh f26_1 (v := .int 1) (by decide) ?_
  refine sg_puti f26_2 hrx0.1 rfl rfl (fun _ => by decide) ?_
  refine sg_ld f26_5 (v := .ref rx0) rfl rfl ?_
  refine sg_ld f26_6 (v := .ref 1) rfl rfl ?_
  refine sg_geti f26_7 rfl rfl (x := ((va_up mi rx0 (va_up (mi rx0) 0 1)) 1 0)) rfl ?_
  refine sg_puti2 f26_10 hrx0.1 rfl rfl (fun hz => by cases hz) ?_
  refine sg_ld f26_13 (v := .ref rx0) rfl rfl ?_
  refine sg_ld f26_14 (v := .ref 1) rfl rfl ?_
  refine sg_geti f26_15 rfl rfl (x := ((va_up mi rx0 (va_up (va_up (mi rx0) 0 1) 1 ((va_up mi rx0 (va_up (mi rx0) 0 1)) 1 0))) 1 1)) rfl ?_
  refine sg_puti2 f26_18 hrx0.1 rfl rfl (fun hz => by cases hz) ?_
  refine sg_ld f26_21 (v := .ref rx0) rfl rfl ?_
  refine sg_ld f26_22 (v := .ref 1) rfl rfl ?_
  refine sg_geti f26_23 rfl rfl (x := ((va_up mi rx0 (va_up (va_up (va_up (mi rx0) 0 1) 1 ((va_up mi rx0 (va_up (mi rx0) 0 1)) 1 0)) 2 ((va_up mi rx0 (va_up (va_up (mi rx0) 0 1) 1 ((va_up mi rx0 (va_up (mi rx0) 0 1)) 1 0))) 1 1))) 1 2)) rfl ?_
  refine sg_puti2 f26_26 hrx0.1 rfl rfl (fun hz => by cases hz) ?_
  exact sg_ret f26_29 pq26 rfl h

/-! X2_suits (LGridMender$Board;)Z -/
theorem fe27 (pc : Nat) : gm_fetch 27 pc = gm_find pc cd_27 := rfl
theorem f27_0 : gm_fetch 27 0 = some (1, .aload_n 0, 0, 0, 0, 0) := (fe27 0).trans rfl
theorem f27_1 : gm_fetch 27 1 = some (4, .getfield 19, 62, 2, 1, 0) := (fe27 1).trans rfl
theorem f27_4 : gm_fetch 27 4 = some (5, .aload_n 1, 0, 0, 0, 0) := (fe27 4).trans rfl
theorem f27_5 : gm_fetch 27 5 = some (8, .getfield 35, 2, 0, 0, 0) := (fe27 5).trans rfl
theorem f27_8 : gm_fetch 27 8 = some (11, .if_icmp .ne 29, 0, 37, 0, 0) := (fe27 8).trans rfl
theorem f27_11 : gm_fetch 27 11 = some (12, .aload_n 0, 0, 0, 0, 0) := (fe27 11).trans rfl
theorem f27_12 : gm_fetch 27 12 = some (15, .getfield 23, 63, 2, 2, 0) := (fe27 12).trans rfl
theorem f27_15 : gm_fetch 27 15 = some (16, .aload_n 1, 0, 0, 0, 0) := (fe27 15).trans rfl
theorem f27_16 : gm_fetch 27 16 = some (19, .getfield 38, 8, 0, 1, 0) := (fe27 16).trans rfl
theorem f27_19 : gm_fetch 27 19 = some (22, .if_icmp .ne 18, 0, 37, 0, 0) := (fe27 19).trans rfl
theorem f27_22 : gm_fetch 27 22 = some (23, .aload_n 0, 0, 0, 0, 0) := (fe27 22).trans rfl
theorem f27_23 : gm_fetch 27 23 = some (26, .getfield 26, 64, 2, 3, 0) := (fe27 23).trans rfl
theorem f27_26 : gm_fetch 27 26 = some (27, .aload_n 1, 0, 0, 0, 0) := (fe27 26).trans rfl
theorem f27_27 : gm_fetch 27 27 = some (30, .getfield 39, 13, 0, 2, 0) := (fe27 27).trans rfl
theorem f27_30 : gm_fetch 27 30 = some (33, .if_icmp .ne 7, 0, 37, 0, 0) := (fe27 30).trans rfl
theorem f27_33 : gm_fetch 27 33 = some (34, .iconst 1, 0, 0, 0, 0) := (fe27 33).trans rfl
theorem f27_34 : gm_fetch 27 34 = some (37, .goto 4, 0, 38, 0, 0) := (fe27 34).trans rfl
theorem f27_37 : gm_fetch 27 37 = some (38, .iconst 0, 0, 0, 0, 0) := (fe27 37).trans rfl
theorem f27_38 : gm_fetch 27 38 = some (39, .ireturn, 0, 0, 0, 0) := (fe27 38).trans rfl
set_option maxRecDepth 10000 in
theorem rg27_0 {mi : Mi} {ml : Ml} {F : Int32 → Mi → Ml → Prop} {rx0 : Nat} (hrx0 : isY rx0) (h : ((¬ (mi rx0 1) = (mi 1 0)) → F 0 mi ml) ∧ (¬ (¬ (mi rx0 1) = (mi 1 0)) → ((¬ (mi rx0 2) = (mi 1 1)) → F 0 mi ml) ∧ (¬ (¬ (mi rx0 2) = (mi 1 1)) → ((¬ (mi rx0 3) = (mi 1 2)) → F 0 mi ml) ∧ (¬ (¬ (mi rx0 3) = (mi 1 2)) → F 1 mi ml)))) : Sg 27 0 [some (.ref rx0), some (.ref 1)] [] mi ml (qi F) := by
  refine sg_ld f27_0 (v := .ref rx0) rfl rfl ?_
  refine sg_geti f27_1 hrx0.1 rfl (x := (mi rx0 1)) rfl ?_
  refine sg_ld f27_4 (v := .ref 1) rfl rfl ?_
  refine sg_geti f27_5 rfl rfl (x := (mi 1 0)) rfl ?_
  refine sg_icmp f27_8 (fun c => ?_) (fun c => ?_)
  · have h := h.1 c
    refine sg_psh f27_37 (v := .int 0) (by decide) ?_
    exact sg_iret f27_38 pq27 rfl (by decide) ⟨_, rfl, h⟩
  · have h := h.2 c
    refine sg_ld f27_11 (v := .ref rx0) rfl rfl ?_
    refine sg_geti f27_12 hrx0.1 rfl (x := (mi rx0 2)) rfl ?_
    refine sg_ld f27_15 (v := .ref 1) rfl rfl ?_
    refine sg_geti f27_16 rfl rfl (x := (mi 1 1)) rfl ?_
    refine sg_icmp f27_19 (fun c => ?_) (fun c => ?_)
    · have h := h.1 c
      refine sg_psh f27_37 (v := .int 0) (by decide) ?_
      exact sg_iret f27_38 pq27 rfl (by decide) ⟨_, rfl, h⟩
    · have h := h.2 c
      refine sg_ld f27_22 (v := .ref rx0) rfl rfl ?_
      refine sg_geti f27_23 hrx0.1 rfl (x := (mi rx0 3)) rfl ?_
      refine sg_ld f27_26 (v := .ref 1) rfl rfl ?_
      refine sg_geti f27_27 rfl rfl (x := (mi 1 2)) rfl ?_
      refine sg_icmp f27_30 (fun c => ?_) (fun c => ?_)
      · have h := h.1 c
        refine sg_psh f27_37 (v := .int 0) (by decide) ?_
        exact sg_iret f27_38 pq27 rfl (by decide) ⟨_, rfl, h⟩
      · have h := h.2 c
        refine sg_psh f27_33 (v := .int 1) (by decide) ?_
        refine sg_goto f27_34 ?_
        exact sg_iret f27_38 pq27 rfl (by decide) ⟨_, rfl, h⟩

/-! X2_seatOrFirst (II)I -/
theorem fe28 (pc : Nat) : gm_fetch 28 pc = gm_find pc cd_28 := rfl
theorem f28_0 : gm_fetch 28 0 = some (1, .aload_n 0, 0, 0, 0, 0) := (fe28 0).trans rfl
theorem f28_1 : gm_fetch 28 1 = some (4, .getfield 15, 60, 2, 0, 0) := (fe28 1).trans rfl
theorem f28_4 : gm_fetch 28 4 = some (7, .ifCond .eq 12, 0, 16, 0, 0) := (fe28 4).trans rfl
theorem f28_7 : gm_fetch 28 7 = some (8, .aload_n 0, 0, 0, 0, 0) := (fe28 7).trans rfl
theorem f28_8 : gm_fetch 28 8 = some (11, .getfield 9, 65, 2, 4, 0) := (fe28 8).trans rfl
theorem f28_11 : gm_fetch 28 11 = some (12, .iload_n 1, 0, 0, 0, 0) := (fe28 11).trans rfl
theorem f28_12 : gm_fetch 28 12 = some (13, .iaload, 0, 0, 0, 0) := (fe28 12).trans rfl
theorem f28_13 : gm_fetch 28 13 = some (16, .goto 8, 0, 21, 0, 0) := (fe28 13).trans rfl
theorem f28_16 : gm_fetch 28 16 = some (17, .iconst 1, 0, 0, 0, 0) := (fe28 16).trans rfl
theorem f28_17 : gm_fetch 28 17 = some (18, .iload_n 2, 0, 0, 0, 0) := (fe28 17).trans rfl
theorem f28_18 : gm_fetch 28 18 = some (19, .ishl, 0, 0, 0, 0) := (fe28 18).trans rfl
theorem f28_19 : gm_fetch 28 19 = some (20, .iconst 1, 0, 0, 0, 0) := (fe28 19).trans rfl
theorem f28_20 : gm_fetch 28 20 = some (21, .isub, 0, 0, 0, 0) := (fe28 20).trans rfl
theorem f28_21 : gm_fetch 28 21 = some (22, .ireturn, 0, 0, 0, 0) := (fe28 21).trans rfl
set_option maxRecDepth 10000 in
theorem rg28_0 {mi : Mi} {ml : Ml} {F : Int32 → Mi → Ml → Prop} {rx0 : Nat} {x1 : Int32} {x2 : Int32} (hrx0 : isY rx0) (h : (((mi rx0 0) = 0) → F ((1 <<< (x2 &&& 31)) - 1) mi ml) ∧ (¬ ((mi rx0 0) = 0) → (vp_in x1 7) ∧ (F (mi (rx0 + 1) (Int32.toNatClampNeg x1)) mi ml))) : Sg 28 0 [some (.ref rx0), some (.int x1), some (.int x2)] [] mi ml (qi F) := by
  refine sg_ld f28_0 (v := .ref rx0) rfl rfl ?_
  refine sg_geti f28_1 hrx0.1 rfl (x := (mi rx0 0)) rfl ?_
  refine sg_if f28_4 (fun c => ?_) (fun c => ?_)
  · have h := h.1 c
    refine sg_psh f28_16 (v := .int 1) (by decide) ?_
    refine sg_ld f28_17 (v := .int x2) rfl rfl ?_
    refine sg_bin f28_18 rfl ?_
    refine sg_psh f28_19 (v := .int 1) (by decide) ?_
    refine sg_bin f28_20 rfl ?_
    exact sg_iret f28_21 pq28 rfl rfl ⟨_, rfl, h⟩
  · have h := h.2 c
    refine sg_ld f28_7 (v := .ref rx0) rfl rfl ?_
    refine sg_getr f28_8 hrx0.1 rfl (w := rx0 + 1) hrx0.2.1 ?_
    refine sg_ld f28_11 (v := .int x1) rfl rfl ?_
    obtain ⟨e1, h⟩ := h
    refine sg_iald f28_12 hrx0.2.2 e1 (x := (mi (rx0 + 1) (Int32.toNatClampNeg x1))) rfl ?_
    refine sg_goto f28_13 ?_
    exact sg_iret f28_21 pq28 rfl rfl ⟨_, rfl, h⟩

/-! X2_brokenOn (LGridMender$Board;)I -/
theorem fe29 (pc : Nat) : gm_fetch 29 pc = gm_find pc cd_29 := rfl
theorem f29_0 : gm_fetch 29 0 = some (1, .iconst 0, 0, 0, 0, 0) := (fe29 0).trans rfl
theorem f29_1 : gm_fetch 29 1 = some (2, .istore_n 2, 0, 0, 0, 0) := (fe29 1).trans rfl
theorem f29_2 : gm_fetch 29 2 = some (3, .iconst 0, 0, 0, 0, 0) := (fe29 2).trans rfl
theorem f29_3 : gm_fetch 29 3 = some (4, .istore_n 3, 0, 0, 0, 0) := (fe29 3).trans rfl
theorem f29_4 : gm_fetch 29 4 = some (5, .iload_n 3, 0, 0, 0, 0) := (fe29 4).trans rfl
theorem f29_5 : gm_fetch 29 5 = some (6, .aload_n 1, 0, 0, 0, 0) := (fe29 5).trans rfl
theorem f29_6 : gm_fetch 29 6 = some (9, .getfield 35, 2, 0, 0, 0) := (fe29 6).trans rfl
theorem f29_9 : gm_fetch 29 9 = some (12, .if_icmp .ge 66, 0, 75, 0, 0) := (fe29 9).trans rfl
theorem f29_12 : gm_fetch 29 12 = some (13, .iload_n 2, 0, 0, 0, 0) := (fe29 12).trans rfl
theorem f29_13 : gm_fetch 29 13 = some (14, .aload_n 0, 0, 0, 0, 0) := (fe29 13).trans rfl
theorem f29_14 : gm_fetch 29 14 = some (17, .getfield 9, 65, 2, 4, 0) := (fe29 14).trans rfl
theorem f29_17 : gm_fetch 29 17 = some (18, .iload_n 3, 0, 0, 0, 0) := (fe29 17).trans rfl
theorem f29_18 : gm_fetch 29 18 = some (19, .iaload, 0, 0, 0, 0) := (fe29 18).trans rfl
theorem f29_19 : gm_fetch 29 19 = some (20, .aload_n 1, 0, 0, 0, 0) := (fe29 19).trans rfl
theorem f29_20 : gm_fetch 29 20 = some (23, .getfield 40, 26, 0, 6, 0) := (fe29 20).trans rfl
theorem f29_23 : gm_fetch 29 23 = some (24, .iload_n 3, 0, 0, 0, 0) := (fe29 23).trans rfl
theorem f29_24 : gm_fetch 29 24 = some (25, .iaload, 0, 0, 0, 0) := (fe29 24).trans rfl
theorem f29_25 : gm_fetch 29 25 = some (26, .iand, 0, 0, 0, 0) := (fe29 25).trans rfl
theorem f29_26 : gm_fetch 29 26 = some (29, .invokestatic 43, 100, 194, 0, 0) := (fe29 26).trans rfl
theorem f29_29 : gm_fetch 29 29 = some (30, .iadd, 0, 0, 0, 0) := (fe29 29).trans rfl
theorem f29_30 : gm_fetch 29 30 = some (31, .istore_n 2, 0, 0, 0, 0) := (fe29 30).trans rfl
theorem f29_31 : gm_fetch 29 31 = some (32, .iload_n 2, 0, 0, 0, 0) := (fe29 31).trans rfl
theorem f29_32 : gm_fetch 29 32 = some (33, .aload_n 0, 0, 0, 0, 0) := (fe29 32).trans rfl
theorem f29_33 : gm_fetch 29 33 = some (36, .getfield 9, 65, 2, 4, 0) := (fe29 33).trans rfl
theorem f29_36 : gm_fetch 29 36 = some (37, .iload_n 3, 0, 0, 0, 0) := (fe29 36).trans rfl
theorem f29_37 : gm_fetch 29 37 = some (38, .iaload, 0, 0, 0, 0) := (fe29 37).trans rfl
theorem f29_38 : gm_fetch 29 38 = some (39, .aload_n 1, 0, 0, 0, 0) := (fe29 38).trans rfl
theorem f29_39 : gm_fetch 29 39 = some (42, .invokestatic 49, 101, 30, 0, 0) := (fe29 39).trans rfl
theorem f29_42 : gm_fetch 29 42 = some (43, .iadd, 0, 0, 0, 0) := (fe29 42).trans rfl
theorem f29_43 : gm_fetch 29 43 = some (44, .istore_n 2, 0, 0, 0, 0) := (fe29 43).trans rfl
theorem f29_44 : gm_fetch 29 44 = some (45, .iload_n 3, 0, 0, 0, 0) := (fe29 44).trans rfl
theorem f29_45 : gm_fetch 29 45 = some (48, .ifCond .le 24, 0, 69, 0, 0) := (fe29 45).trans rfl
theorem f29_48 : gm_fetch 29 48 = some (49, .iload_n 2, 0, 0, 0, 0) := (fe29 48).trans rfl
theorem f29_49 : gm_fetch 29 49 = some (50, .aload_n 0, 0, 0, 0, 0) := (fe29 49).trans rfl
theorem f29_50 : gm_fetch 29 50 = some (53, .getfield 9, 65, 2, 4, 0) := (fe29 50).trans rfl
theorem f29_53 : gm_fetch 29 53 = some (54, .iload_n 3, 0, 0, 0, 0) := (fe29 53).trans rfl
theorem f29_54 : gm_fetch 29 54 = some (55, .iconst 1, 0, 0, 0, 0) := (fe29 54).trans rfl
theorem f29_55 : gm_fetch 29 55 = some (56, .isub, 0, 0, 0, 0) := (fe29 55).trans rfl
theorem f29_56 : gm_fetch 29 56 = some (57, .iaload, 0, 0, 0, 0) := (fe29 56).trans rfl
theorem f29_57 : gm_fetch 29 57 = some (58, .aload_n 0, 0, 0, 0, 0) := (fe29 57).trans rfl
theorem f29_58 : gm_fetch 29 58 = some (61, .getfield 9, 65, 2, 4, 0) := (fe29 58).trans rfl
theorem f29_61 : gm_fetch 29 61 = some (62, .iload_n 3, 0, 0, 0, 0) := (fe29 61).trans rfl
theorem f29_62 : gm_fetch 29 62 = some (63, .iaload, 0, 0, 0, 0) := (fe29 62).trans rfl
theorem f29_63 : gm_fetch 29 63 = some (64, .aload_n 1, 0, 0, 0, 0) := (fe29 63).trans rfl
theorem f29_64 : gm_fetch 29 64 = some (67, .invokestatic 53, 103, 31, 0, 0) := (fe29 64).trans rfl
theorem f29_67 : gm_fetch 29 67 = some (68, .iadd, 0, 0, 0, 0) := (fe29 67).trans rfl
theorem f29_68 : gm_fetch 29 68 = some (69, .istore_n 2, 0, 0, 0, 0) := (fe29 68).trans rfl
theorem f29_69 : gm_fetch 29 69 = some (72, .iinc 3 1, 0, 0, 0, 0) := (fe29 69).trans rfl
theorem f29_72 : gm_fetch 29 72 = some (75, .goto (-68), 0, 4, 0, 0) := (fe29 72).trans rfl
theorem f29_75 : gm_fetch 29 75 = some (76, .iload_n 2, 0, 0, 0, 0) := (fe29 75).trans rfl
theorem f29_76 : gm_fetch 29 76 = some (77, .ireturn, 0, 0, 0, 0) := (fe29 76).trans rfl
set_option maxRecDepth 10000 in
theorem rg29_0 {mi : Mi} {ml : Ml} {F : Int32 → Mi → Ml → Prop} {rx0 : Nat} (hrx0 : isY rx0) (h : Sg 29 4 [some (.ref rx0), some (.ref 1), some (.int 0), some (.int 0)] [] mi ml (qi F)) : Sg 29 0 [some (.ref rx0), some (.ref 1), none, none] [] mi ml (qi F) := by
  refine sg_psh f29_0 (v := .int 0) (by decide) ?_
  refine sg_st1 f29_1 (ls' := [some (.ref rx0), some (.ref 1), some (.int 0), none]) rfl rfl rfl rfl ?_
  refine sg_psh f29_2 (v := .int 0) (by decide) ?_
  refine sg_st1 f29_3 (ls' := [some (.ref rx0), some (.ref 1), some (.int 0), some (.int 0)]) rfl rfl rfl rfl ?_
  exact h

set_option maxRecDepth 10000 in
theorem rg29_4 {mi : Mi} {ml : Ml} {F : Int32 → Mi → Ml → Prop} {rx0 : Nat} {x2 : Int32} {x3 : Int32} (hrx0 : isY rx0) (h : (((mi 1 0) ≤ x3) → F x2 mi ml) ∧ (¬ ((mi 1 0) ≤ x3) → (vp_in x3 7) ∧ (Sg 194 0 [some (.int ((mi (rx0 + 1) (Int32.toNatClampNeg x3)) &&& (mi 2 (Int32.toNatClampNeg x3))))] [] mi ml (qi fun y2 mi3 ml4 => Sg 30 0 [some (.int (mi3 (rx0 + 1) (Int32.toNatClampNeg x3))), some (.ref 1), none, none] [] mi3 ml4 (qi fun y5 mi6 ml7 => ((x3 ≤ 0) → Sg 29 4 [some (.ref rx0), some (.ref 1), some (.int ((x2 + y2) + y5)), some (.int (x3 + 1))] [] mi6 ml7 (qi F)) ∧ (¬ (x3 ≤ 0) → (vp_in (x3 - 1) 7) ∧ (Sg 31 0 [some (.int (mi6 (rx0 + 1) (Int32.toNatClampNeg (x3 - 1)))), some (.int (mi6 (rx0 + 1) (Int32.toNatClampNeg x3))), some (.ref 1), none, none] [] mi6 ml7 (qi fun y9 mi10 ml11 => Sg 29 4 [some (.ref rx0), some (.ref 1), some (.int (((x2 + y2) + y5) + y9)), some (.int (x3 + 1))] [] mi10 ml11 (qi F))))))))) : Sg 29 4 [some (.ref rx0), some (.ref 1), some (.int x2), some (.int x3)] [] mi ml (qi F) := by
  refine sg_ld f29_4 (v := .int x3) rfl rfl ?_
  refine sg_ld f29_5 (v := .ref 1) rfl rfl ?_
  refine sg_geti f29_6 rfl rfl (x := (mi 1 0)) rfl ?_
  refine sg_icmp f29_9 (fun c => ?_) (fun c => ?_)
  · have h := h.1 c
    refine sg_ld f29_75 (v := .int x2) rfl rfl ?_
    exact sg_iret f29_76 pq29 rfl rfl ⟨_, rfl, h⟩
  · have h := h.2 c
    refine sg_ld f29_12 (v := .int x2) rfl rfl ?_
    refine sg_ld f29_13 (v := .ref rx0) rfl rfl ?_
    refine sg_getr f29_14 hrx0.1 rfl (w := rx0 + 1) hrx0.2.1 ?_
    refine sg_ld f29_17 (v := .int x3) rfl rfl ?_
    obtain ⟨e1, h⟩ := h
    refine sg_iald f29_18 hrx0.2.2 e1 (x := (mi (rx0 + 1) (Int32.toNatClampNeg x3))) rfl ?_
    refine sg_ld f29_19 (v := .ref 1) rfl rfl ?_
    refine sg_getr f29_20 rfl rfl (w := 2) rfl ?_
    refine sg_ld f29_23 (v := .int x3) rfl rfl ?_
    refine sg_iald f29_24 rfl e1 (x := (mi 2 (Int32.toNatClampNeg x3))) rfl ?_
    refine sg_bin f29_25 rfl ?_
    refine sg_cS f29_26 (vs := [.int ((mi (rx0 + 1) (Int32.toNatClampNeg x3)) &&& (mi 2 (Int32.toNatClampNeg x3)))]) (rest := [.int x2]) (en := [some (.int ((mi (rx0 + 1) (Int32.toNatClampNeg x3)) &&& (mi 2 (Int32.toNatClampNeg x3))))]) (by decide) pq194 ⟨rfl, rfl⟩ rfl rfl rfl rfl rfl h ?_
    rintro _ mi3 ml4 ⟨y2, rfl, h⟩
    refine sg_bin f29_29 rfl ?_
    refine sg_st1 f29_30 (ls' := [some (.ref rx0), some (.ref 1), some (.int (x2 + y2)), some (.int x3)]) rfl rfl rfl rfl ?_
    refine sg_ld f29_31 (v := .int (x2 + y2)) rfl rfl ?_
    refine sg_ld f29_32 (v := .ref rx0) rfl rfl ?_
    refine sg_getr f29_33 hrx0.1 rfl (w := rx0 + 1) hrx0.2.1 ?_
    refine sg_ld f29_36 (v := .int x3) rfl rfl ?_
    refine sg_iald f29_37 hrx0.2.2 e1 (x := (mi3 (rx0 + 1) (Int32.toNatClampNeg x3))) rfl ?_
    refine sg_ld f29_38 (v := .ref 1) rfl rfl ?_
    refine sg_cS f29_39 (vs := [.int (mi3 (rx0 + 1) (Int32.toNatClampNeg x3)), .ref 1]) (rest := [.int (x2 + y2)]) (en := [some (.int (mi3 (rx0 + 1) (Int32.toNatClampNeg x3))), some (.ref 1), none, none]) (by decide) pq30 ⟨rfl, rfl⟩ rfl rfl rfl rfl rfl h ?_
    rintro _ mi6 ml7 ⟨y5, rfl, h⟩
    refine sg_bin f29_42 rfl ?_
    refine sg_st1 f29_43 (ls' := [some (.ref rx0), some (.ref 1), some (.int ((x2 + y2) + y5)), some (.int x3)]) rfl rfl rfl rfl ?_
    refine sg_ld f29_44 (v := .int x3) rfl rfl ?_
    refine sg_if f29_45 (fun c => ?_) (fun c => ?_)
    · have h := h.1 c
      refine sg_inc f29_69 (d := 1) (ls' := [some (.ref rx0), some (.ref 1), some (.int ((x2 + y2) + y5)), some (.int (x3 + 1))]) rfl (by decide) rfl ?_
      refine sg_goto f29_72 ?_
      exact h
    · have h := h.2 c
      refine sg_ld f29_48 (v := .int ((x2 + y2) + y5)) rfl rfl ?_
      refine sg_ld f29_49 (v := .ref rx0) rfl rfl ?_
      refine sg_getr f29_50 hrx0.1 rfl (w := rx0 + 1) hrx0.2.1 ?_
      refine sg_ld f29_53 (v := .int x3) rfl rfl ?_
      refine sg_psh f29_54 (v := .int 1) (by decide) ?_
      refine sg_bin f29_55 rfl ?_
      obtain ⟨e8, h⟩ := h
      refine sg_iald f29_56 hrx0.2.2 e8 (x := (mi6 (rx0 + 1) (Int32.toNatClampNeg (x3 - 1)))) rfl ?_
      refine sg_ld f29_57 (v := .ref rx0) rfl rfl ?_
      refine sg_getr f29_58 hrx0.1 rfl (w := rx0 + 1) hrx0.2.1 ?_
      refine sg_ld f29_61 (v := .int x3) rfl rfl ?_
      refine sg_iald f29_62 hrx0.2.2 e1 (x := (mi6 (rx0 + 1) (Int32.toNatClampNeg x3))) rfl ?_
      refine sg_ld f29_63 (v := .ref 1) rfl rfl ?_
      refine sg_cS f29_64 (vs := [.int (mi6 (rx0 + 1) (Int32.toNatClampNeg (x3 - 1))), .int (mi6 (rx0 + 1) (Int32.toNatClampNeg x3)), .ref 1]) (rest := [.int ((x2 + y2) + y5)]) (en := [some (.int (mi6 (rx0 + 1) (Int32.toNatClampNeg (x3 - 1)))), some (.int (mi6 (rx0 + 1) (Int32.toNatClampNeg x3))), some (.ref 1), none, none]) (by decide) pq31 ⟨rfl, rfl⟩ rfl rfl rfl rfl rfl h ?_
      rintro _ mi10 ml11 ⟨y9, rfl, h⟩
      refine sg_bin f29_67 rfl ?_
      refine sg_st1 f29_68 (ls' := [some (.ref rx0), some (.ref 1), some (.int (((x2 + y2) + y5) + y9)), some (.int x3)]) rfl rfl rfl rfl ?_
      refine sg_inc f29_69 (d := 1) (ls' := [some (.ref rx0), some (.ref 1), some (.int (((x2 + y2) + y5) + y9)), some (.int (x3 + 1))]) rfl (by decide) rfl ?_
      refine sg_goto f29_72 ?_
      exact h

/-! X2_wideGaps (ILGridMender$Board;)I -/
theorem fe30 (pc : Nat) : gm_fetch 30 pc = gm_find pc cd_30 := rfl
theorem f30_0 : gm_fetch 30 0 = some (1, .iconst 0, 0, 0, 0, 0) := (fe30 0).trans rfl
theorem f30_1 : gm_fetch 30 1 = some (2, .istore_n 2, 0, 0, 0, 0) := (fe30 1).trans rfl
theorem f30_2 : gm_fetch 30 2 = some (3, .iconst 1, 0, 0, 0, 0) := (fe30 2).trans rfl
theorem f30_3 : gm_fetch 30 3 = some (4, .istore_n 3, 0, 0, 0, 0) := (fe30 3).trans rfl
theorem f30_4 : gm_fetch 30 4 = some (5, .iload_n 3, 0, 0, 0, 0) := (fe30 4).trans rfl
theorem f30_5 : gm_fetch 30 5 = some (6, .aload_n 1, 0, 0, 0, 0) := (fe30 5).trans rfl
theorem f30_6 : gm_fetch 30 6 = some (9, .getfield 39, 13, 0, 2, 0) := (fe30 6).trans rfl
theorem f30_9 : gm_fetch 30 9 = some (12, .if_icmp .ge 34, 0, 43, 0, 0) := (fe30 9).trans rfl
theorem f30_12 : gm_fetch 30 12 = some (13, .iload_n 0, 0, 0, 0, 0) := (fe30 12).trans rfl
theorem f30_13 : gm_fetch 30 13 = some (14, .iload_n 3, 0, 0, 0, 0) := (fe30 13).trans rfl
theorem f30_14 : gm_fetch 30 14 = some (17, .invokestatic 57, 102, 110, 1, 0) := (fe30 14).trans rfl
theorem f30_17 : gm_fetch 30 17 = some (18, .iload_n 0, 0, 0, 0, 0) := (fe30 17).trans rfl
theorem f30_18 : gm_fetch 30 18 = some (19, .iload_n 3, 0, 0, 0, 0) := (fe30 18).trans rfl
theorem f30_19 : gm_fetch 30 19 = some (20, .iconst 1, 0, 0, 0, 0) := (fe30 19).trans rfl
theorem f30_20 : gm_fetch 30 20 = some (21, .isub, 0, 0, 0, 0) := (fe30 20).trans rfl
theorem f30_21 : gm_fetch 30 21 = some (24, .invokestatic 57, 102, 110, 1, 0) := (fe30 21).trans rfl
theorem f30_24 : gm_fetch 30 24 = some (25, .isub, 0, 0, 0, 0) := (fe30 24).trans rfl
theorem f30_25 : gm_fetch 30 25 = some (26, .iconst 1, 0, 0, 0, 0) := (fe30 25).trans rfl
theorem f30_26 : gm_fetch 30 26 = some (27, .isub, 0, 0, 0, 0) := (fe30 26).trans rfl
theorem f30_27 : gm_fetch 30 27 = some (28, .aload_n 1, 0, 0, 0, 0) := (fe30 27).trans rfl
theorem f30_28 : gm_fetch 30 28 = some (31, .getfield 61, 17, 0, 3, 0) := (fe30 28).trans rfl
theorem f30_31 : gm_fetch 30 31 = some (34, .if_icmp .le 6, 0, 37, 0, 0) := (fe30 31).trans rfl
theorem f30_34 : gm_fetch 30 34 = some (37, .iinc 2 1, 0, 0, 0, 0) := (fe30 34).trans rfl
theorem f30_37 : gm_fetch 30 37 = some (40, .iinc 3 1, 0, 0, 0, 0) := (fe30 37).trans rfl
theorem f30_40 : gm_fetch 30 40 = some (43, .goto (-36), 0, 4, 0, 0) := (fe30 40).trans rfl
theorem f30_43 : gm_fetch 30 43 = some (44, .iload_n 2, 0, 0, 0, 0) := (fe30 43).trans rfl
theorem f30_44 : gm_fetch 30 44 = some (45, .ireturn, 0, 0, 0, 0) := (fe30 44).trans rfl
set_option maxRecDepth 10000 in
theorem rg30_0 {mi : Mi} {ml : Ml} {F : Int32 → Mi → Ml → Prop} {x0 : Int32}  (h : Sg 30 4 [some (.int x0), some (.ref 1), some (.int 0), some (.int 1)] [] mi ml (qi F)) : Sg 30 0 [some (.int x0), some (.ref 1), none, none] [] mi ml (qi F) := by
  refine sg_psh f30_0 (v := .int 0) (by decide) ?_
  refine sg_st1 f30_1 (ls' := [some (.int x0), some (.ref 1), some (.int 0), none]) rfl rfl rfl rfl ?_
  refine sg_psh f30_2 (v := .int 1) (by decide) ?_
  refine sg_st1 f30_3 (ls' := [some (.int x0), some (.ref 1), some (.int 0), some (.int 1)]) rfl rfl rfl rfl ?_
  exact h

set_option maxRecDepth 10000 in
theorem rg30_4 {mi : Mi} {ml : Ml} {F : Int32 → Mi → Ml → Prop} {x0 : Int32} {x2 : Int32} {x3 : Int32}  (h : (((mi 1 2) ≤ x3) → F x2 mi ml) ∧ (¬ ((mi 1 2) ≤ x3) → Sg 110 0 [some (.int x0), some (.int x3), none, none] [] mi ml (qi fun y1 mi2 ml3 => Sg 110 0 [some (.int x0), some (.int (x3 - 1)), none, none] [] mi2 ml3 (qi fun y4 mi5 ml6 => ((((y1 - y4) - 1) ≤ (mi5 1 3)) → Sg 30 4 [some (.int x0), some (.ref 1), some (.int x2), some (.int (x3 + 1))] [] mi5 ml6 (qi F)) ∧ (¬ (((y1 - y4) - 1) ≤ (mi5 1 3)) → Sg 30 4 [some (.int x0), some (.ref 1), some (.int (x2 + 1)), some (.int (x3 + 1))] [] mi5 ml6 (qi F)))))) : Sg 30 4 [some (.int x0), some (.ref 1), some (.int x2), some (.int x3)] [] mi ml (qi F) := by
  refine sg_ld f30_4 (v := .int x3) rfl rfl ?_
  refine sg_ld f30_5 (v := .ref 1) rfl rfl ?_
  refine sg_geti f30_6 rfl rfl (x := (mi 1 2)) rfl ?_
  refine sg_icmp f30_9 (fun c => ?_) (fun c => ?_)
  · have h := h.1 c
    refine sg_ld f30_43 (v := .int x2) rfl rfl ?_
    exact sg_iret f30_44 pq30 rfl rfl ⟨_, rfl, h⟩
  · have h := h.2 c
    refine sg_ld f30_12 (v := .int x0) rfl rfl ?_
    refine sg_ld f30_13 (v := .int x3) rfl rfl ?_
    refine sg_cS f30_14 (vs := [.int x0, .int x3]) (rest := []) (en := [some (.int x0), some (.int x3), none, none]) (by decide) pq110 ⟨rfl, rfl⟩ rfl rfl rfl rfl rfl h ?_
    rintro _ mi2 ml3 ⟨y1, rfl, h⟩
    refine sg_ld f30_17 (v := .int x0) rfl rfl ?_
    refine sg_ld f30_18 (v := .int x3) rfl rfl ?_
    refine sg_psh f30_19 (v := .int 1) (by decide) ?_
    refine sg_bin f30_20 rfl ?_
    refine sg_cS f30_21 (vs := [.int x0, .int (x3 - 1)]) (rest := [.int y1]) (en := [some (.int x0), some (.int (x3 - 1)), none, none]) (by decide) pq110 ⟨rfl, rfl⟩ rfl rfl rfl rfl rfl h ?_
    rintro _ mi5 ml6 ⟨y4, rfl, h⟩
    refine sg_bin f30_24 rfl ?_
    refine sg_psh f30_25 (v := .int 1) (by decide) ?_
    refine sg_bin f30_26 rfl ?_
    refine sg_ld f30_27 (v := .ref 1) rfl rfl ?_
    refine sg_geti f30_28 rfl rfl (x := (mi5 1 3)) rfl ?_
    refine sg_icmp f30_31 (fun c => ?_) (fun c => ?_)
    · have h := h.1 c
      refine sg_inc f30_37 (d := 1) (ls' := [some (.int x0), some (.ref 1), some (.int x2), some (.int (x3 + 1))]) rfl (by decide) rfl ?_
      refine sg_goto f30_40 ?_
      exact h
    · have h := h.2 c
      refine sg_inc f30_34 (d := 1) (ls' := [some (.int x0), some (.ref 1), some (.int (x2 + 1)), some (.int x3)]) rfl (by decide) rfl ?_
      refine sg_inc f30_37 (d := 1) (ls' := [some (.int x0), some (.ref 1), some (.int (x2 + 1)), some (.int (x3 + 1))]) rfl (by decide) rfl ?_
      refine sg_goto f30_40 ?_
      exact h

/-! X2_farTasks (IILGridMender$Board;)I -/
theorem fe31 (pc : Nat) : gm_fetch 31 pc = gm_find pc cd_31 := rfl
theorem f31_0 : gm_fetch 31 0 = some (1, .iconst 0, 0, 0, 0, 0) := (fe31 0).trans rfl
theorem f31_1 : gm_fetch 31 1 = some (2, .istore_n 3, 0, 0, 0, 0) := (fe31 1).trans rfl
theorem f31_2 : gm_fetch 31 2 = some (3, .iconst 0, 0, 0, 0, 0) := (fe31 2).trans rfl
theorem f31_3 : gm_fetch 31 3 = some (5, .istore 4, 0, 0, 0, 0) := (fe31 3).trans rfl
theorem f31_5 : gm_fetch 31 5 = some (7, .iload 4, 0, 0, 0, 0) := (fe31 5).trans rfl
theorem f31_7 : gm_fetch 31 7 = some (8, .aload_n 2, 0, 0, 0, 0) := (fe31 7).trans rfl
theorem f31_8 : gm_fetch 31 8 = some (11, .getfield 39, 13, 0, 2, 0) := (fe31 8).trans rfl
theorem f31_11 : gm_fetch 31 11 = some (14, .if_icmp .ge 35, 0, 46, 0, 0) := (fe31 11).trans rfl
theorem f31_14 : gm_fetch 31 14 = some (15, .iload_n 0, 0, 0, 0, 0) := (fe31 14).trans rfl
theorem f31_15 : gm_fetch 31 15 = some (17, .iload 4, 0, 0, 0, 0) := (fe31 15).trans rfl
theorem f31_17 : gm_fetch 31 17 = some (20, .invokestatic 57, 102, 110, 1, 0) := (fe31 17).trans rfl
theorem f31_20 : gm_fetch 31 20 = some (21, .iload_n 1, 0, 0, 0, 0) := (fe31 20).trans rfl
theorem f31_21 : gm_fetch 31 21 = some (23, .iload 4, 0, 0, 0, 0) := (fe31 21).trans rfl
theorem f31_23 : gm_fetch 31 23 = some (26, .invokestatic 57, 102, 110, 1, 0) := (fe31 23).trans rfl
theorem f31_26 : gm_fetch 31 26 = some (27, .isub, 0, 0, 0, 0) := (fe31 26).trans rfl
theorem f31_27 : gm_fetch 31 27 = some (30, .invokestatic 64, 104, 196, 5, 0) := (fe31 27).trans rfl
theorem f31_30 : gm_fetch 31 30 = some (31, .aload_n 2, 0, 0, 0, 0) := (fe31 30).trans rfl
theorem f31_31 : gm_fetch 31 31 = some (34, .getfield 61, 17, 0, 3, 0) := (fe31 31).trans rfl
theorem f31_34 : gm_fetch 31 34 = some (37, .if_icmp .le 6, 0, 40, 0, 0) := (fe31 34).trans rfl
theorem f31_37 : gm_fetch 31 37 = some (40, .iinc 3 1, 0, 0, 0, 0) := (fe31 37).trans rfl
theorem f31_40 : gm_fetch 31 40 = some (43, .iinc 4 1, 0, 0, 0, 0) := (fe31 40).trans rfl
theorem f31_43 : gm_fetch 31 43 = some (46, .goto (-38), 0, 5, 0, 0) := (fe31 43).trans rfl
theorem f31_46 : gm_fetch 31 46 = some (47, .iload_n 3, 0, 0, 0, 0) := (fe31 46).trans rfl
theorem f31_47 : gm_fetch 31 47 = some (48, .ireturn, 0, 0, 0, 0) := (fe31 47).trans rfl
set_option maxRecDepth 10000 in
theorem rg31_0 {mi : Mi} {ml : Ml} {F : Int32 → Mi → Ml → Prop} {x0 : Int32} {x1 : Int32}  (h : Sg 31 5 [some (.int x0), some (.int x1), some (.ref 1), some (.int 0), some (.int 0)] [] mi ml (qi F)) : Sg 31 0 [some (.int x0), some (.int x1), some (.ref 1), none, none] [] mi ml (qi F) := by
  refine sg_psh f31_0 (v := .int 0) (by decide) ?_
  refine sg_st1 f31_1 (ls' := [some (.int x0), some (.int x1), some (.ref 1), some (.int 0), none]) rfl rfl rfl rfl ?_
  refine sg_psh f31_2 (v := .int 0) (by decide) ?_
  refine sg_st1 f31_3 (ls' := [some (.int x0), some (.int x1), some (.ref 1), some (.int 0), some (.int 0)]) rfl rfl rfl rfl ?_
  exact h

set_option maxRecDepth 10000 in
theorem rg31_5 {mi : Mi} {ml : Ml} {F : Int32 → Mi → Ml → Prop} {x0 : Int32} {x1 : Int32} {x3 : Int32} {x4 : Int32}  (h : (((mi 1 2) ≤ x4) → F x3 mi ml) ∧ (¬ ((mi 1 2) ≤ x4) → Sg 110 0 [some (.int x0), some (.int x4), none, none] [] mi ml (qi fun y1 mi2 ml3 => Sg 110 0 [some (.int x1), some (.int x4), none, none] [] mi2 ml3 (qi fun y4 mi5 ml6 => (((if 0 ≤ (y1 - y4) then (y1 - y4) else 0 - (y1 - y4)) ≤ (mi5 1 3)) → Sg 31 5 [some (.int x0), some (.int x1), some (.ref 1), some (.int x3), some (.int (x4 + 1))] [] mi5 ml6 (qi F)) ∧ (¬ ((if 0 ≤ (y1 - y4) then (y1 - y4) else 0 - (y1 - y4)) ≤ (mi5 1 3)) → Sg 31 5 [some (.int x0), some (.int x1), some (.ref 1), some (.int (x3 + 1)), some (.int (x4 + 1))] [] mi5 ml6 (qi F)))))) : Sg 31 5 [some (.int x0), some (.int x1), some (.ref 1), some (.int x3), some (.int x4)] [] mi ml (qi F) := by
  refine sg_ld f31_5 (v := .int x4) rfl rfl ?_
  refine sg_ld f31_7 (v := .ref 1) rfl rfl ?_
  refine sg_geti f31_8 rfl rfl (x := (mi 1 2)) rfl ?_
  refine sg_icmp f31_11 (fun c => ?_) (fun c => ?_)
  · have h := h.1 c
    refine sg_ld f31_46 (v := .int x3) rfl rfl ?_
    exact sg_iret f31_47 pq31 rfl rfl ⟨_, rfl, h⟩
  · have h := h.2 c
    refine sg_ld f31_14 (v := .int x0) rfl rfl ?_
    refine sg_ld f31_15 (v := .int x4) rfl rfl ?_
    refine sg_cS f31_17 (vs := [.int x0, .int x4]) (rest := []) (en := [some (.int x0), some (.int x4), none, none]) (by decide) pq110 ⟨rfl, rfl⟩ rfl rfl rfl rfl rfl h ?_
    rintro _ mi2 ml3 ⟨y1, rfl, h⟩
    refine sg_ld f31_20 (v := .int x1) rfl rfl ?_
    refine sg_ld f31_21 (v := .int x4) rfl rfl ?_
    refine sg_cS f31_23 (vs := [.int x1, .int x4]) (rest := [.int y1]) (en := [some (.int x1), some (.int x4), none, none]) (by decide) pq110 ⟨rfl, rfl⟩ rfl rfl rfl rfl rfl h ?_
    rintro _ mi5 ml6 ⟨y4, rfl, h⟩
    refine sg_bin f31_26 rfl ?_
    refine sg_mabs f31_27 rfl ?_
    refine sg_ld f31_30 (v := .ref 1) rfl rfl ?_
    refine sg_geti f31_31 rfl rfl (x := (mi5 1 3)) rfl ?_
    refine sg_icmp f31_34 (fun c => ?_) (fun c => ?_)
    · have h := h.1 c
      refine sg_inc f31_40 (d := 1) (ls' := [some (.int x0), some (.int x1), some (.ref 1), some (.int x3), some (.int (x4 + 1))]) rfl (by decide) rfl ?_
      refine sg_goto f31_43 ?_
      exact h
    · have h := h.2 c
      refine sg_inc f31_37 (d := 1) (ls' := [some (.int x0), some (.int x1), some (.ref 1), some (.int (x3 + 1)), some (.int x4)]) rfl (by decide) rfl ?_
      refine sg_inc f31_40 (d := 1) (ls' := [some (.int x0), some (.int x1), some (.ref 1), some (.int (x3 + 1)), some (.int (x4 + 1))]) rfl (by decide) rfl ?_
      refine sg_goto f31_43 ?_
      exact h

/-! X5_begin (II)V -/
theorem fe66 (pc : Nat) : gm_fetch 66 pc = gm_find pc cd_66 := rfl
theorem f66_0 : gm_fetch 66 0 = some (1, .aload_n 0, 0, 0, 0, 0) := (fe66 0).trans rfl
theorem f66_1 : gm_fetch 66 1 = some (2, .iconst 0, 0, 0, 0, 0) := (fe66 1).trans rfl
theorem f66_2 : gm_fetch 66 2 = some (5, .putfield 9, 68, 5, 0, 0) := (fe66 2).trans rfl
theorem f66_5 : gm_fetch 66 5 = some (6, .aload_n 0, 0, 0, 0, 0) := (fe66 5).trans rfl
theorem f66_6 : gm_fetch 66 6 = some (7, .iload_n 1, 0, 0, 0, 0) := (fe66 6).trans rfl
theorem f66_7 : gm_fetch 66 7 = some (10, .putfield 19, 70, 5, 1, 0) := (fe66 7).trans rfl
theorem f66_10 : gm_fetch 66 10 = some (11, .aload_n 0, 0, 0, 0, 0) := (fe66 10).trans rfl
theorem f66_11 : gm_fetch 66 11 = some (12, .iload_n 2, 0, 0, 0, 0) := (fe66 11).trans rfl
theorem f66_12 : gm_fetch 66 12 = some (15, .putfield 23, 72, 5, 2, 0) := (fe66 12).trans rfl
theorem f66_15 : gm_fetch 66 15 = some (16, .aload_n 0, 0, 0, 0, 0) := (fe66 15).trans rfl
theorem f66_16 : gm_fetch 66 16 = some (19, .getfield 15, 74, 5, 3, 0) := (fe66 16).trans rfl
theorem f66_19 : gm_fetch 66 19 = some (20, .iconst 0, 0, 0, 0, 0) := (fe66 19).trans rfl
theorem f66_20 : gm_fetch 66 20 = some (23, .invokestatic 26, 129, 198, 0, 0) := (fe66 20).trans rfl
theorem f66_23 : gm_fetch 66 23 = some (24, .return_, 0, 0, 0, 0) := (fe66 23).trans rfl
set_option maxRecDepth 10000 in
theorem rg66_0 {mi : Mi} {ml : Ml} {F : Mi → Ml → Prop} {rx0 : Nat} {x1 : Int32} {x2 : Int32} (hrx0 : isS rx0) (h : Sg 198 0 [some (.ref (rx0 + 1)), some (.int 0), none, none] [] (va_up mi rx0 (va_up (va_up (va_up (mi rx0) 0 0) 1 x1) 2 x2)) ml (qv fun mi2 ml3 => F mi2 ml3)) : Sg 66 0 [some (.ref rx0), some (.int x1), some (.int x2)] [] mi ml (qv F) := by
  refine sg_ld f66_0 (v := .ref rx0) rfl rfl ?_
  refine sg_psh f66_1 (v := .int 0) (by decide) ?_
  refine sg_puti f66_2 hrx0.1 rfl rfl (fun _ => by decide) ?_
  refine sg_ld f66_5 (v := .ref rx0) rfl rfl ?_
  refine sg_ld f66_6 (v := .int x1) rfl rfl ?_
  refine sg_puti2 f66_7 hrx0.1 rfl rfl (fun hz => by cases hz) ?_
  refine sg_ld f66_10 (v := .ref rx0) rfl rfl ?_
  refine sg_ld f66_11 (v := .int x2) rfl rfl ?_
  refine sg_puti2 f66_12 hrx0.1 rfl rfl (fun hz => by cases hz) ?_
  refine sg_ld f66_15 (v := .ref rx0) rfl rfl ?_
  refine sg_getr f66_16 hrx0.1 rfl (w := rx0 + 1) hrx0.2.1 ?_
  refine sg_psh f66_19 (v := .int 0) (by decide) ?_
  refine sg_cS f66_20 (vs := [.ref (rx0 + 1), .int 0]) (rest := []) (en := [some (.ref (rx0 + 1)), some (.int 0), none, none]) (by decide) pq198 ⟨rfl, rfl⟩ rfl rfl rfl rfl rfl h ?_
  intro _ mi2 ml3 h
  have h := gm_qv h
  exact sg_ret f66_23 pq66 rfl h

/-! X5_findingAt (II)I -/
theorem fe67 (pc : Nat) : gm_fetch 67 pc = gm_find pc cd_67 := rfl
theorem f67_0 : gm_fetch 67 0 = some (1, .aload_n 0, 0, 0, 0, 0) := (fe67 0).trans rfl
theorem f67_1 : gm_fetch 67 1 = some (4, .getfield 9, 68, 5, 0, 0) := (fe67 1).trans rfl
theorem f67_4 : gm_fetch 67 4 = some (7, .ifCond .eq 5, 0, 9, 0, 0) := (fe67 4).trans rfl
theorem f67_7 : gm_fetch 67 7 = some (8, .iconst 1, 0, 0, 0, 0) := (fe67 7).trans rfl
theorem f67_8 : gm_fetch 67 8 = some (9, .ireturn, 0, 0, 0, 0) := (fe67 8).trans rfl
theorem f67_9 : gm_fetch 67 9 = some (10, .aload_n 0, 0, 0, 0, 0) := (fe67 9).trans rfl
theorem f67_10 : gm_fetch 67 10 = some (13, .getfield 19, 70, 5, 1, 0) := (fe67 10).trans rfl
theorem f67_13 : gm_fetch 67 13 = some (14, .iload_n 1, 0, 0, 0, 0) := (fe67 13).trans rfl
theorem f67_14 : gm_fetch 67 14 = some (17, .if_icmp .eq 5, 0, 19, 0, 0) := (fe67 14).trans rfl
theorem f67_17 : gm_fetch 67 17 = some (18, .iconst 3, 0, 0, 0, 0) := (fe67 17).trans rfl
theorem f67_18 : gm_fetch 67 18 = some (19, .ireturn, 0, 0, 0, 0) := (fe67 18).trans rfl
theorem f67_19 : gm_fetch 67 19 = some (20, .iload_n 2, 0, 0, 0, 0) := (fe67 19).trans rfl
theorem f67_20 : gm_fetch 67 20 = some (23, .ifCond .lt 11, 0, 31, 0, 0) := (fe67 20).trans rfl
theorem f67_23 : gm_fetch 67 23 = some (24, .iload_n 2, 0, 0, 0, 0) := (fe67 23).trans rfl
theorem f67_24 : gm_fetch 67 24 = some (25, .aload_n 0, 0, 0, 0, 0) := (fe67 24).trans rfl
theorem f67_25 : gm_fetch 67 25 = some (28, .getfield 23, 72, 5, 2, 0) := (fe67 25).trans rfl
theorem f67_28 : gm_fetch 67 28 = some (31, .if_icmp .lt 7, 0, 35, 0, 0) := (fe67 28).trans rfl
theorem f67_31 : gm_fetch 67 31 = some (32, .iconst 2, 0, 0, 0, 0) := (fe67 31).trans rfl
theorem f67_32 : gm_fetch 67 32 = some (35, .goto 4, 0, 36, 0, 0) := (fe67 32).trans rfl
theorem f67_35 : gm_fetch 67 35 = some (36, .iconst 0, 0, 0, 0, 0) := (fe67 35).trans rfl
theorem f67_36 : gm_fetch 67 36 = some (37, .ireturn, 0, 0, 0, 0) := (fe67 36).trans rfl
set_option maxRecDepth 10000 in
theorem rg67_0 {mi : Mi} {ml : Ml} {F : Int32 → Mi → Ml → Prop} {rx0 : Nat} {x1 : Int32} {x2 : Int32} (hrx0 : isS rx0) (h : (((mi rx0 0) = 0) → (((mi rx0 1) = x1) → ((x2 < 0) → F 2 mi ml) ∧ (¬ (x2 < 0) → ((x2 < (mi rx0 2)) → F 0 mi ml) ∧ (¬ (x2 < (mi rx0 2)) → F 2 mi ml))) ∧ (¬ ((mi rx0 1) = x1) → F 3 mi ml)) ∧ (¬ ((mi rx0 0) = 0) → F 1 mi ml)) : Sg 67 0 [some (.ref rx0), some (.int x1), some (.int x2)] [] mi ml (qi F) := by
  refine sg_ld f67_0 (v := .ref rx0) rfl rfl ?_
  refine sg_geti f67_1 hrx0.1 rfl (x := (mi rx0 0)) rfl ?_
  refine sg_if f67_4 (fun c => ?_) (fun c => ?_)
  · have h := h.1 c
    refine sg_ld f67_9 (v := .ref rx0) rfl rfl ?_
    refine sg_geti f67_10 hrx0.1 rfl (x := (mi rx0 1)) rfl ?_
    refine sg_ld f67_13 (v := .int x1) rfl rfl ?_
    refine sg_icmp f67_14 (fun c => ?_) (fun c => ?_)
    · have h := h.1 c
      refine sg_ld f67_19 (v := .int x2) rfl rfl ?_
      refine sg_if f67_20 (fun c => ?_) (fun c => ?_)
      · have h := h.1 c
        refine sg_psh f67_31 (v := .int 2) (by decide) ?_
        refine sg_goto f67_32 ?_
        exact sg_iret f67_36 pq67 rfl rfl ⟨_, rfl, h⟩
      · have h := h.2 c
        refine sg_ld f67_23 (v := .int x2) rfl rfl ?_
        refine sg_ld f67_24 (v := .ref rx0) rfl rfl ?_
        refine sg_geti f67_25 hrx0.1 rfl (x := (mi rx0 2)) rfl ?_
        refine sg_icmp f67_28 (fun c => ?_) (fun c => ?_)
        · have h := h.1 c
          refine sg_psh f67_35 (v := .int 0) (by decide) ?_
          exact sg_iret f67_36 pq67 rfl rfl ⟨_, rfl, h⟩
        · have h := h.2 c
          refine sg_psh f67_31 (v := .int 2) (by decide) ?_
          refine sg_goto f67_32 ?_
          exact sg_iret f67_36 pq67 rfl rfl ⟨_, rfl, h⟩
    · have h := h.2 c
      refine sg_psh f67_17 (v := .int 3) (by decide) ?_
      exact sg_iret f67_18 pq67 rfl rfl ⟨_, rfl, h⟩
  · have h := h.2 c
    refine sg_psh f67_7 (v := .int 1) (by decide) ?_
    exact sg_iret f67_8 pq67 rfl rfl ⟨_, rfl, h⟩

/-! X5_hasItems (II)Z -/
theorem fe68 (pc : Nat) : gm_fetch 68 pc = gm_find pc cd_68 := rfl
theorem f68_0 : gm_fetch 68 0 = some (1, .iload_n 1, 0, 0, 0, 0) := (fe68 0).trans rfl
theorem f68_1 : gm_fetch 68 1 = some (4, .ifCond .lt 29, 0, 30, 0, 0) := (fe68 1).trans rfl
theorem f68_4 : gm_fetch 68 4 = some (5, .iload_n 2, 0, 0, 0, 0) := (fe68 4).trans rfl
theorem f68_5 : gm_fetch 68 5 = some (8, .ifCond .lt 25, 0, 30, 0, 0) := (fe68 5).trans rfl
theorem f68_8 : gm_fetch 68 8 = some (9, .iload_n 1, 0, 0, 0, 0) := (fe68 8).trans rfl
theorem f68_9 : gm_fetch 68 9 = some (10, .aload_n 0, 0, 0, 0, 0) := (fe68 9).trans rfl
theorem f68_10 : gm_fetch 68 10 = some (13, .getfield 23, 72, 5, 2, 0) := (fe68 10).trans rfl
theorem f68_13 : gm_fetch 68 13 = some (16, .if_icmp .gt 17, 0, 30, 0, 0) := (fe68 13).trans rfl
theorem f68_16 : gm_fetch 68 16 = some (17, .iload_n 2, 0, 0, 0, 0) := (fe68 16).trans rfl
theorem f68_17 : gm_fetch 68 17 = some (18, .aload_n 0, 0, 0, 0, 0) := (fe68 17).trans rfl
theorem f68_18 : gm_fetch 68 18 = some (21, .getfield 23, 72, 5, 2, 0) := (fe68 18).trans rfl
theorem f68_21 : gm_fetch 68 21 = some (22, .iload_n 1, 0, 0, 0, 0) := (fe68 21).trans rfl
theorem f68_22 : gm_fetch 68 22 = some (23, .isub, 0, 0, 0, 0) := (fe68 22).trans rfl
theorem f68_23 : gm_fetch 68 23 = some (26, .if_icmp .gt 7, 0, 30, 0, 0) := (fe68 23).trans rfl
theorem f68_26 : gm_fetch 68 26 = some (27, .iconst 1, 0, 0, 0, 0) := (fe68 26).trans rfl
theorem f68_27 : gm_fetch 68 27 = some (30, .goto 4, 0, 31, 0, 0) := (fe68 27).trans rfl
theorem f68_30 : gm_fetch 68 30 = some (31, .iconst 0, 0, 0, 0, 0) := (fe68 30).trans rfl
theorem f68_31 : gm_fetch 68 31 = some (32, .ireturn, 0, 0, 0, 0) := (fe68 31).trans rfl
set_option maxRecDepth 10000 in
theorem rg68_0 {mi : Mi} {ml : Ml} {F : Int32 → Mi → Ml → Prop} {rx0 : Nat} {x1 : Int32} {x2 : Int32} (hrx0 : isS rx0) (h : ((x1 < 0) → F 0 mi ml) ∧ (¬ (x1 < 0) → ((x2 < 0) → F 0 mi ml) ∧ (¬ (x2 < 0) → (((mi rx0 2) < x1) → F 0 mi ml) ∧ (¬ ((mi rx0 2) < x1) → ((((mi rx0 2) - x1) < x2) → F 0 mi ml) ∧ (¬ (((mi rx0 2) - x1) < x2) → F 1 mi ml))))) : Sg 68 0 [some (.ref rx0), some (.int x1), some (.int x2)] [] mi ml (qi F) := by
  refine sg_ld f68_0 (v := .int x1) rfl rfl ?_
  refine sg_if f68_1 (fun c => ?_) (fun c => ?_)
  · have h := h.1 c
    refine sg_psh f68_30 (v := .int 0) (by decide) ?_
    exact sg_iret f68_31 pq68 rfl (by decide) ⟨_, rfl, h⟩
  · have h := h.2 c
    refine sg_ld f68_4 (v := .int x2) rfl rfl ?_
    refine sg_if f68_5 (fun c => ?_) (fun c => ?_)
    · have h := h.1 c
      refine sg_psh f68_30 (v := .int 0) (by decide) ?_
      exact sg_iret f68_31 pq68 rfl (by decide) ⟨_, rfl, h⟩
    · have h := h.2 c
      refine sg_ld f68_8 (v := .int x1) rfl rfl ?_
      refine sg_ld f68_9 (v := .ref rx0) rfl rfl ?_
      refine sg_geti f68_10 hrx0.1 rfl (x := (mi rx0 2)) rfl ?_
      refine sg_icmp f68_13 (fun c => ?_) (fun c => ?_)
      · have h := h.1 c
        refine sg_psh f68_30 (v := .int 0) (by decide) ?_
        exact sg_iret f68_31 pq68 rfl (by decide) ⟨_, rfl, h⟩
      · have h := h.2 c
        refine sg_ld f68_16 (v := .int x2) rfl rfl ?_
        refine sg_ld f68_17 (v := .ref rx0) rfl rfl ?_
        refine sg_geti f68_18 hrx0.1 rfl (x := (mi rx0 2)) rfl ?_
        refine sg_ld f68_21 (v := .int x1) rfl rfl ?_
        refine sg_bin f68_22 rfl ?_
        refine sg_icmp f68_23 (fun c => ?_) (fun c => ?_)
        · have h := h.1 c
          refine sg_psh f68_30 (v := .int 0) (by decide) ?_
          exact sg_iret f68_31 pq68 rfl (by decide) ⟨_, rfl, h⟩
        · have h := h.2 c
          refine sg_psh f68_26 (v := .int 1) (by decide) ?_
          refine sg_goto f68_27 ?_
          exact sg_iret f68_31 pq68 rfl (by decide) ⟨_, rfl, h⟩

/-! X5_put (II)V -/
theorem fe69 (pc : Nat) : gm_fetch 69 pc = gm_find pc cd_69 := rfl
theorem f69_0 : gm_fetch 69 0 = some (1, .aload_n 0, 0, 0, 0, 0) := (fe69 0).trans rfl
theorem f69_1 : gm_fetch 69 1 = some (4, .getfield 15, 74, 5, 3, 0) := (fe69 1).trans rfl
theorem f69_4 : gm_fetch 69 4 = some (5, .iload_n 1, 0, 0, 0, 0) := (fe69 4).trans rfl
theorem f69_5 : gm_fetch 69 5 = some (6, .aload_n 0, 0, 0, 0, 0) := (fe69 5).trans rfl
theorem f69_6 : gm_fetch 69 6 = some (9, .getfield 19, 70, 5, 1, 0) := (fe69 6).trans rfl
theorem f69_9 : gm_fetch 69 9 = some (12, .ifCond .ne 9, 0, 18, 0, 0) := (fe69 9).trans rfl
theorem f69_12 : gm_fetch 69 12 = some (13, .iload_n 2, 0, 0, 0, 0) := (fe69 12).trans rfl
theorem f69_13 : gm_fetch 69 13 = some (14, .iconst 1, 0, 0, 0, 0) := (fe69 13).trans rfl
theorem f69_14 : gm_fetch 69 14 = some (15, .iand, 0, 0, 0, 0) := (fe69 14).trans rfl
theorem f69_15 : gm_fetch 69 15 = some (18, .goto 19, 0, 34, 0, 0) := (fe69 15).trans rfl
theorem f69_18 : gm_fetch 69 18 = some (19, .aload_n 0, 0, 0, 0, 0) := (fe69 18).trans rfl
theorem f69_19 : gm_fetch 69 19 = some (22, .getfield 19, 70, 5, 1, 0) := (fe69 19).trans rfl
theorem f69_22 : gm_fetch 69 22 = some (23, .iconst 1, 0, 0, 0, 0) := (fe69 22).trans rfl
theorem f69_23 : gm_fetch 69 23 = some (26, .if_icmp .ne 10, 0, 33, 0, 0) := (fe69 23).trans rfl
theorem f69_26 : gm_fetch 69 26 = some (27, .iload_n 2, 0, 0, 0, 0) := (fe69 26).trans rfl
theorem f69_27 : gm_fetch 69 27 = some (29, .ldc 32, 4, 0, 0, 65535) := (fe69 27).trans rfl
theorem f69_29 : gm_fetch 69 29 = some (30, .iand, 0, 0, 0, 0) := (fe69 29).trans rfl
theorem f69_30 : gm_fetch 69 30 = some (33, .goto 4, 0, 34, 0, 0) := (fe69 30).trans rfl
theorem f69_33 : gm_fetch 69 33 = some (34, .iload_n 2, 0, 0, 0, 0) := (fe69 33).trans rfl
theorem f69_34 : gm_fetch 69 34 = some (35, .iastore, 0, 0, 0, 0) := (fe69 34).trans rfl
theorem f69_35 : gm_fetch 69 35 = some (36, .return_, 0, 0, 0, 0) := (fe69 35).trans rfl
set_option maxRecDepth 10000 in
theorem rg69_0 {mi : Mi} {ml : Ml} {F : Mi → Ml → Prop} {rx0 : Nat} {x1 : Int32} {x2 : Int32} (hrx0 : isS rx0) (h : ((¬ (mi rx0 1) = 0) → ((¬ (mi rx0 1) = 1) → (vp_in x1 60) ∧ (F (va_up mi (rx0 + 1) (va_up (mi (rx0 + 1)) (Int32.toNatClampNeg x1) x2)) ml)) ∧ (¬ (¬ (mi rx0 1) = 1) → (vp_in x1 60) ∧ (F (va_up mi (rx0 + 1) (va_up (mi (rx0 + 1)) (Int32.toNatClampNeg x1) (x2 &&& 65535))) ml))) ∧ (¬ (¬ (mi rx0 1) = 0) → (vp_in x1 60) ∧ (F (va_up mi (rx0 + 1) (va_up (mi (rx0 + 1)) (Int32.toNatClampNeg x1) (x2 &&& 1))) ml))) : Sg 69 0 [some (.ref rx0), some (.int x1), some (.int x2)] [] mi ml (qv F) := by
  refine sg_ld f69_0 (v := .ref rx0) rfl rfl ?_
  refine sg_getr f69_1 hrx0.1 rfl (w := rx0 + 1) hrx0.2.1 ?_
  refine sg_ld f69_4 (v := .int x1) rfl rfl ?_
  refine sg_ld f69_5 (v := .ref rx0) rfl rfl ?_
  refine sg_geti f69_6 hrx0.1 rfl (x := (mi rx0 1)) rfl ?_
  refine sg_if f69_9 (fun c => ?_) (fun c => ?_)
  · have h := h.1 c
    refine sg_ld f69_18 (v := .ref rx0) rfl rfl ?_
    refine sg_geti f69_19 hrx0.1 rfl (x := (mi rx0 1)) rfl ?_
    refine sg_psh f69_22 (v := .int 1) (by decide) ?_
    refine sg_icmp f69_23 (fun c => ?_) (fun c => ?_)
    · have h := h.1 c
      refine sg_ld f69_33 (v := .int x2) rfl rfl ?_
      obtain ⟨e1, h⟩ := h
      refine sg_iast f69_34 hrx0.2.2 e1 ?_
      exact sg_ret f69_35 pq69 rfl h
    · have h := h.2 c
      refine sg_ld f69_26 (v := .int x2) rfl rfl ?_
      refine sg_psh f69_27 (v := .int 65535) (by decide) ?_
      refine sg_bin f69_29 rfl ?_
      refine sg_goto f69_30 ?_
      obtain ⟨e2, h⟩ := h
      refine sg_iast f69_34 hrx0.2.2 e2 ?_
      exact sg_ret f69_35 pq69 rfl h
  · have h := h.2 c
    refine sg_ld f69_12 (v := .int x2) rfl rfl ?_
    refine sg_psh f69_13 (v := .int 1) (by decide) ?_
    refine sg_bin f69_14 rfl ?_
    refine sg_goto f69_15 ?_
    obtain ⟨e3, h⟩ := h
    refine sg_iast f69_34 hrx0.2.2 e3 ?_
    exact sg_ret f69_35 pq69 rfl h
end
section
/-! J6_bitCount_0f7a4 (I)I -/
theorem fe194 (pc : Nat) : gm_fetch 194 pc = gm_find pc cd_194 := rfl
theorem f194_0 : gm_fetch 194 0 = some (1, .iload_n 0, 0, 0, 0, 0) := (fe194 0).trans rfl
theorem f194_1 : gm_fetch 194 1 = some (2, .iload_n 0, 0, 0, 0, 0) := (fe194 1).trans rfl
theorem f194_2 : gm_fetch 194 2 = some (3, .iconst 1, 0, 0, 0, 0) := (fe194 2).trans rfl
theorem f194_3 : gm_fetch 194 3 = some (4, .iushr, 0, 0, 0, 0) := (fe194 3).trans rfl
theorem f194_4 : gm_fetch 194 4 = some (7, .ldc_w 265, 0, 0, 0, 1431655765) := (fe194 4).trans rfl
theorem f194_7 : gm_fetch 194 7 = some (8, .iand, 0, 0, 0, 0) := (fe194 7).trans rfl
theorem f194_8 : gm_fetch 194 8 = some (9, .isub, 0, 0, 0, 0) := (fe194 8).trans rfl
theorem f194_9 : gm_fetch 194 9 = some (10, .istore_n 0, 0, 0, 0, 0) := (fe194 9).trans rfl
theorem f194_10 : gm_fetch 194 10 = some (11, .iload_n 0, 0, 0, 0, 0) := (fe194 10).trans rfl
theorem f194_11 : gm_fetch 194 11 = some (14, .ldc_w 266, 1, 0, 0, 858993459) := (fe194 11).trans rfl
theorem f194_14 : gm_fetch 194 14 = some (15, .iand, 0, 0, 0, 0) := (fe194 14).trans rfl
theorem f194_15 : gm_fetch 194 15 = some (16, .iload_n 0, 0, 0, 0, 0) := (fe194 15).trans rfl
theorem f194_16 : gm_fetch 194 16 = some (17, .iconst 2, 0, 0, 0, 0) := (fe194 16).trans rfl
theorem f194_17 : gm_fetch 194 17 = some (18, .iushr, 0, 0, 0, 0) := (fe194 17).trans rfl
theorem f194_18 : gm_fetch 194 18 = some (21, .ldc_w 266, 1, 0, 0, 858993459) := (fe194 18).trans rfl
theorem f194_21 : gm_fetch 194 21 = some (22, .iand, 0, 0, 0, 0) := (fe194 21).trans rfl
theorem f194_22 : gm_fetch 194 22 = some (23, .iadd, 0, 0, 0, 0) := (fe194 22).trans rfl
theorem f194_23 : gm_fetch 194 23 = some (24, .istore_n 0, 0, 0, 0, 0) := (fe194 23).trans rfl
theorem f194_24 : gm_fetch 194 24 = some (25, .iload_n 0, 0, 0, 0, 0) := (fe194 24).trans rfl
theorem f194_25 : gm_fetch 194 25 = some (26, .iload_n 0, 0, 0, 0, 0) := (fe194 25).trans rfl
theorem f194_26 : gm_fetch 194 26 = some (27, .iconst 4, 0, 0, 0, 0) := (fe194 26).trans rfl
theorem f194_27 : gm_fetch 194 27 = some (28, .iushr, 0, 0, 0, 0) := (fe194 27).trans rfl
theorem f194_28 : gm_fetch 194 28 = some (29, .iadd, 0, 0, 0, 0) := (fe194 28).trans rfl
theorem f194_29 : gm_fetch 194 29 = some (32, .ldc_w 267, 2, 0, 0, 252645135) := (fe194 29).trans rfl
theorem f194_32 : gm_fetch 194 32 = some (33, .iand, 0, 0, 0, 0) := (fe194 32).trans rfl
theorem f194_33 : gm_fetch 194 33 = some (34, .istore_n 0, 0, 0, 0, 0) := (fe194 33).trans rfl
theorem f194_34 : gm_fetch 194 34 = some (35, .iload_n 0, 0, 0, 0, 0) := (fe194 34).trans rfl
theorem f194_35 : gm_fetch 194 35 = some (36, .iload_n 0, 0, 0, 0, 0) := (fe194 35).trans rfl
theorem f194_36 : gm_fetch 194 36 = some (38, .bipush 8, 0, 0, 0, 0) := (fe194 36).trans rfl
theorem f194_38 : gm_fetch 194 38 = some (39, .iushr, 0, 0, 0, 0) := (fe194 38).trans rfl
theorem f194_39 : gm_fetch 194 39 = some (40, .iadd, 0, 0, 0, 0) := (fe194 39).trans rfl
theorem f194_40 : gm_fetch 194 40 = some (41, .istore_n 0, 0, 0, 0, 0) := (fe194 40).trans rfl
theorem f194_41 : gm_fetch 194 41 = some (42, .iload_n 0, 0, 0, 0, 0) := (fe194 41).trans rfl
theorem f194_42 : gm_fetch 194 42 = some (43, .iload_n 0, 0, 0, 0, 0) := (fe194 42).trans rfl
theorem f194_43 : gm_fetch 194 43 = some (45, .bipush 16, 0, 0, 0, 0) := (fe194 43).trans rfl
theorem f194_45 : gm_fetch 194 45 = some (46, .iushr, 0, 0, 0, 0) := (fe194 45).trans rfl
theorem f194_46 : gm_fetch 194 46 = some (47, .iadd, 0, 0, 0, 0) := (fe194 46).trans rfl
theorem f194_47 : gm_fetch 194 47 = some (48, .istore_n 0, 0, 0, 0, 0) := (fe194 47).trans rfl
theorem f194_48 : gm_fetch 194 48 = some (49, .iload_n 0, 0, 0, 0, 0) := (fe194 48).trans rfl
theorem f194_49 : gm_fetch 194 49 = some (51, .bipush 63, 0, 0, 0, 0) := (fe194 49).trans rfl
theorem f194_51 : gm_fetch 194 51 = some (52, .iand, 0, 0, 0, 0) := (fe194 51).trans rfl
theorem f194_52 : gm_fetch 194 52 = some (53, .ireturn, 0, 0, 0, 0) := (fe194 52).trans rfl
set_option maxRecDepth 10000 in
theorem rg194_0 {mi : Mi} {ml : Ml} {F : Int32 → Mi → Ml → Prop} {x0 : Int32}  (h : F ((((((((x0 - ((ushr x0 1) &&& 1431655765)) &&& 858993459) + ((ushr (x0 - ((ushr x0 1) &&& 1431655765)) 2) &&& 858993459)) + (ushr (((x0 - ((ushr x0 1) &&& 1431655765)) &&& 858993459) + ((ushr (x0 - ((ushr x0 1) &&& 1431655765)) 2) &&& 858993459)) 4)) &&& 252645135) + (ushr (((((x0 - ((ushr x0 1) &&& 1431655765)) &&& 858993459) + ((ushr (x0 - ((ushr x0 1) &&& 1431655765)) 2) &&& 858993459)) + (ushr (((x0 - ((ushr x0 1) &&& 1431655765)) &&& 858993459) + ((ushr (x0 - ((ushr x0 1) &&& 1431655765)) 2) &&& 858993459)) 4)) &&& 252645135) 8)) + (ushr ((((((x0 - ((ushr x0 1) &&& 1431655765)) &&& 858993459) + ((ushr (x0 - ((ushr x0 1) &&& 1431655765)) 2) &&& 858993459)) + (ushr (((x0 - ((ushr x0 1) &&& 1431655765)) &&& 858993459) + ((ushr (x0 - ((ushr x0 1) &&& 1431655765)) 2) &&& 858993459)) 4)) &&& 252645135) + (ushr (((((x0 - ((ushr x0 1) &&& 1431655765)) &&& 858993459) + ((ushr (x0 - ((ushr x0 1) &&& 1431655765)) 2) &&& 858993459)) + (ushr (((x0 - ((ushr x0 1) &&& 1431655765)) &&& 858993459) + ((ushr (x0 - ((ushr x0 1) &&& 1431655765)) 2) &&& 858993459)) 4)) &&& 252645135) 8)) 16)) &&& 63) mi ml) : Sg 194 0 [some (.int x0)] [] mi ml (qi F) := by
  refine sg_ld f194_0 (v := .int x0) rfl rfl ?_
  refine sg_ld f194_1 (v := .int x0) rfl rfl ?_
  refine sg_psh f194_2 (v := .int 1) (by decide) ?_
  refine sg_bin f194_3 rfl ?_
  refine sg_psh f194_4 (v := .int 1431655765) (by decide) ?_
  refine sg_bin f194_7 rfl ?_
  refine sg_bin f194_8 rfl ?_
  refine sg_st1 f194_9 (ls' := [some (.int (x0 - ((ushr x0 1) &&& 1431655765)))]) rfl rfl rfl rfl ?_
  refine sg_ld f194_10 (v := .int (x0 - ((ushr x0 1) &&& 1431655765))) rfl rfl ?_
  refine sg_psh f194_11 (v := .int 858993459) (by decide) ?_
  refine sg_bin f194_14 rfl ?_
  refine sg_ld f194_15 (v := .int (x0 - ((ushr x0 1) &&& 1431655765))) rfl rfl ?_
  refine sg_psh f194_16 (v := .int 2) (by decide) ?_
  refine sg_bin f194_17 rfl ?_
  refine sg_psh f194_18 (v := .int 858993459) (by decide) ?_
  refine sg_bin f194_21 rfl ?_
  refine sg_bin f194_22 rfl ?_
  refine sg_st1 f194_23 (ls' := [some (.int (((x0 - ((ushr x0 1) &&& 1431655765)) &&& 858993459) + ((ushr (x0 - ((ushr x0 1) &&& 1431655765)) 2) &&& 858993459)))]) rfl rfl rfl rfl ?_
  refine sg_ld f194_24 (v := .int (((x0 - ((ushr x0 1) &&& 1431655765)) &&& 858993459) + ((ushr (x0 - ((ushr x0 1) &&& 1431655765)) 2) &&& 858993459))) rfl rfl ?_
  refine sg_ld f194_25 (v := .int (((x0 - ((ushr x0 1) &&& 1431655765)) &&& 858993459) + ((ushr (x0 - ((ushr x0 1) &&& 1431655765)) 2) &&& 858993459))) rfl rfl ?_
  refine sg_psh f194_26 (v := .int 4) (by decide) ?_
  refine sg_bin f194_27 rfl ?_
  refine sg_bin f194_28 rfl ?_
  refine sg_psh f194_29 (v := .int 252645135) (by decide) ?_
  refine sg_bin f194_32 rfl ?_
  refine sg_st1 f194_33 (ls' := [some (.int (((((x0 - ((ushr x0 1) &&& 1431655765)) &&& 858993459) + ((ushr (x0 - ((ushr x0 1) &&& 1431655765)) 2) &&& 858993459)) + (ushr (((x0 - ((ushr x0 1) &&& 1431655765)) &&& 858993459) + ((ushr (x0 - ((ushr x0 1) &&& 1431655765)) 2) &&& 858993459)) 4)) &&& 252645135))]) rfl rfl rfl rfl ?_
  refine sg_ld f194_34 (v := .int (((((x0 - ((ushr x0 1) &&& 1431655765)) &&& 858993459) + ((ushr (x0 - ((ushr x0 1) &&& 1431655765)) 2) &&& 858993459)) + (ushr (((x0 - ((ushr x0 1) &&& 1431655765)) &&& 858993459) + ((ushr (x0 - ((ushr x0 1) &&& 1431655765)) 2) &&& 858993459)) 4)) &&& 252645135)) rfl rfl ?_
  refine sg_ld f194_35 (v := .int (((((x0 - ((ushr x0 1) &&& 1431655765)) &&& 858993459) + ((ushr (x0 - ((ushr x0 1) &&& 1431655765)) 2) &&& 858993459)) + (ushr (((x0 - ((ushr x0 1) &&& 1431655765)) &&& 858993459) + ((ushr (x0 - ((ushr x0 1) &&& 1431655765)) 2) &&& 858993459)) 4)) &&& 252645135)) rfl rfl ?_
  refine sg_psh f194_36 (v := .int 8) (by decide) ?_
  refine sg_bin f194_38 rfl ?_
  refine sg_bin f194_39 rfl ?_
  refine sg_st1 f194_40 (ls' := [some (.int ((((((x0 - ((ushr x0 1) &&& 1431655765)) &&& 858993459) + ((ushr (x0 - ((ushr x0 1) &&& 1431655765)) 2) &&& 858993459)) + (ushr (((x0 - ((ushr x0 1) &&& 1431655765)) &&& 858993459) + ((ushr (x0 - ((ushr x0 1) &&& 1431655765)) 2) &&& 858993459)) 4)) &&& 252645135) + (ushr (((((x0 - ((ushr x0 1) &&& 1431655765)) &&& 858993459) + ((ushr (x0 - ((ushr x0 1) &&& 1431655765)) 2) &&& 858993459)) + (ushr (((x0 - ((ushr x0 1) &&& 1431655765)) &&& 858993459) + ((ushr (x0 - ((ushr x0 1) &&& 1431655765)) 2) &&& 858993459)) 4)) &&& 252645135) 8)))]) rfl rfl rfl rfl ?_
  refine sg_ld f194_41 (v := .int ((((((x0 - ((ushr x0 1) &&& 1431655765)) &&& 858993459) + ((ushr (x0 - ((ushr x0 1) &&& 1431655765)) 2) &&& 858993459)) + (ushr (((x0 - ((ushr x0 1) &&& 1431655765)) &&& 858993459) + ((ushr (x0 - ((ushr x0 1) &&& 1431655765)) 2) &&& 858993459)) 4)) &&& 252645135) + (ushr (((((x0 - ((ushr x0 1) &&& 1431655765)) &&& 858993459) + ((ushr (x0 - ((ushr x0 1) &&& 1431655765)) 2) &&& 858993459)) + (ushr (((x0 - ((ushr x0 1) &&& 1431655765)) &&& 858993459) + ((ushr (x0 - ((ushr x0 1) &&& 1431655765)) 2) &&& 858993459)) 4)) &&& 252645135) 8))) rfl rfl ?_
  refine sg_ld f194_42 (v := .int ((((((x0 - ((ushr x0 1) &&& 1431655765)) &&& 858993459) + ((ushr (x0 - ((ushr x0 1) &&& 1431655765)) 2) &&& 858993459)) + (ushr (((x0 - ((ushr x0 1) &&& 1431655765)) &&& 858993459) + ((ushr (x0 - ((ushr x0 1) &&& 1431655765)) 2) &&& 858993459)) 4)) &&& 252645135) + (ushr (((((x0 - ((ushr x0 1) &&& 1431655765)) &&& 858993459) + ((ushr (x0 - ((ushr x0 1) &&& 1431655765)) 2) &&& 858993459)) + (ushr (((x0 - ((ushr x0 1) &&& 1431655765)) &&& 858993459) + ((ushr (x0 - ((ushr x0 1) &&& 1431655765)) 2) &&& 858993459)) 4)) &&& 252645135) 8))) rfl rfl ?_
  refine sg_psh f194_43 (v := .int 16) (by decide) ?_
  refine sg_bin f194_45 rfl ?_
  refine sg_bin f194_46 rfl ?_
  refine sg_st1 f194_47 (ls' := [some (.int (((((((x0 - ((ushr x0 1) &&& 1431655765)) &&& 858993459) + ((ushr (x0 - ((ushr x0 1) &&& 1431655765)) 2) &&& 858993459)) + (ushr (((x0 - ((ushr x0 1) &&& 1431655765)) &&& 858993459) + ((ushr (x0 - ((ushr x0 1) &&& 1431655765)) 2) &&& 858993459)) 4)) &&& 252645135) + (ushr (((((x0 - ((ushr x0 1) &&& 1431655765)) &&& 858993459) + ((ushr (x0 - ((ushr x0 1) &&& 1431655765)) 2) &&& 858993459)) + (ushr (((x0 - ((ushr x0 1) &&& 1431655765)) &&& 858993459) + ((ushr (x0 - ((ushr x0 1) &&& 1431655765)) 2) &&& 858993459)) 4)) &&& 252645135) 8)) + (ushr ((((((x0 - ((ushr x0 1) &&& 1431655765)) &&& 858993459) + ((ushr (x0 - ((ushr x0 1) &&& 1431655765)) 2) &&& 858993459)) + (ushr (((x0 - ((ushr x0 1) &&& 1431655765)) &&& 858993459) + ((ushr (x0 - ((ushr x0 1) &&& 1431655765)) 2) &&& 858993459)) 4)) &&& 252645135) + (ushr (((((x0 - ((ushr x0 1) &&& 1431655765)) &&& 858993459) + ((ushr (x0 - ((ushr x0 1) &&& 1431655765)) 2) &&& 858993459)) + (ushr (((x0 - ((ushr x0 1) &&& 1431655765)) &&& 858993459) + ((ushr (x0 - ((ushr x0 1) &&& 1431655765)) 2) &&& 858993459)) 4)) &&& 252645135) 8)) 16)))]) rfl rfl rfl rfl ?_
  refine sg_ld f194_48 (v := .int (((((((x0 - ((ushr x0 1) &&& 1431655765)) &&& 858993459) + ((ushr (x0 - ((ushr x0 1) &&& 1431655765)) 2) &&& 858993459)) + (ushr (((x0 - ((ushr x0 1) &&& 1431655765)) &&& 858993459) + ((ushr (x0 - ((ushr x0 1) &&& 1431655765)) 2) &&& 858993459)) 4)) &&& 252645135) + (ushr (((((x0 - ((ushr x0 1) &&& 1431655765)) &&& 858993459) + ((ushr (x0 - ((ushr x0 1) &&& 1431655765)) 2) &&& 858993459)) + (ushr (((x0 - ((ushr x0 1) &&& 1431655765)) &&& 858993459) + ((ushr (x0 - ((ushr x0 1) &&& 1431655765)) 2) &&& 858993459)) 4)) &&& 252645135) 8)) + (ushr ((((((x0 - ((ushr x0 1) &&& 1431655765)) &&& 858993459) + ((ushr (x0 - ((ushr x0 1) &&& 1431655765)) 2) &&& 858993459)) + (ushr (((x0 - ((ushr x0 1) &&& 1431655765)) &&& 858993459) + ((ushr (x0 - ((ushr x0 1) &&& 1431655765)) 2) &&& 858993459)) 4)) &&& 252645135) + (ushr (((((x0 - ((ushr x0 1) &&& 1431655765)) &&& 858993459) + ((ushr (x0 - ((ushr x0 1) &&& 1431655765)) 2) &&& 858993459)) + (ushr (((x0 - ((ushr x0 1) &&& 1431655765)) &&& 858993459) + ((ushr (x0 - ((ushr x0 1) &&& 1431655765)) 2) &&& 858993459)) 4)) &&& 252645135) 8)) 16))) rfl rfl ?_
  refine sg_psh f194_49 (v := .int 63) (by decide) ?_
  refine sg_bin f194_51 rfl ?_
  exact sg_iret f194_52 pq194 rfl rfl ⟨_, rfl, h⟩

/-! J13_bitCount_95d88 (J)I -/
theorem fe195 (pc : Nat) : gm_fetch 195 pc = gm_find pc cd_195 := rfl
theorem f195_0 : gm_fetch 195 0 = some (1, .lload_n 0, 0, 0, 0, 0) := (fe195 0).trans rfl
theorem f195_1 : gm_fetch 195 1 = some (2, .lload_n 0, 0, 0, 0, 0) := (fe195 1).trans rfl
theorem f195_2 : gm_fetch 195 2 = some (3, .iconst 1, 0, 0, 0, 0) := (fe195 2).trans rfl
theorem f195_3 : gm_fetch 195 3 = some (4, .lushr, 0, 0, 0, 0) := (fe195 3).trans rfl
theorem f195_4 : gm_fetch 195 4 = some (7, .ldc2_w 314, 0, 0, 0, 6148914691236517205) := (fe195 4).trans rfl
theorem f195_7 : gm_fetch 195 7 = some (8, .land, 0, 0, 0, 0) := (fe195 7).trans rfl
theorem f195_8 : gm_fetch 195 8 = some (9, .lsub, 0, 0, 0, 0) := (fe195 8).trans rfl
theorem f195_9 : gm_fetch 195 9 = some (10, .lstore_n 0, 0, 0, 0, 0) := (fe195 9).trans rfl
theorem f195_10 : gm_fetch 195 10 = some (11, .lload_n 0, 0, 0, 0, 0) := (fe195 10).trans rfl
theorem f195_11 : gm_fetch 195 11 = some (14, .ldc2_w 316, 1, 0, 0, 3689348814741910323) := (fe195 11).trans rfl
theorem f195_14 : gm_fetch 195 14 = some (15, .land, 0, 0, 0, 0) := (fe195 14).trans rfl
theorem f195_15 : gm_fetch 195 15 = some (16, .lload_n 0, 0, 0, 0, 0) := (fe195 15).trans rfl
theorem f195_16 : gm_fetch 195 16 = some (17, .iconst 2, 0, 0, 0, 0) := (fe195 16).trans rfl
theorem f195_17 : gm_fetch 195 17 = some (18, .lushr, 0, 0, 0, 0) := (fe195 17).trans rfl
theorem f195_18 : gm_fetch 195 18 = some (21, .ldc2_w 316, 1, 0, 0, 3689348814741910323) := (fe195 18).trans rfl
theorem f195_21 : gm_fetch 195 21 = some (22, .land, 0, 0, 0, 0) := (fe195 21).trans rfl
theorem f195_22 : gm_fetch 195 22 = some (23, .ladd, 0, 0, 0, 0) := (fe195 22).trans rfl
theorem f195_23 : gm_fetch 195 23 = some (24, .lstore_n 0, 0, 0, 0, 0) := (fe195 23).trans rfl
theorem f195_24 : gm_fetch 195 24 = some (25, .lload_n 0, 0, 0, 0, 0) := (fe195 24).trans rfl
theorem f195_25 : gm_fetch 195 25 = some (26, .lload_n 0, 0, 0, 0, 0) := (fe195 25).trans rfl
theorem f195_26 : gm_fetch 195 26 = some (27, .iconst 4, 0, 0, 0, 0) := (fe195 26).trans rfl
theorem f195_27 : gm_fetch 195 27 = some (28, .lushr, 0, 0, 0, 0) := (fe195 27).trans rfl
theorem f195_28 : gm_fetch 195 28 = some (29, .ladd, 0, 0, 0, 0) := (fe195 28).trans rfl
theorem f195_29 : gm_fetch 195 29 = some (32, .ldc2_w 318, 2, 0, 0, 1085102592571150095) := (fe195 29).trans rfl
theorem f195_32 : gm_fetch 195 32 = some (33, .land, 0, 0, 0, 0) := (fe195 32).trans rfl
theorem f195_33 : gm_fetch 195 33 = some (34, .lstore_n 0, 0, 0, 0, 0) := (fe195 33).trans rfl
theorem f195_34 : gm_fetch 195 34 = some (35, .lload_n 0, 0, 0, 0, 0) := (fe195 34).trans rfl
theorem f195_35 : gm_fetch 195 35 = some (36, .lload_n 0, 0, 0, 0, 0) := (fe195 35).trans rfl
theorem f195_36 : gm_fetch 195 36 = some (38, .bipush 8, 0, 0, 0, 0) := (fe195 36).trans rfl
theorem f195_38 : gm_fetch 195 38 = some (39, .lushr, 0, 0, 0, 0) := (fe195 38).trans rfl
theorem f195_39 : gm_fetch 195 39 = some (40, .ladd, 0, 0, 0, 0) := (fe195 39).trans rfl
theorem f195_40 : gm_fetch 195 40 = some (41, .lstore_n 0, 0, 0, 0, 0) := (fe195 40).trans rfl
theorem f195_41 : gm_fetch 195 41 = some (42, .lload_n 0, 0, 0, 0, 0) := (fe195 41).trans rfl
theorem f195_42 : gm_fetch 195 42 = some (43, .lload_n 0, 0, 0, 0, 0) := (fe195 42).trans rfl
theorem f195_43 : gm_fetch 195 43 = some (45, .bipush 16, 0, 0, 0, 0) := (fe195 43).trans rfl
theorem f195_45 : gm_fetch 195 45 = some (46, .lushr, 0, 0, 0, 0) := (fe195 45).trans rfl
theorem f195_46 : gm_fetch 195 46 = some (47, .ladd, 0, 0, 0, 0) := (fe195 46).trans rfl
theorem f195_47 : gm_fetch 195 47 = some (48, .lstore_n 0, 0, 0, 0, 0) := (fe195 47).trans rfl
theorem f195_48 : gm_fetch 195 48 = some (49, .lload_n 0, 0, 0, 0, 0) := (fe195 48).trans rfl
theorem f195_49 : gm_fetch 195 49 = some (50, .lload_n 0, 0, 0, 0, 0) := (fe195 49).trans rfl
theorem f195_50 : gm_fetch 195 50 = some (52, .bipush 32, 0, 0, 0, 0) := (fe195 50).trans rfl
theorem f195_52 : gm_fetch 195 52 = some (53, .lushr, 0, 0, 0, 0) := (fe195 52).trans rfl
theorem f195_53 : gm_fetch 195 53 = some (54, .ladd, 0, 0, 0, 0) := (fe195 53).trans rfl
theorem f195_54 : gm_fetch 195 54 = some (55, .lstore_n 0, 0, 0, 0, 0) := (fe195 54).trans rfl
theorem f195_55 : gm_fetch 195 55 = some (56, .lload_n 0, 0, 0, 0, 0) := (fe195 55).trans rfl
theorem f195_56 : gm_fetch 195 56 = some (57, .l2i, 0, 0, 0, 0) := (fe195 56).trans rfl
theorem f195_57 : gm_fetch 195 57 = some (59, .bipush 127, 0, 0, 0, 0) := (fe195 57).trans rfl
theorem f195_59 : gm_fetch 195 59 = some (60, .iand, 0, 0, 0, 0) := (fe195 59).trans rfl
theorem f195_60 : gm_fetch 195 60 = some (61, .ireturn, 0, 0, 0, 0) := (fe195 60).trans rfl
set_option maxRecDepth 10000 in
theorem rg195_0 {mi : Mi} {ml : Ml} {F : Int32 → Mi → Ml → Prop} {x0 : Int64}  (h : F ((Int64.toInt32 ((((((((x0 - ((lushr x0 1) &&& 6148914691236517205)) &&& 3689348814741910323) + ((lushr (x0 - ((lushr x0 1) &&& 6148914691236517205)) 2) &&& 3689348814741910323)) + (lushr (((x0 - ((lushr x0 1) &&& 6148914691236517205)) &&& 3689348814741910323) + ((lushr (x0 - ((lushr x0 1) &&& 6148914691236517205)) 2) &&& 3689348814741910323)) 4)) &&& 1085102592571150095) + (lushr (((((x0 - ((lushr x0 1) &&& 6148914691236517205)) &&& 3689348814741910323) + ((lushr (x0 - ((lushr x0 1) &&& 6148914691236517205)) 2) &&& 3689348814741910323)) + (lushr (((x0 - ((lushr x0 1) &&& 6148914691236517205)) &&& 3689348814741910323) + ((lushr (x0 - ((lushr x0 1) &&& 6148914691236517205)) 2) &&& 3689348814741910323)) 4)) &&& 1085102592571150095) 8)) + (lushr ((((((x0 - ((lushr x0 1) &&& 6148914691236517205)) &&& 3689348814741910323) + ((lushr (x0 - ((lushr x0 1) &&& 6148914691236517205)) 2) &&& 3689348814741910323)) + (lushr (((x0 - ((lushr x0 1) &&& 6148914691236517205)) &&& 3689348814741910323) + ((lushr (x0 - ((lushr x0 1) &&& 6148914691236517205)) 2) &&& 3689348814741910323)) 4)) &&& 1085102592571150095) + (lushr (((((x0 - ((lushr x0 1) &&& 6148914691236517205)) &&& 3689348814741910323) + ((lushr (x0 - ((lushr x0 1) &&& 6148914691236517205)) 2) &&& 3689348814741910323)) + (lushr (((x0 - ((lushr x0 1) &&& 6148914691236517205)) &&& 3689348814741910323) + ((lushr (x0 - ((lushr x0 1) &&& 6148914691236517205)) 2) &&& 3689348814741910323)) 4)) &&& 1085102592571150095) 8)) 16)) + (lushr (((((((x0 - ((lushr x0 1) &&& 6148914691236517205)) &&& 3689348814741910323) + ((lushr (x0 - ((lushr x0 1) &&& 6148914691236517205)) 2) &&& 3689348814741910323)) + (lushr (((x0 - ((lushr x0 1) &&& 6148914691236517205)) &&& 3689348814741910323) + ((lushr (x0 - ((lushr x0 1) &&& 6148914691236517205)) 2) &&& 3689348814741910323)) 4)) &&& 1085102592571150095) + (lushr (((((x0 - ((lushr x0 1) &&& 6148914691236517205)) &&& 3689348814741910323) + ((lushr (x0 - ((lushr x0 1) &&& 6148914691236517205)) 2) &&& 3689348814741910323)) + (lushr (((x0 - ((lushr x0 1) &&& 6148914691236517205)) &&& 3689348814741910323) + ((lushr (x0 - ((lushr x0 1) &&& 6148914691236517205)) 2) &&& 3689348814741910323)) 4)) &&& 1085102592571150095) 8)) + (lushr ((((((x0 - ((lushr x0 1) &&& 6148914691236517205)) &&& 3689348814741910323) + ((lushr (x0 - ((lushr x0 1) &&& 6148914691236517205)) 2) &&& 3689348814741910323)) + (lushr (((x0 - ((lushr x0 1) &&& 6148914691236517205)) &&& 3689348814741910323) + ((lushr (x0 - ((lushr x0 1) &&& 6148914691236517205)) 2) &&& 3689348814741910323)) 4)) &&& 1085102592571150095) + (lushr (((((x0 - ((lushr x0 1) &&& 6148914691236517205)) &&& 3689348814741910323) + ((lushr (x0 - ((lushr x0 1) &&& 6148914691236517205)) 2) &&& 3689348814741910323)) + (lushr (((x0 - ((lushr x0 1) &&& 6148914691236517205)) &&& 3689348814741910323) + ((lushr (x0 - ((lushr x0 1) &&& 6148914691236517205)) 2) &&& 3689348814741910323)) 4)) &&& 1085102592571150095) 8)) 16)) 32))) &&& 127) mi ml) : Sg 195 0 [some (.long x0), none] [] mi ml (qi F) := by
  refine sg_ld f195_0 (v := .long x0) rfl rfl ?_
  refine sg_ld f195_1 (v := .long x0) rfl rfl ?_
  refine sg_psh f195_2 (v := .int 1) (by decide) ?_
  refine sg_shl f195_3 rfl ?_
  refine sg_psh f195_4 (v := .long 6148914691236517205) (by decide) ?_
  refine sg_binl f195_7 rfl ?_
  refine sg_binl f195_8 rfl ?_
  refine sg_st2 f195_9 (ls' := [some (.long (x0 - ((lushr x0 1) &&& 6148914691236517205))), none]) rfl rfl rfl ?_
  refine sg_ld f195_10 (v := .long (x0 - ((lushr x0 1) &&& 6148914691236517205))) rfl rfl ?_
  refine sg_psh f195_11 (v := .long 3689348814741910323) (by decide) ?_
  refine sg_binl f195_14 rfl ?_
  refine sg_ld f195_15 (v := .long (x0 - ((lushr x0 1) &&& 6148914691236517205))) rfl rfl ?_
  refine sg_psh f195_16 (v := .int 2) (by decide) ?_
  refine sg_shl f195_17 rfl ?_
  refine sg_psh f195_18 (v := .long 3689348814741910323) (by decide) ?_
  refine sg_binl f195_21 rfl ?_
  refine sg_binl f195_22 rfl ?_
  refine sg_st2 f195_23 (ls' := [some (.long (((x0 - ((lushr x0 1) &&& 6148914691236517205)) &&& 3689348814741910323) + ((lushr (x0 - ((lushr x0 1) &&& 6148914691236517205)) 2) &&& 3689348814741910323))), none]) rfl rfl rfl ?_
  refine sg_ld f195_24 (v := .long (((x0 - ((lushr x0 1) &&& 6148914691236517205)) &&& 3689348814741910323) + ((lushr (x0 - ((lushr x0 1) &&& 6148914691236517205)) 2) &&& 3689348814741910323))) rfl rfl ?_
  refine sg_ld f195_25 (v := .long (((x0 - ((lushr x0 1) &&& 6148914691236517205)) &&& 3689348814741910323) + ((lushr (x0 - ((lushr x0 1) &&& 6148914691236517205)) 2) &&& 3689348814741910323))) rfl rfl ?_
  refine sg_psh f195_26 (v := .int 4) (by decide) ?_
  refine sg_shl f195_27 rfl ?_
  refine sg_binl f195_28 rfl ?_
  refine sg_psh f195_29 (v := .long 1085102592571150095) (by decide) ?_
  refine sg_binl f195_32 rfl ?_
  refine sg_st2 f195_33 (ls' := [some (.long (((((x0 - ((lushr x0 1) &&& 6148914691236517205)) &&& 3689348814741910323) + ((lushr (x0 - ((lushr x0 1) &&& 6148914691236517205)) 2) &&& 3689348814741910323)) + (lushr (((x0 - ((lushr x0 1) &&& 6148914691236517205)) &&& 3689348814741910323) + ((lushr (x0 - ((lushr x0 1) &&& 6148914691236517205)) 2) &&& 3689348814741910323)) 4)) &&& 1085102592571150095)), none]) rfl rfl rfl ?_
  refine sg_ld f195_34 (v := .long (((((x0 - ((lushr x0 1) &&& 6148914691236517205)) &&& 3689348814741910323) + ((lushr (x0 - ((lushr x0 1) &&& 6148914691236517205)) 2) &&& 3689348814741910323)) + (lushr (((x0 - ((lushr x0 1) &&& 6148914691236517205)) &&& 3689348814741910323) + ((lushr (x0 - ((lushr x0 1) &&& 6148914691236517205)) 2) &&& 3689348814741910323)) 4)) &&& 1085102592571150095)) rfl rfl ?_
  refine sg_ld f195_35 (v := .long (((((x0 - ((lushr x0 1) &&& 6148914691236517205)) &&& 3689348814741910323) + ((lushr (x0 - ((lushr x0 1) &&& 6148914691236517205)) 2) &&& 3689348814741910323)) + (lushr (((x0 - ((lushr x0 1) &&& 6148914691236517205)) &&& 3689348814741910323) + ((lushr (x0 - ((lushr x0 1) &&& 6148914691236517205)) 2) &&& 3689348814741910323)) 4)) &&& 1085102592571150095)) rfl rfl ?_
  refine sg_psh f195_36 (v := .int 8) (by decide) ?_
  refine sg_shl f195_38 rfl ?_
  refine sg_binl f195_39 rfl ?_
  refine sg_st2 f195_40 (ls' := [some (.long ((((((x0 - ((lushr x0 1) &&& 6148914691236517205)) &&& 3689348814741910323) + ((lushr (x0 - ((lushr x0 1) &&& 6148914691236517205)) 2) &&& 3689348814741910323)) + (lushr (((x0 - ((lushr x0 1) &&& 6148914691236517205)) &&& 3689348814741910323) + ((lushr (x0 - ((lushr x0 1) &&& 6148914691236517205)) 2) &&& 3689348814741910323)) 4)) &&& 1085102592571150095) + (lushr (((((x0 - ((lushr x0 1) &&& 6148914691236517205)) &&& 3689348814741910323) + ((lushr (x0 - ((lushr x0 1) &&& 6148914691236517205)) 2) &&& 3689348814741910323)) + (lushr (((x0 - ((lushr x0 1) &&& 6148914691236517205)) &&& 3689348814741910323) + ((lushr (x0 - ((lushr x0 1) &&& 6148914691236517205)) 2) &&& 3689348814741910323)) 4)) &&& 1085102592571150095) 8))), none]) rfl rfl rfl ?_
  refine sg_ld f195_41 (v := .long ((((((x0 - ((lushr x0 1) &&& 6148914691236517205)) &&& 3689348814741910323) + ((lushr (x0 - ((lushr x0 1) &&& 6148914691236517205)) 2) &&& 3689348814741910323)) + (lushr (((x0 - ((lushr x0 1) &&& 6148914691236517205)) &&& 3689348814741910323) + ((lushr (x0 - ((lushr x0 1) &&& 6148914691236517205)) 2) &&& 3689348814741910323)) 4)) &&& 1085102592571150095) + (lushr (((((x0 - ((lushr x0 1) &&& 6148914691236517205)) &&& 3689348814741910323) + ((lushr (x0 - ((lushr x0 1) &&& 6148914691236517205)) 2) &&& 3689348814741910323)) + (lushr (((x0 - ((lushr x0 1) &&& 6148914691236517205)) &&& 3689348814741910323) + ((lushr (x0 - ((lushr x0 1) &&& 6148914691236517205)) 2) &&& 3689348814741910323)) 4)) &&& 1085102592571150095) 8))) rfl rfl ?_
  refine sg_ld f195_42 (v := .long ((((((x0 - ((lushr x0 1) &&& 6148914691236517205)) &&& 3689348814741910323) + ((lushr (x0 - ((lushr x0 1) &&& 6148914691236517205)) 2) &&& 3689348814741910323)) + (lushr (((x0 - ((lushr x0 1) &&& 6148914691236517205)) &&& 3689348814741910323) + ((lushr (x0 - ((lushr x0 1) &&& 6148914691236517205)) 2) &&& 3689348814741910323)) 4)) &&& 1085102592571150095) + (lushr (((((x0 - ((lushr x0 1) &&& 6148914691236517205)) &&& 3689348814741910323) + ((lushr (x0 - ((lushr x0 1) &&& 6148914691236517205)) 2) &&& 3689348814741910323)) + (lushr (((x0 - ((lushr x0 1) &&& 6148914691236517205)) &&& 3689348814741910323) + ((lushr (x0 - ((lushr x0 1) &&& 6148914691236517205)) 2) &&& 3689348814741910323)) 4)) &&& 1085102592571150095) 8))) rfl rfl ?_
  refine sg_psh f195_43 (v := .int 16) (by decide) ?_
  refine sg_shl f195_45 rfl ?_
  refine sg_binl f195_46 rfl ?_
  refine sg_st2 f195_47 (ls' := [some (.long (((((((x0 - ((lushr x0 1) &&& 6148914691236517205)) &&& 3689348814741910323) + ((lushr (x0 - ((lushr x0 1) &&& 6148914691236517205)) 2) &&& 3689348814741910323)) + (lushr (((x0 - ((lushr x0 1) &&& 6148914691236517205)) &&& 3689348814741910323) + ((lushr (x0 - ((lushr x0 1) &&& 6148914691236517205)) 2) &&& 3689348814741910323)) 4)) &&& 1085102592571150095) + (lushr (((((x0 - ((lushr x0 1) &&& 6148914691236517205)) &&& 3689348814741910323) + ((lushr (x0 - ((lushr x0 1) &&& 6148914691236517205)) 2) &&& 3689348814741910323)) + (lushr (((x0 - ((lushr x0 1) &&& 6148914691236517205)) &&& 3689348814741910323) + ((lushr (x0 - ((lushr x0 1) &&& 6148914691236517205)) 2) &&& 3689348814741910323)) 4)) &&& 1085102592571150095) 8)) + (lushr ((((((x0 - ((lushr x0 1) &&& 6148914691236517205)) &&& 3689348814741910323) + ((lushr (x0 - ((lushr x0 1) &&& 6148914691236517205)) 2) &&& 3689348814741910323)) + (lushr (((x0 - ((lushr x0 1) &&& 6148914691236517205)) &&& 3689348814741910323) + ((lushr (x0 - ((lushr x0 1) &&& 6148914691236517205)) 2) &&& 3689348814741910323)) 4)) &&& 1085102592571150095) + (lushr (((((x0 - ((lushr x0 1) &&& 6148914691236517205)) &&& 3689348814741910323) + ((lushr (x0 - ((lushr x0 1) &&& 6148914691236517205)) 2) &&& 3689348814741910323)) + (lushr (((x0 - ((lushr x0 1) &&& 6148914691236517205)) &&& 3689348814741910323) + ((lushr (x0 - ((lushr x0 1) &&& 6148914691236517205)) 2) &&& 3689348814741910323)) 4)) &&& 1085102592571150095) 8)) 16))), none]) rfl rfl rfl ?_
  refine sg_ld f195_48 (v := .long (((((((x0 - ((lushr x0 1) &&& 6148914691236517205)) &&& 3689348814741910323) + ((lushr (x0 - ((lushr x0 1) &&& 6148914691236517205)) 2) &&& 3689348814741910323)) + (lushr (((x0 - ((lushr x0 1) &&& 6148914691236517205)) &&& 3689348814741910323) + ((lushr (x0 - ((lushr x0 1) &&& 6148914691236517205)) 2) &&& 3689348814741910323)) 4)) &&& 1085102592571150095) + (lushr (((((x0 - ((lushr x0 1) &&& 6148914691236517205)) &&& 3689348814741910323) + ((lushr (x0 - ((lushr x0 1) &&& 6148914691236517205)) 2) &&& 3689348814741910323)) + (lushr (((x0 - ((lushr x0 1) &&& 6148914691236517205)) &&& 3689348814741910323) + ((lushr (x0 - ((lushr x0 1) &&& 6148914691236517205)) 2) &&& 3689348814741910323)) 4)) &&& 1085102592571150095) 8)) + (lushr ((((((x0 - ((lushr x0 1) &&& 6148914691236517205)) &&& 3689348814741910323) + ((lushr (x0 - ((lushr x0 1) &&& 6148914691236517205)) 2) &&& 3689348814741910323)) + (lushr (((x0 - ((lushr x0 1) &&& 6148914691236517205)) &&& 3689348814741910323) + ((lushr (x0 - ((lushr x0 1) &&& 6148914691236517205)) 2) &&& 3689348814741910323)) 4)) &&& 1085102592571150095) + (lushr (((((x0 - ((lushr x0 1) &&& 6148914691236517205)) &&& 3689348814741910323) + ((lushr (x0 - ((lushr x0 1) &&& 6148914691236517205)) 2) &&& 3689348814741910323)) + (lushr (((x0 - ((lushr x0 1) &&& 6148914691236517205)) &&& 3689348814741910323) + ((lushr (x0 - ((lushr x0 1) &&& 6148914691236517205)) 2) &&& 3689348814741910323)) 4)) &&& 1085102592571150095) 8)) 16))) rfl rfl ?_
  refine sg_ld f195_49 (v := .long (((((((x0 - ((lushr x0 1) &&& 6148914691236517205)) &&& 3689348814741910323) + ((lushr (x0 - ((lushr x0 1) &&& 6148914691236517205)) 2) &&& 3689348814741910323)) + (lushr (((x0 - ((lushr x0 1) &&& 6148914691236517205)) &&& 3689348814741910323) + ((lushr (x0 - ((lushr x0 1) &&& 6148914691236517205)) 2) &&& 3689348814741910323)) 4)) &&& 1085102592571150095) + (lushr (((((x0 - ((lushr x0 1) &&& 6148914691236517205)) &&& 3689348814741910323) + ((lushr (x0 - ((lushr x0 1) &&& 6148914691236517205)) 2) &&& 3689348814741910323)) + (lushr (((x0 - ((lushr x0 1) &&& 6148914691236517205)) &&& 3689348814741910323) + ((lushr (x0 - ((lushr x0 1) &&& 6148914691236517205)) 2) &&& 3689348814741910323)) 4)) &&& 1085102592571150095) 8)) + (lushr ((((((x0 - ((lushr x0 1) &&& 6148914691236517205)) &&& 3689348814741910323) + ((lushr (x0 - ((lushr x0 1) &&& 6148914691236517205)) 2) &&& 3689348814741910323)) + (lushr (((x0 - ((lushr x0 1) &&& 6148914691236517205)) &&& 3689348814741910323) + ((lushr (x0 - ((lushr x0 1) &&& 6148914691236517205)) 2) &&& 3689348814741910323)) 4)) &&& 1085102592571150095) + (lushr (((((x0 - ((lushr x0 1) &&& 6148914691236517205)) &&& 3689348814741910323) + ((lushr (x0 - ((lushr x0 1) &&& 6148914691236517205)) 2) &&& 3689348814741910323)) + (lushr (((x0 - ((lushr x0 1) &&& 6148914691236517205)) &&& 3689348814741910323) + ((lushr (x0 - ((lushr x0 1) &&& 6148914691236517205)) 2) &&& 3689348814741910323)) 4)) &&& 1085102592571150095) 8)) 16))) rfl rfl ?_
  refine sg_psh f195_50 (v := .int 32) (by decide) ?_
  refine sg_shl f195_52 rfl ?_
  refine sg_binl f195_53 rfl ?_
  refine sg_st2 f195_54 (ls' := [some (.long ((((((((x0 - ((lushr x0 1) &&& 6148914691236517205)) &&& 3689348814741910323) + ((lushr (x0 - ((lushr x0 1) &&& 6148914691236517205)) 2) &&& 3689348814741910323)) + (lushr (((x0 - ((lushr x0 1) &&& 6148914691236517205)) &&& 3689348814741910323) + ((lushr (x0 - ((lushr x0 1) &&& 6148914691236517205)) 2) &&& 3689348814741910323)) 4)) &&& 1085102592571150095) + (lushr (((((x0 - ((lushr x0 1) &&& 6148914691236517205)) &&& 3689348814741910323) + ((lushr (x0 - ((lushr x0 1) &&& 6148914691236517205)) 2) &&& 3689348814741910323)) + (lushr (((x0 - ((lushr x0 1) &&& 6148914691236517205)) &&& 3689348814741910323) + ((lushr (x0 - ((lushr x0 1) &&& 6148914691236517205)) 2) &&& 3689348814741910323)) 4)) &&& 1085102592571150095) 8)) + (lushr ((((((x0 - ((lushr x0 1) &&& 6148914691236517205)) &&& 3689348814741910323) + ((lushr (x0 - ((lushr x0 1) &&& 6148914691236517205)) 2) &&& 3689348814741910323)) + (lushr (((x0 - ((lushr x0 1) &&& 6148914691236517205)) &&& 3689348814741910323) + ((lushr (x0 - ((lushr x0 1) &&& 6148914691236517205)) 2) &&& 3689348814741910323)) 4)) &&& 1085102592571150095) + (lushr (((((x0 - ((lushr x0 1) &&& 6148914691236517205)) &&& 3689348814741910323) + ((lushr (x0 - ((lushr x0 1) &&& 6148914691236517205)) 2) &&& 3689348814741910323)) + (lushr (((x0 - ((lushr x0 1) &&& 6148914691236517205)) &&& 3689348814741910323) + ((lushr (x0 - ((lushr x0 1) &&& 6148914691236517205)) 2) &&& 3689348814741910323)) 4)) &&& 1085102592571150095) 8)) 16)) + (lushr (((((((x0 - ((lushr x0 1) &&& 6148914691236517205)) &&& 3689348814741910323) + ((lushr (x0 - ((lushr x0 1) &&& 6148914691236517205)) 2) &&& 3689348814741910323)) + (lushr (((x0 - ((lushr x0 1) &&& 6148914691236517205)) &&& 3689348814741910323) + ((lushr (x0 - ((lushr x0 1) &&& 6148914691236517205)) 2) &&& 3689348814741910323)) 4)) &&& 1085102592571150095) + (lushr (((((x0 - ((lushr x0 1) &&& 6148914691236517205)) &&& 3689348814741910323) + ((lushr (x0 - ((lushr x0 1) &&& 6148914691236517205)) 2) &&& 3689348814741910323)) + (lushr (((x0 - ((lushr x0 1) &&& 6148914691236517205)) &&& 3689348814741910323) + ((lushr (x0 - ((lushr x0 1) &&& 6148914691236517205)) 2) &&& 3689348814741910323)) 4)) &&& 1085102592571150095) 8)) + (lushr ((((((x0 - ((lushr x0 1) &&& 6148914691236517205)) &&& 3689348814741910323) + ((lushr (x0 - ((lushr x0 1) &&& 6148914691236517205)) 2) &&& 3689348814741910323)) + (lushr (((x0 - ((lushr x0 1) &&& 6148914691236517205)) &&& 3689348814741910323) + ((lushr (x0 - ((lushr x0 1) &&& 6148914691236517205)) 2) &&& 3689348814741910323)) 4)) &&& 1085102592571150095) + (lushr (((((x0 - ((lushr x0 1) &&& 6148914691236517205)) &&& 3689348814741910323) + ((lushr (x0 - ((lushr x0 1) &&& 6148914691236517205)) 2) &&& 3689348814741910323)) + (lushr (((x0 - ((lushr x0 1) &&& 6148914691236517205)) &&& 3689348814741910323) + ((lushr (x0 - ((lushr x0 1) &&& 6148914691236517205)) 2) &&& 3689348814741910323)) 4)) &&& 1085102592571150095) 8)) 16)) 32))), none]) rfl rfl rfl ?_
  refine sg_ld f195_55 (v := .long ((((((((x0 - ((lushr x0 1) &&& 6148914691236517205)) &&& 3689348814741910323) + ((lushr (x0 - ((lushr x0 1) &&& 6148914691236517205)) 2) &&& 3689348814741910323)) + (lushr (((x0 - ((lushr x0 1) &&& 6148914691236517205)) &&& 3689348814741910323) + ((lushr (x0 - ((lushr x0 1) &&& 6148914691236517205)) 2) &&& 3689348814741910323)) 4)) &&& 1085102592571150095) + (lushr (((((x0 - ((lushr x0 1) &&& 6148914691236517205)) &&& 3689348814741910323) + ((lushr (x0 - ((lushr x0 1) &&& 6148914691236517205)) 2) &&& 3689348814741910323)) + (lushr (((x0 - ((lushr x0 1) &&& 6148914691236517205)) &&& 3689348814741910323) + ((lushr (x0 - ((lushr x0 1) &&& 6148914691236517205)) 2) &&& 3689348814741910323)) 4)) &&& 1085102592571150095) 8)) + (lushr ((((((x0 - ((lushr x0 1) &&& 6148914691236517205)) &&& 3689348814741910323) + ((lushr (x0 - ((lushr x0 1) &&& 6148914691236517205)) 2) &&& 3689348814741910323)) + (lushr (((x0 - ((lushr x0 1) &&& 6148914691236517205)) &&& 3689348814741910323) + ((lushr (x0 - ((lushr x0 1) &&& 6148914691236517205)) 2) &&& 3689348814741910323)) 4)) &&& 1085102592571150095) + (lushr (((((x0 - ((lushr x0 1) &&& 6148914691236517205)) &&& 3689348814741910323) + ((lushr (x0 - ((lushr x0 1) &&& 6148914691236517205)) 2) &&& 3689348814741910323)) + (lushr (((x0 - ((lushr x0 1) &&& 6148914691236517205)) &&& 3689348814741910323) + ((lushr (x0 - ((lushr x0 1) &&& 6148914691236517205)) 2) &&& 3689348814741910323)) 4)) &&& 1085102592571150095) 8)) 16)) + (lushr (((((((x0 - ((lushr x0 1) &&& 6148914691236517205)) &&& 3689348814741910323) + ((lushr (x0 - ((lushr x0 1) &&& 6148914691236517205)) 2) &&& 3689348814741910323)) + (lushr (((x0 - ((lushr x0 1) &&& 6148914691236517205)) &&& 3689348814741910323) + ((lushr (x0 - ((lushr x0 1) &&& 6148914691236517205)) 2) &&& 3689348814741910323)) 4)) &&& 1085102592571150095) + (lushr (((((x0 - ((lushr x0 1) &&& 6148914691236517205)) &&& 3689348814741910323) + ((lushr (x0 - ((lushr x0 1) &&& 6148914691236517205)) 2) &&& 3689348814741910323)) + (lushr (((x0 - ((lushr x0 1) &&& 6148914691236517205)) &&& 3689348814741910323) + ((lushr (x0 - ((lushr x0 1) &&& 6148914691236517205)) 2) &&& 3689348814741910323)) 4)) &&& 1085102592571150095) 8)) + (lushr ((((((x0 - ((lushr x0 1) &&& 6148914691236517205)) &&& 3689348814741910323) + ((lushr (x0 - ((lushr x0 1) &&& 6148914691236517205)) 2) &&& 3689348814741910323)) + (lushr (((x0 - ((lushr x0 1) &&& 6148914691236517205)) &&& 3689348814741910323) + ((lushr (x0 - ((lushr x0 1) &&& 6148914691236517205)) 2) &&& 3689348814741910323)) 4)) &&& 1085102592571150095) + (lushr (((((x0 - ((lushr x0 1) &&& 6148914691236517205)) &&& 3689348814741910323) + ((lushr (x0 - ((lushr x0 1) &&& 6148914691236517205)) 2) &&& 3689348814741910323)) + (lushr (((x0 - ((lushr x0 1) &&& 6148914691236517205)) &&& 3689348814741910323) + ((lushr (x0 - ((lushr x0 1) &&& 6148914691236517205)) 2) &&& 3689348814741910323)) 4)) &&& 1085102592571150095) 8)) 16)) 32))) rfl rfl ?_
  refine sg_l2i f195_56 ?_
  refine sg_psh f195_57 (v := .int 127) (by decide) ?_
  refine sg_bin f195_59 rfl ?_
  exact sg_iret f195_60 pq195 rfl rfl ⟨_, rfl, h⟩

/-! J7_fill_53178 ([II)V -/
theorem fe198 (pc : Nat) : gm_fetch 198 pc = gm_find pc cd_198 := rfl
theorem f198_0 : gm_fetch 198 0 = some (1, .iconst 0, 0, 0, 0, 0) := (fe198 0).trans rfl
theorem f198_1 : gm_fetch 198 1 = some (2, .istore_n 2, 0, 0, 0, 0) := (fe198 1).trans rfl
theorem f198_2 : gm_fetch 198 2 = some (3, .aload_n 0, 0, 0, 0, 0) := (fe198 2).trans rfl
theorem f198_3 : gm_fetch 198 3 = some (4, .arraylength, 0, 0, 0, 0) := (fe198 3).trans rfl
theorem f198_4 : gm_fetch 198 4 = some (5, .istore_n 3, 0, 0, 0, 0) := (fe198 4).trans rfl
theorem f198_5 : gm_fetch 198 5 = some (6, .iload_n 2, 0, 0, 0, 0) := (fe198 5).trans rfl
theorem f198_6 : gm_fetch 198 6 = some (7, .iload_n 3, 0, 0, 0, 0) := (fe198 6).trans rfl
theorem f198_7 : gm_fetch 198 7 = some (10, .if_icmp .ge 13, 0, 20, 0, 0) := (fe198 7).trans rfl
theorem f198_10 : gm_fetch 198 10 = some (11, .aload_n 0, 0, 0, 0, 0) := (fe198 10).trans rfl
theorem f198_11 : gm_fetch 198 11 = some (12, .iload_n 2, 0, 0, 0, 0) := (fe198 11).trans rfl
theorem f198_12 : gm_fetch 198 12 = some (13, .iload_n 1, 0, 0, 0, 0) := (fe198 12).trans rfl
theorem f198_13 : gm_fetch 198 13 = some (14, .iastore, 0, 0, 0, 0) := (fe198 13).trans rfl
theorem f198_14 : gm_fetch 198 14 = some (17, .iinc 2 1, 0, 0, 0, 0) := (fe198 14).trans rfl
theorem f198_17 : gm_fetch 198 17 = some (20, .goto (-12), 0, 5, 0, 0) := (fe198 17).trans rfl
theorem f198_20 : gm_fetch 198 20 = some (21, .return_, 0, 0, 0, 0) := (fe198 20).trans rfl
set_option maxRecDepth 10000 in
theorem rg198_0 {mi : Mi} {ml : Ml} {F : Mi → Ml → Prop} {rx0 : Nat} {nrx0 : Nat} {x1 : Int32} (hrx0 : isI rx0 nrx0) (h : Sg 198 5 [some (.ref rx0), some (.int x1), some (.int 0), some (.int (Int32.ofNat nrx0))] [] mi ml (qv F)) : Sg 198 0 [some (.ref rx0), some (.int x1), none, none] [] mi ml (qv F) := by
  refine sg_psh f198_0 (v := .int 0) (by decide) ?_
  refine sg_st1 f198_1 (ls' := [some (.ref rx0), some (.int x1), some (.int 0), none]) rfl rfl rfl rfl ?_
  refine sg_ld f198_2 (v := .ref rx0) rfl rfl ?_
  refine sg_alen f198_3 hrx0 ?_
  refine sg_st1 f198_4 (ls' := [some (.ref rx0), some (.int x1), some (.int 0), some (.int (Int32.ofNat nrx0))]) rfl rfl rfl rfl ?_
  exact h

set_option maxRecDepth 10000 in
theorem rg198_5 {mi : Mi} {ml : Ml} {F : Mi → Ml → Prop} {rx0 : Nat} {nrx0 : Nat} {x1 : Int32} {x2 : Int32} {x3 : Int32} (hrx0 : isI rx0 nrx0) (h : ((x3 ≤ x2) → F mi ml) ∧ (¬ (x3 ≤ x2) → (vp_in x2 nrx0) ∧ (Sg 198 5 [some (.ref rx0), some (.int x1), some (.int (x2 + 1)), some (.int x3)] [] (va_up mi rx0 (va_up (mi rx0) (Int32.toNatClampNeg x2) x1)) ml (qv F)))) : Sg 198 5 [some (.ref rx0), some (.int x1), some (.int x2), some (.int x3)] [] mi ml (qv F) := by
  refine sg_ld f198_5 (v := .int x2) rfl rfl ?_
  refine sg_ld f198_6 (v := .int x3) rfl rfl ?_
  refine sg_icmp f198_7 (fun c => ?_) (fun c => ?_)
  · have h := h.1 c
    exact sg_ret f198_20 pq198 rfl h
  · have h := h.2 c
    refine sg_ld f198_10 (v := .ref rx0) rfl rfl ?_
    refine sg_ld f198_11 (v := .int x2) rfl rfl ?_
    refine sg_ld f198_12 (v := .int x1) rfl rfl ?_
    obtain ⟨e1, h⟩ := h
    refine sg_iast f198_13 hrx0 e1 ?_
    refine sg_inc f198_14 (d := 1) (ls' := [some (.ref rx0), some (.int x1), some (.int (x2 + 1)), some (.int x3)]) rfl (by decide) rfl ?_
    refine sg_goto f198_17 ?_
    exact h
end
