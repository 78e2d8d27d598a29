theorem pq1 : gm_PT[1]? = some (yX0_resize, cX0_resize, 3, none, 0, 2, 1, 23, 0, 0, cd_1) := rfl
theorem pq2 : gm_PT[2]? = some (yX0_changeWish, cX0_changeWish, 2, none, 0, 1, 0, 0, 0, 0, cd_2) := rfl
theorem pq3 : gm_PT[3]? = some (yX0_changeLength, cX0_changeLength, 2, none, 0, 1, 0, 0, 0, 0, cd_3) := rfl
theorem pq4 : gm_PT[4]? = some (yX0_changeSides, cX0_changeSides, 2, none, 0, 1, 0, 0, 0, 0, cd_4) := rfl
theorem pq5 : gm_PT[5]? = some (yX0_changeRow, cX0_changeRow, 3, none, 0, 2, 0, 0, 0, 0, cd_5) := rfl
theorem pq6 : gm_PT[6]? = some (yX0_hasRow, cX0_hasRow, 2, (some .boolean), 0, 1, 0, 0, 0, 0, cd_6) := rfl
theorem pq7 : gm_PT[7]? = some (yX0_hasCell, cX0_hasCell, 3, (some .boolean), 0, 2, 1, 21, 0, 0, cd_7) := rfl
theorem pq8 : gm_PT[8]? = some (yX0_isAtOpenSide, cX0_isAtOpenSide, 3, (some .boolean), 0, 2, 0, 0, 0, 0, cd_8) := rfl
theorem pq9 : gm_PT[9]? = some (yX0_numberOf, cX0_numberOf, 3, (some .int), 0, 2, 0, 0, 0, 0, cd_9) := rfl
theorem pq10 : gm_PT[10]? = some (yX0_cellCount, cX0_cellCount, 1, (some .int), 0, 0, 0, 0, 0, 0, cd_10) := rfl
theorem pq11 : gm_PT[11]? = some (yX0_faultyCount, cX0_faultyCount, 3, (some .int), 0, 0, 1, 20, 0, 0, cd_11) := rfl
theorem pq13 : gm_PT[13]? = some (yX1_chainCount, cX1_chainCount, 1, (some .int), 1, 0, 4, 88, 0, 0, cd_13) := rfl
theorem pq14 : gm_PT[14]? = some (yX1_stoppingCells, cX1_stoppingCells, 1, (some .long), 1, 0, 4, 88, 0, 0, cd_14) := rfl
theorem pq15 : gm_PT[15]? = some (yX1_refresh, cX1_refresh, 3, none, 1, 0, 3, 66, 0, 0, cd_15) := rfl
theorem pq16 : gm_PT[16]? = some (yX1_takeKinds, cX1_takeKinds, 4, none, 1, 0, 1, 23, 0, 0, cd_16) := rfl
theorem pq17 : gm_PT[17]? = some (yX1_lastNodeOfNewChain, cX1_lastNodeOfNewChain, 3, (some .int), 1, 0, 2, 44, 0, 0, cd_17) := rfl
theorem pq18 : gm_PT[18]? = some (yX1_goOnFromEntry, cX1_goOnFromEntry, 3, none, 1, 1, 1, 22, 0, 0, cd_18) := rfl
theorem pq19 : gm_PT[19]? = some (yX1_goOnFromExit, cX1_goOnFromExit, 3, none, 1, 1, 1, 22, 0, 0, cd_19) := rfl
theorem pq20 : gm_PT[20]? = some (yX1_reach, cX1_reach, 3, none, 1, 2, 0, 0, 0, 0, cd_20) := rfl
theorem pq21 : gm_PT[21]? = some (yX1_addChain, cX1_addChain, 5, none, 1, 1, 0, 0, 0, 0, cd_21) := rfl
theorem pq22 : gm_PT[22]? = some (yX1_cellsNotPassed, cX1_cellsNotPassed, 6, (some .long), 1, 0, 1, 22, 0, 0, cd_22) := rfl
theorem pq23 : gm_PT[23]? = some (yX1_placeOf, cX1_placeOf, 2, (some .int), 1, 2, 0, 0, 0, 0, cd_23) := rfl
theorem pq25 : gm_PT[25]? = some (yX2_become, cX2_become, 2, none, 2, 1, 1, 49, 0, 0, cd_25) := rfl
theorem pq26 : gm_PT[26]? = some (yX2_beginOn, cX2_beginOn, 2, none, 2, 1, 0, 0, 0, 0, cd_26) := rfl
theorem pq27 : gm_PT[27]? = some (yX2_suits, cX2_suits, 2, (some .boolean), 2, 1, 0, 0, 0, 0, cd_27) := rfl
theorem pq28 : gm_PT[28]? = some (yX2_seatOrFirst, cX2_seatOrFirst, 3, (some .int), 2, 2, 0, 0, 0, 0, cd_28) := rfl
theorem pq29 : gm_PT[29]? = some (yX2_brokenOn, cX2_brokenOn, 4, (some .int), 2, 1, 3, 68, 0, 0, cd_29) := rfl
theorem pq30 : gm_PT[30]? = some (yX2_wideGaps, cX2_wideGaps, 4, (some .int), 2, 2, 2, 44, 0, 0, cd_30) := rfl
theorem pq31 : gm_PT[31]? = some (yX2_farTasks, cX2_farTasks, 5, (some .int), 2, 3, 2, 44, 0, 0, cd_31) := rfl
theorem pq33 : gm_PT[33]? = some (yX3_refresh, cX3_refresh, 1, none, 3, 0, 3, 74, 0, 0, cd_33) := rfl
theorem pq34 : gm_PT[34]? = some (yX3_canPlaceBy, cX3_canPlaceBy, 4, (some .boolean), 3, 2, 2, 51, 0, 0, cd_34) := rfl
theorem pq35 : gm_PT[35]? = some (yX3_canPlace, cX3_canPlace, 7, (some .boolean), 3, 4, 1, 25, 0, 0, cd_35) := rfl
theorem pq36 : gm_PT[36]? = some (yX3_isWhole, cX3_isWhole, 1, (some .boolean), 3, 0, 4, 94, 0, 0, cd_36) := rfl
theorem pq37 : gm_PT[37]? = some (yX3_seatsOfRow, cX3_seatsOfRow, 2, (some .int), 3, 1, 4, 94, 0, 0, cd_37) := rfl
theorem pq38 : gm_PT[38]? = some (yX3_seatsOfAllRows, cX3_seatsOfAllRows, 3, (some .int), 3, 0, 4, 94, 0, 0, cd_38) := rfl
theorem pq39 : gm_PT[39]? = some (yX3_firstRowOfWitness, cX3_firstRowOfWitness, 1, (some .int), 3, 0, 4, 96, 0, 0, cd_39) := rfl
theorem pq40 : gm_PT[40]? = some (yX3_lastRowOfWitness, cX3_lastRowOfWitness, 1, (some .int), 3, 0, 4, 96, 0, 0, cd_40) := rfl
theorem pq41 : gm_PT[41]? = some (yX3_coreOfRow, cX3_coreOfRow, 2, (some .int), 3, 1, 4, 96, 0, 0, cd_41) := rfl
theorem pq42 : gm_PT[42]? = some (yX3_criticalOfRow, cX3_criticalOfRow, 2, (some .int), 3, 1, 4, 96, 0, 0, cd_42) := rfl
theorem pq43 : gm_PT[43]? = some (yX3_refreshMarks, cX3_refreshMarks, 1, none, 3, 0, 3, 76, 0, 0, cd_43) := rfl
theorem pq44 : gm_PT[44]? = some (yX3_markCritical, cX3_markCritical, 3, none, 3, 0, 1, 25, 0, 0, cd_44) := rfl
theorem pq45 : gm_PT[45]? = some (yX3_markWitness, cX3_markWitness, 3, none, 3, 0, 2, 51, 0, 0, cd_45) := rfl
theorem pq46 : gm_PT[46]? = some (yX3_markCore, cX3_markCore, 6, none, 3, 0, 2, 51, 0, 0, cd_46) := rfl
theorem pq47 : gm_PT[47]? = some (yX3_leastLength, cX3_leastLength, 2, (some .int), 3, 0, 3, 74, 0, 0, cd_47) := rfl
theorem pq48 : gm_PT[48]? = some (yX3_greatestWish, cX3_greatestWish, 2, (some .int), 3, 0, 3, 74, 0, 0, cd_48) := rfl
theorem pq49 : gm_PT[49]? = some (yX3_fewestMoves, cX3_fewestMoves, 3, (some .int), 3, 1, 4, 94, 0, 0, cd_49) := rfl
theorem pq50 : gm_PT[50]? = some (yX3_addMovesOfRow, cX3_addMovesOfRow, 4, none, 3, 2, 2, 49, 0, 0, cd_50) := rfl
theorem pq51 : gm_PT[51]? = some (yX3_movesTo, cX3_movesTo, 4, (some .int), 3, 1, 1, 22, 0, 0, cd_51) := rfl
theorem pq52 : gm_PT[52]? = some (yX3_fewestBelow, cX3_fewestBelow, 4, (some .int), 3, 2, 1, 26, 0, 0, cd_52) := rfl
theorem pq53 : gm_PT[53]? = some (yX3_cheapest, cX3_cheapest, 7, (some .int), 3, 2, 0, 0, 0, 0, cd_53) := rfl
theorem pq54 : gm_PT[54]? = some (yX3_layFewest, cX3_layFewest, 7, none, 3, 1, 1, 26, 0, 0, cd_54) := rfl
theorem pq56 : gm_PT[56]? = some (yX4_prepare, cX4_prepare, 5, none, 4, 3, 2, 46, 0, 0, cd_56) := rfl
theorem pq57 : gm_PT[57]? = some (yX4_addUnlessWide, cX4_addUnlessWide, 5, none, 4, 1, 1, 21, 0, 0, cd_57) := rfl
theorem pq58 : gm_PT[58]? = some (yX4_joinSeats, cX4_joinSeats, 3, none, 4, 0, 1, 24, 0, 0, cd_58) := rfl
theorem pq59 : gm_PT[59]? = some (yX4_areNear, cX4_areNear, 5, (some .boolean), 4, 2, 0, 0, 0, 0, cd_59) := rfl
theorem pq60 : gm_PT[60]? = some (yX4_columnAt, cX4_columnAt, 3, (some .int), 4, 2, 0, 0, 0, 0, cd_60) := rfl
theorem pq61 : gm_PT[61]? = some (yX4_seatsFitting, cX4_seatsFitting, 2, (some .long), 4, 1, 0, 0, 0, 0, cd_61) := rfl
theorem pq62 : gm_PT[62]? = some (yX4_seatsWithout, cX4_seatsWithout, 5, (some .long), 4, 1, 0, 0, 0, 0, cd_62) := rfl
theorem pq63 : gm_PT[63]? = some (yX4_seatsFittingAny, cX4_seatsFittingAny, 6, (some .long), 4, 1, 0, 0, 0, 0, cd_63) := rfl
theorem pq64 : gm_PT[64]? = some (yX4_columnsOfAll, cX4_columnsOfAll, 5, (some .int), 4, 1, 0, 0, 0, 0, cd_64) := rfl
theorem pq66 : gm_PT[66]? = some (yX5_begin, cX5_begin, 3, none, 5, 2, 1, 23, 0, 0, cd_66) := rfl
theorem pq67 : gm_PT[67]? = some (yX5_findingAt, cX5_findingAt, 3, (some .int), 5, 2, 0, 0, 0, 0, cd_67) := rfl
theorem pq68 : gm_PT[68]? = some (yX5_hasItems, cX5_hasItems, 3, (some .boolean), 5, 2, 0, 0, 0, 0, cd_68) := rfl
theorem pq69 : gm_PT[69]? = some (yX5_put, cX5_put, 3, none, 5, 2, 0, 0, 0, 0, cd_69) := rfl
theorem pq71 : gm_PT[71]? = some (yX6_grid, cX6_grid, 3, (some .int), 6, 2, 2, 45, 0, 0, cd_71) := rfl
theorem pq72 : gm_PT[72]? = some (yX6_wish, cX6_wish, 3, (some .int), 6, 1, 1, 21, 0, 0, cd_72) := rfl
theorem pq73 : gm_PT[73]? = some (yX6_length, cX6_length, 3, (some .int), 6, 1, 1, 21, 0, 0, cd_73) := rfl
theorem pq74 : gm_PT[74]? = some (yX6_sides, cX6_sides, 3, (some .int), 6, 1, 1, 21, 0, 0, cd_74) := rfl
theorem pq75 : gm_PT[75]? = some (yX6_fault, cX6_fault, 3, (some .int), 6, 2, 2, 43, 0, 0, cd_75) := rfl
theorem pq76 : gm_PT[76]? = some (yX6_lots, cX6_lots, 7, (some .int), 6, 2, 2, 42, 0, 0, cd_76) := rfl
theorem pq77 : gm_PT[77]? = some (yX6_read, cX6_read, 7, (some .int), 6, 2, 1, 22, 0, 0, cd_77) := rfl
theorem pq78 : gm_PT[78]? = some (yX6_cell, cX6_cell, 4, (some .int), 6, 3, 5, 117, 0, 0, cd_78) := rfl
theorem pq79 : gm_PT[79]? = some (yX6_whole, cX6_whole, 1, (some .int), 6, 0, 5, 114, 0, 0, cd_79) := rfl
theorem pq80 : gm_PT[80]? = some (yX6_mend, cX6_mend, 2, (some .int), 6, 0, 5, 116, 0, 0, cd_80) := rfl
theorem pq81 : gm_PT[81]? = some (yX6_moves, cX6_moves, 1, (some .int), 6, 0, 5, 116, 0, 0, cd_81) := rfl
theorem pq82 : gm_PT[82]? = some (yX6_seat, cX6_seat, 4, (some .int), 6, 2, 3, 68, 0, 0, cd_82) := rfl
theorem pq83 : gm_PT[83]? = some (yX6_column, cX6_column, 3, (some .int), 6, 2, 2, 44, 0, 0, cd_83) := rfl
theorem pq84 : gm_PT[84]? = some (yX6_seats, cX6_seats, 2, (some .int), 6, 1, 5, 115, 0, 0, cd_84) := rfl
theorem pq85 : gm_PT[85]? = some (yX6_broken, cX6_broken, 1, (some .int), 6, 0, 4, 91, 0, 0, cd_85) := rfl
theorem pq86 : gm_PT[86]? = some (yX6_witness, cX6_witness, 2, (some .int), 6, 1, 5, 116, 0, 0, cd_86) := rfl
theorem pq87 : gm_PT[87]? = some (yX6_core, cX6_core, 3, (some .int), 6, 0, 5, 117, 0, 0, cd_87) := rfl
theorem pq88 : gm_PT[88]? = some (yX6_critical, cX6_critical, 3, (some .int), 6, 0, 5, 117, 0, 0, cd_88) := rfl
theorem pq89 : gm_PT[89]? = some (yX6_least, cX6_least, 2, (some .int), 6, 1, 4, 95, 0, 0, cd_89) := rfl
theorem pq90 : gm_PT[90]? = some (yX6_chains, cX6_chains, 1, (some .int), 6, 0, 5, 108, 0, 0, cd_90) := rfl
theorem pq91 : gm_PT[91]? = some (yX6_cut, cX6_cut, 1, (some .long), 6, 0, 5, 108, 0, 0, cd_91) := rfl
theorem pq92 : gm_PT[92]? = some (yX6_keep, cX6_keep, 3, (some .int), 6, 1, 2, 70, 0, 0, cd_92) := rfl
theorem pq93 : gm_PT[93]? = some (yX6_go, cX6_go, 3, (some .int), 6, 1, 4, 91, 0, 0, cd_93) := rfl
theorem pq94 : gm_PT[94]? = some (yX6_differ, cX6_differ, 5, (some .int), 6, 1, 3, 68, 0, 0, cd_94) := rfl
theorem pq95 : gm_PT[95]? = some (yX6_drop, cX6_drop, 3, (some .int), 6, 1, 1, 22, 0, 0, cd_95) := rfl
theorem pq96 : gm_PT[96]? = some (yX6_sheet, cX6_sheet, 5, (some .int), 6, 3, 2, 45, 0, 0, cd_96) := rfl
theorem pq97 : gm_PT[97]? = some (yX6_lose, cX6_lose, 3, (some .int), 6, 1, 1, 21, 0, 0, cd_97) := rfl
theorem pq98 : gm_PT[98]? = some (yX6_lay, cX6_lay, 7, (some .int), 6, 4, 1, 22, 0, 0, cd_98) := rfl
theorem pq99 : gm_PT[99]? = some (yX6_get, cX6_get, 6, (some .int), 6, 3, 1, 22, 0, 0, cd_99) := rfl
theorem pq100 : gm_PT[100]? = some (yX6_copy, cX6_copy, 8, (some .int), 6, 5, 1, 49, 0, 0, cd_100) := rfl
theorem pq101 : gm_PT[101]? = some (yX6_write, cX6_write, 6, (some .int), 6, 2, 2, 44, 0, 0, cd_101) := rfl
theorem pq102 : gm_PT[102]? = some (yX6_count, cX6_count, 2, (some .int), 6, 1, 5, 116, 0, 0, cd_102) := rfl
theorem pq103 : gm_PT[103]? = some (yX6_digest, cX6_digest, 6, (some .long), 6, 0, 6, 140, 0, 0, cd_103) := rfl
theorem pq104 : gm_PT[104]? = some (yX6_found, cX6_found, 2, (some .int), 6, 1, 0, 0, 0, 0, cd_104) := rfl
theorem pq105 : gm_PT[105]? = some (yX6_slotAt, cX6_slotAt, 2, (some (.object "GridMender$Laying")), 6, 1, 0, 0, 0, 0, cd_105) := rfl
theorem pq106 : gm_PT[106]? = some (yX6_sheetAt, cX6_sheetAt, 2, (some (.object "GridMender$Sheet")), 6, 1, 0, 0, 0, 0, cd_106) := rfl
theorem pq107 : gm_PT[107]? = some (yX6_filledSlots, cX6_filledSlots, 3, (some .int), 6, 0, 0, 0, 0, 0, cd_107) := rfl
theorem pq108 : gm_PT[108]? = some (yX6_isForm, cX6_isForm, 1, (some .boolean), 6, 1, 0, 0, 0, 0, cd_108) := rfl
theorem pq109 : gm_PT[109]? = some (yX6_bitOf, cX6_bitOf, 2, (some .int), 6, 2, 0, 0, 0, 0, cd_109) := rfl
theorem pq110 : gm_PT[110]? = some (yX6_columnOf, cX6_columnOf, 4, (some .int), 6, 2, 1, 21, 0, 0, cd_110) := rfl
theorem pq111 : gm_PT[111]? = some (yX6_taskAt, cX6_taskAt, 2, (some .int), 6, 2, 1, 21, 0, 0, cd_111) := rfl
theorem pq112 : gm_PT[112]? = some (yX6_tasksMoved, cX6_tasksMoved, 5, (some .int), 6, 3, 2, 44, 0, 0, cd_112) := rfl
theorem pq114 : gm_PT[114]? = some (yX7_in, cX7_in, 6, (some .boolean), 7, 3, 0, 0, 0, 0, cd_114) := rfl
theorem pq115 : gm_PT[115]? = some (yX7_isTwo, cX7_isTwo, 1, (some .boolean), 7, 1, 1, 25, 0, 0, cd_115) := rfl
theorem pq116 : gm_PT[116]? = some (yX7_isIn, cX7_isIn, 3, (some .boolean), 7, 2, 0, 0, 0, 0, cd_116) := rfl
theorem pq117 : gm_PT[117]? = some (yX7_lesser, cX7_lesser, 2, (some .int), 7, 2, 0, 0, 0, 0, cd_117) := rfl
theorem pq118 : gm_PT[118]? = some (yX7_away, cX7_away, 1, (some .int), 7, 1, 0, 0, 0, 0, cd_118) := rfl
theorem pq119 : gm_PT[119]? = some (yX7_size, cX7_size, 4, (some .int), 7, 1, 1, 22, 0, 0, cd_119) := rfl
theorem pq120 : gm_PT[120]? = some (yX7_finding, cX7_finding, 2, (some .int), 7, 1, 0, 0, 0, 0, cd_120) := rfl
theorem pq121 : gm_PT[121]? = some (yX7_isSheet, cX7_isSheet, 1, (some .boolean), 7, 1, 1, 25, 0, 0, cd_121) := rfl
theorem pq122 : gm_PT[122]? = some (yX7_sheet, cX7_sheet, 5, (some .int), 7, 3, 2, 45, 0, 0, cd_122) := rfl
theorem pq123 : gm_PT[123]? = some (yX7_lose, cX7_lose, 2, (some .int), 7, 1, 2, 45, 0, 0, cd_123) := rfl
theorem pq124 : gm_PT[124]? = some (yX7_lacks, cX7_lacks, 4, (some .int), 7, 3, 1, 25, 0, 0, cd_124) := rfl
theorem pq125 : gm_PT[125]? = some (yX7_cutTo, cX7_cutTo, 2, (some .int), 7, 2, 0, 0, 0, 0, cd_125) := rfl
theorem pq126 : gm_PT[126]? = some (yX7_lay, cX7_lay, 6, (some .int), 7, 4, 2, 48, 0, 0, cd_126) := rfl
theorem pq127 : gm_PT[127]? = some (yX7_get, cX7_get, 4, (some .int), 7, 3, 2, 48, 0, 0, cd_127) := rfl
theorem pq128 : gm_PT[128]? = some (yX7_copy, cX7_copy, 7, (some .int), 7, 5, 2, 45, 0, 0, cd_128) := rfl
theorem pq129 : gm_PT[129]? = some (yX7_isRow, cX7_isRow, 2, (some .boolean), 7, 1, 1, 25, 0, 0, cd_129) := rfl
theorem pq130 : gm_PT[130]? = some (yX7_isCell, cX7_isCell, 3, (some .boolean), 7, 2, 2, 46, 0, 0, cd_130) := rfl
theorem pq131 : gm_PT[131]? = some (yX7_faulty, cX7_faulty, 3, (some .int), 7, 0, 2, 45, 0, 0, cd_131) := rfl
theorem pq132 : gm_PT[132]? = some (yX7_grid, cX7_grid, 4, (some .int), 7, 2, 1, 25, 0, 0, cd_132) := rfl
theorem pq133 : gm_PT[133]? = some (yX7_wish, cX7_wish, 3, (some .int), 7, 1, 1, 25, 0, 0, cd_133) := rfl
theorem pq134 : gm_PT[134]? = some (yX7_length, cX7_length, 3, (some .int), 7, 1, 1, 25, 0, 0, cd_134) := rfl
theorem pq135 : gm_PT[135]? = some (yX7_sides, cX7_sides, 3, (some .int), 7, 1, 1, 25, 0, 0, cd_135) := rfl
theorem pq136 : gm_PT[136]? = some (yX7_fault, cX7_fault, 3, (some .int), 7, 2, 3, 68, 0, 0, cd_136) := rfl
theorem pq137 : gm_PT[137]? = some (yX7_becomes, cX7_becomes, 4, none, 7, 3, 0, 0, 0, 0, cd_137) := rfl
theorem pq138 : gm_PT[138]? = some (yX7_lots, cX7_lots, 5, (some .int), 7, 2, 3, 67, 0, 0, cd_138) := rfl
theorem pq139 : gm_PT[139]? = some (yX7_read, cX7_read, 5, (some .int), 7, 2, 2, 46, 0, 0, cd_139) := rfl
theorem pq140 : gm_PT[140]? = some (yX7_columnOf, cX7_columnOf, 4, (some .int), 7, 2, 1, 22, 0, 0, cd_140) := rfl
theorem pq141 : gm_PT[141]? = some (yX7_seatsOf, cX7_seatsOf, 7, none, 7, 2, 2, 45, 0, 0, cd_141) := rfl
theorem pq142 : gm_PT[142]? = some (yX7_seatsNow, cX7_seatsNow, 1, none, 7, 0, 3, 71, 0, 0, cd_142) := rfl
theorem pq143 : gm_PT[143]? = some (yX7_fits, cX7_fits, 3, (some .boolean), 7, 2, 0, 0, 0, 0, cd_143) := rfl
theorem pq144 : gm_PT[144]? = some (yX7_isWhole, cX7_isWhole, 8, (some .boolean), 7, 2, 1, 22, 0, 0, cd_144) := rfl
theorem pq145 : gm_PT[145]? = some (yX7_isWholeNow, cX7_isWholeNow, 1, (some .boolean), 7, 0, 2, 49, 0, 0, cd_145) := rfl
theorem pq146 : gm_PT[146]? = some (yX7_whole, cX7_whole, 1, (some .int), 7, 0, 4, 91, 0, 0, cd_146) := rfl
theorem pq147 : gm_PT[147]? = some (yX7_columnNow, cX7_columnNow, 3, (some .int), 7, 2, 2, 45, 0, 0, cd_147) := rfl
theorem pq148 : gm_PT[148]? = some (yX7_movesTo, cX7_movesTo, 5, (some .int), 7, 2, 3, 67, 0, 0, cd_148) := rfl
theorem pq149 : gm_PT[149]? = some (yX7_fewest, cX7_fewest, 6, (some .int), 7, 0, 4, 91, 0, 0, cd_149) := rfl
theorem pq150 : gm_PT[150]? = some (yX7_chooses, cX7_chooses, 7, none, 7, 1, 4, 91, 0, 0, cd_150) := rfl
theorem pq151 : gm_PT[151]? = some (yX7_mend, cX7_mend, 3, (some .int), 7, 0, 5, 117, 0, 0, cd_151) := rfl
theorem pq152 : gm_PT[152]? = some (yX7_movesNow, cX7_movesNow, 2, (some .int), 7, 0, 5, 116, 0, 0, cd_152) := rfl
theorem pq153 : gm_PT[153]? = some (yX7_moves, cX7_moves, 1, (some .int), 7, 0, 6, 137, 0, 0, cd_153) := rfl
theorem pq154 : gm_PT[154]? = some (yX7_seat, cX7_seat, 4, (some .int), 7, 2, 4, 91, 0, 0, cd_154) := rfl
theorem pq155 : gm_PT[155]? = some (yX7_columnBy, cX7_columnBy, 3, (some .int), 7, 2, 2, 45, 0, 0, cd_155) := rfl
theorem pq156 : gm_PT[156]? = some (yX7_column, cX7_column, 3, (some .int), 7, 2, 3, 67, 0, 0, cd_156) := rfl
theorem pq157 : gm_PT[157]? = some (yX7_seatsBy, cX7_seatsBy, 4, (some .int), 7, 1, 1, 22, 0, 0, cd_157) := rfl
theorem pq158 : gm_PT[158]? = some (yX7_seats, cX7_seats, 2, (some .int), 7, 1, 4, 91, 0, 0, cd_158) := rfl
theorem pq159 : gm_PT[159]? = some (yX7_brokenNow, cX7_brokenNow, 5, (some .int), 7, 0, 2, 45, 0, 0, cd_159) := rfl
theorem pq160 : gm_PT[160]? = some (yX7_broken, cX7_broken, 1, (some .int), 7, 0, 3, 69, 0, 0, cd_160) := rfl
theorem pq161 : gm_PT[161]? = some (yX7_witnessBy, cX7_witnessBy, 4, (some .int), 7, 1, 2, 49, 0, 0, cd_161) := rfl
theorem pq162 : gm_PT[162]? = some (yX7_witness, cX7_witness, 2, (some .int), 7, 1, 4, 91, 0, 0, cd_162) := rfl
theorem pq163 : gm_PT[163]? = some (yX7_coreNow, cX7_coreNow, 9, (some .long), 7, 0, 3, 69, 0, 0, cd_163) := rfl
theorem pq164 : gm_PT[164]? = some (yX7_criticalNow, cX7_criticalNow, 6, (some .long), 7, 0, 3, 69, 0, 0, cd_164) := rfl
theorem pq165 : gm_PT[165]? = some (yX7_core, cX7_core, 1, (some .int), 7, 0, 4, 97, 0, 0, cd_165) := rfl
theorem pq166 : gm_PT[166]? = some (yX7_critical, cX7_critical, 1, (some .int), 7, 0, 4, 94, 0, 0, cd_166) := rfl
theorem pq167 : gm_PT[167]? = some (yX7_leastBy, cX7_leastBy, 5, (some .int), 7, 1, 4, 91, 0, 0, cd_167) := rfl
theorem pq168 : gm_PT[168]? = some (yX7_least, cX7_least, 2, (some .int), 7, 1, 5, 115, 0, 0, cd_168) := rfl
theorem pq169 : gm_PT[169]? = some (yX7_isOut, cX7_isOut, 4, (some .boolean), 7, 1, 1, 22, 0, 0, cd_169) := rfl
theorem pq170 : gm_PT[170]? = some (yX7_isBad, cX7_isBad, 2, (some .boolean), 7, 1, 1, 22, 0, 0, cd_170) := rfl
theorem pq171 : gm_PT[171]? = some (yX7_beside, cX7_beside, 5, (some .int), 7, 2, 3, 68, 0, 0, cd_171) := rfl
theorem pq172 : gm_PT[172]? = some (yX7_reaches, cX7_reaches, 3, none, 7, 2, 0, 0, 0, 0, cd_172) := rfl
theorem pq173 : gm_PT[173]? = some (yX7_goesOn, cX7_goesOn, 5, none, 7, 1, 4, 92, 0, 0, cd_173) := rfl
theorem pq174 : gm_PT[174]? = some (yX7_finds, cX7_finds, 3, (some .int), 7, 0, 5, 116, 0, 0, cd_174) := rfl
theorem pq175 : gm_PT[175]? = some (yX7_turns, cX7_turns, 6, none, 7, 2, 4, 92, 0, 0, cd_175) := rfl
theorem pq176 : gm_PT[176]? = some (yX7_chainsNow, cX7_chainsNow, 6, (some .int), 7, 0, 6, 138, 0, 0, cd_176) := rfl
theorem pq177 : gm_PT[177]? = some (yX7_chains, cX7_chains, 1, (some .int), 7, 0, 7, 163, 0, 0, cd_177) := rfl
theorem pq178 : gm_PT[178]? = some (yX7_cutNow, cX7_cutNow, 4, (some .long), 7, 0, 7, 163, 0, 0, cd_178) := rfl
theorem pq179 : gm_PT[179]? = some (yX7_cut, cX7_cut, 1, (some .long), 7, 0, 8, 186, 0, 0, cd_179) := rfl
theorem pq180 : gm_PT[180]? = some (yX7_taskAt, cX7_taskAt, 4, (some .int), 7, 2, 2, 45, 0, 0, cd_180) := rfl
theorem pq181 : gm_PT[181]? = some (yX7_cellBy, cX7_cellBy, 5, (some .int), 7, 3, 3, 68, 0, 0, cd_181) := rfl
theorem pq182 : gm_PT[182]? = some (yX7_cell, cX7_cell, 6, (some .int), 7, 3, 8, 186, 0, 0, cd_182) := rfl
theorem pq183 : gm_PT[183]? = some (yX7_isSlot, cX7_isSlot, 1, (some .boolean), 7, 1, 1, 25, 0, 0, cd_183) := rfl
theorem pq184 : gm_PT[184]? = some (yX7_keep, cX7_keep, 3, (some .int), 7, 1, 2, 45, 0, 0, cd_184) := rfl
theorem pq185 : gm_PT[185]? = some (yX7_lacksSlot, cX7_lacksSlot, 2, (some .int), 7, 1, 2, 45, 0, 0, cd_185) := rfl
theorem pq186 : gm_PT[186]? = some (yX7_go, cX7_go, 4, (some .int), 7, 1, 3, 69, 0, 0, cd_186) := rfl
theorem pq187 : gm_PT[187]? = some (yX7_differ, cX7_differ, 5, (some .int), 7, 1, 4, 91, 0, 0, cd_187) := rfl
theorem pq188 : gm_PT[188]? = some (yX7_drop, cX7_drop, 2, (some .int), 7, 1, 2, 45, 0, 0, cd_188) := rfl
theorem pq189 : gm_PT[189]? = some (yX7_write, cX7_write, 5, (some .int), 7, 2, 2, 46, 0, 0, cd_189) := rfl
theorem pq190 : gm_PT[190]? = some (yX7_countBy, cX7_countBy, 2, (some .int), 7, 1, 7, 163, 0, 0, cd_190) := rfl
theorem pq191 : gm_PT[191]? = some (yX7_allSeats, cX7_allSeats, 3, (some .int), 7, 0, 2, 45, 0, 0, cd_191) := rfl
theorem pq192 : gm_PT[192]? = some (yX7_count, cX7_count, 2, (some .int), 7, 1, 8, 184, 0, 0, cd_192) := rfl
theorem pq193 : gm_PT[193]? = some (yX7_digest, cX7_digest, 11, (some .long), 7, 0, 8, 186, 0, 0, cd_193) := rfl
theorem pq194 : gm_PT[194]? = some (yJ6_bitCount_0f7a4, cJ6_bitCount_0f7a4, 1, (some .int), 8, 1, 0, 0, 0, 0, cd_194) := rfl
theorem pq195 : gm_PT[195]? = some (yJ13_bitCount_95d88, cJ13_bitCount_95d88, 2, (some .int), 9, 1, 0, 0, 0, 0, cd_195) := rfl
theorem pq198 : gm_PT[198]? = some (yJ7_fill_53178, cJ7_fill_53178, 4, none, 11, 2, 0, 0, 0, 0, cd_198) := rfl
