/-! what the tables say of fields, calls, constants: a row each -/
theorem zi_0 : zIn (.selects yX3_clear.cls yX3_clear yX3_clear) := zin_at 0 (by decide +kernel) (by decide +kernel)
theorem zi_1 : zIn (.selects yX6_append.cls yX6_append yX6_append) := zin_at 1 (by decide +kernel) (by decide +kernel)
theorem zi_2 : zIn (.selects yX5_count.cls yX5_count yX5_count) := zin_at 2 (by decide +kernel) (by decide +kernel)
theorem zi_3 : zIn (.selects yX3_keptBy.cls yX3_keptBy yX3_keptBy) := zin_at 3 (by decide +kernel) (by decide +kernel)
theorem zi_4 : zIn (.selects yX3_keepsAt.cls yX3_keepsAt yX3_keepsAt) := zin_at 4 (by decide +kernel) (by decide +kernel)
theorem zi_5 : zIn (.selects yX3_numberAhead.cls yX3_numberAhead yX3_numberAhead) := zin_at 5 (by decide +kernel) (by decide +kernel)
theorem zi_6 : zIn (.selects yX5_smallestFree.cls yX5_smallestFree yX5_smallestFree) := zin_at 6 (by decide +kernel) (by decide +kernel)
theorem zi_7 : zIn (.selects yX3_copyFrom.cls yX3_copyFrom yX3_copyFrom) := zin_at 7 (by decide +kernel) (by decide +kernel)
theorem zi_8 : zIn (.selects yX7_tryWave.cls yX7_tryWave yX7_tryWave) := zin_at 8 (by decide +kernel) (by decide +kernel)
theorem zi_9 : zIn (.selects yX3_keeperWouldMove.cls yX3_keeperWouldMove yX3_keeperWouldMove) := zin_at 9 (by decide +kernel) (by decide +kernel)
theorem zi_10 : zIn (.selects yX3_doWave.cls yX3_doWave yX3_doWave) := zin_at 10 (by decide +kernel) (by decide +kernel)
theorem zi_11 : zIn (.selects yX3_sideBehindWave.cls yX3_sideBehindWave yX3_sideBehindWave) := zin_at 11 (by decide +kernel) (by decide +kernel)
theorem zi_12 : zIn (.selects yX3_numberedInNet.cls yX3_numberedInNet yX3_numberedInNet) := zin_at 12 (by decide +kernel) (by decide +kernel)
theorem zi_13 : zIn (.selects yX3_inNet.cls yX3_inNet yX3_inNet) := zin_at 13 (by decide +kernel) (by decide +kernel)
theorem zi_14 : zIn (.selects yX3_setPlan.cls yX3_setPlan yX3_setPlan) := zin_at 14 (by decide +kernel) (by decide +kernel)
theorem zi_15 : zIn (.selects yX7_heldTwice.cls yX7_heldTwice yX7_heldTwice) := zin_at 15 (by decide +kernel) (by decide +kernel)
theorem zi_16 : zIn (.selects yX5_smallestTwice.cls yX5_smallestTwice yX5_smallestTwice) := zin_at 16 (by decide +kernel) (by decide +kernel)
theorem zi_17 : zIn (.selects yX5_isClash.cls yX5_isClash yX5_isClash) := zin_at 17 (by decide +kernel) (by decide +kernel)
theorem zi_18 : zIn (.selects yX3_sidesUnlike.cls yX3_sidesUnlike yX3_sidesUnlike) := zin_at 18 (by decide +kernel) (by decide +kernel)
theorem zi_19 : zIn (.selects yX7_clashCount.cls yX7_clashCount yX7_clashCount) := zin_at 19 (by decide +kernel) (by decide +kernel)
theorem zi_20 : zIn (.selects yX5_clashes.cls yX5_clashes yX5_clashes) := zin_at 20 (by decide +kernel) (by decide +kernel)
theorem zi_21 : zIn (.selects yX3_movedCount.cls yX3_movedCount yX3_movedCount) := zin_at 21 (by decide +kernel) (by decide +kernel)
theorem zi_22 : zIn (.selects yX3_reachOf.cls yX3_reachOf yX3_reachOf) := zin_at 22 (by decide +kernel) (by decide +kernel)
theorem zi_23 : zIn (.selects yX3_firstRule.cls yX3_firstRule yX3_firstRule) := zin_at 23 (by decide +kernel) (by decide +kernel)
theorem zi_24 : zIn (.selects yX3_isAllowing.cls yX3_isAllowing yX3_isAllowing) := zin_at 24 (by decide +kernel) (by decide +kernel)
theorem zi_25 : zIn (.selects yX0_add.cls yX0_add yX0_add) := zin_at 25 (by decide +kernel) (by decide +kernel)
theorem zi_26 : zIn (.selects yX3_chosenToMove.cls yX3_chosenToMove yX3_chosenToMove) := zin_at 26 (by decide +kernel) (by decide +kernel)
theorem zi_27 : zIn (.selects yX3_movableWith.cls yX3_movableWith yX3_movableWith) := zin_at 27 (by decide +kernel) (by decide +kernel)
theorem zi_28 : zIn (.selects yX3_firstWaveWithRoom.cls yX3_firstWaveWithRoom yX3_firstWaveWithRoom) := zin_at 28 (by decide +kernel) (by decide +kernel)
theorem zi_29 : zIn (.selects yX3_plansIn.cls yX3_plansIn yX3_plansIn) := zin_at 29 (by decide +kernel) (by decide +kernel)
theorem zi_30 : zIn (.selects yX5_countPlan.cls yX5_countPlan yX5_countPlan) := zin_at 30 (by decide +kernel) (by decide +kernel)
theorem zi_31 : zIn (.selects yX7_adoptTrial.cls yX7_adoptTrial yX7_adoptTrial) := zin_at 31 (by decide +kernel) (by decide +kernel)
theorem zi_32 : zIn (.selects yX3_undoWave.cls yX3_undoWave yX3_undoWave) := zin_at 32 (by decide +kernel) (by decide +kernel)
theorem zi_33 : zIn (.selects yX3_sideAheadOfWave.cls yX3_sideAheadOfWave yX3_sideAheadOfWave) := zin_at 33 (by decide +kernel) (by decide +kernel)
theorem zi_34 : zIn (.selects yX3_undoMove.cls yX3_undoMove yX3_undoMove) := zin_at 34 (by decide +kernel) (by decide +kernel)
theorem zi_35 : zIn (.selects yX3_hostsOfOffice.cls yX3_hostsOfOffice yX3_hostsOfOffice) := zin_at 35 (by decide +kernel) (by decide +kernel)
theorem zi_36 : zIn (.selects yX1_byteAt.cls yX1_byteAt yX1_byteAt) := zin_at 36 (by decide +kernel) (by decide +kernel)
theorem zi_37 : zIn (.selects yX0_takeNewest.cls yX0_takeNewest yX0_takeNewest) := zin_at 37 (by decide +kernel) (by decide +kernel)
theorem zi_38 : zIn (.selects yX0_clear.cls yX0_clear yX0_clear) := zin_at 38 (by decide +kernel) (by decide +kernel)
theorem zi_40 : zIn (.selects yX6_begin.cls yX6_begin yX6_begin) := zin_at 40 (by decide +kernel) (by decide +kernel)
theorem zi_41 : zIn (.selects yX6_advance.cls yX6_advance yX6_advance) := zin_at 41 (by decide +kernel) (by decide +kernel)
theorem zi_42 : zIn (.selects yX2_readText.cls yX2_readText yX2_readText) := zin_at 42 (by decide +kernel) (by decide +kernel)
theorem zi_43 : zIn (.selects yX2_readHead.cls yX2_readHead yX2_readHead) := zin_at 43 (by decide +kernel) (by decide +kernel)
theorem zi_44 : zIn (.selects yX2_takeWord.cls yX2_takeWord yX2_takeWord) := zin_at 44 (by decide +kernel) (by decide +kernel)
theorem zi_45 : zIn (.selects yX6_isWord.cls yX6_isWord yX6_isWord) := zin_at 45 (by decide +kernel) (by decide +kernel)
theorem zi_46 : zIn (.selects yX2_fail.cls yX2_fail yX2_fail) := zin_at 46 (by decide +kernel) (by decide +kernel)
theorem zi_47 : zIn (.selects yX2_readKeep.cls yX2_readKeep yX2_readKeep) := zin_at 47 (by decide +kernel) (by decide +kernel)
theorem zi_48 : zIn (.selects yX2_takeNumber.cls yX2_takeNumber yX2_takeNumber) := zin_at 48 (by decide +kernel) (by decide +kernel)
theorem zi_49 : zIn (.selects yX2_isNumber.cls yX2_isNumber yX2_isNumber) := zin_at 49 (by decide +kernel) (by decide +kernel)
theorem zi_50 : zIn (.selects yX2_readPer.cls yX2_readPer yX2_readPer) := zin_at 50 (by decide +kernel) (by decide +kernel)
theorem zi_51 : zIn (.selects yX2_readPool.cls yX2_readPool yX2_readPool) := zin_at 51 (by decide +kernel) (by decide +kernel)
theorem zi_52 : zIn (.selects yX2_takeSemicolon.cls yX2_takeSemicolon yX2_takeSemicolon) := zin_at 52 (by decide +kernel) (by decide +kernel)
theorem zi_53 : zIn (.selects yX6_isSign.cls yX6_isSign yX6_isSign) := zin_at 53 (by decide +kernel) (by decide +kernel)
theorem zi_54 : zIn (.selects yX2_readHost.cls yX2_readHost yX2_readHost) := zin_at 54 (by decide +kernel) (by decide +kernel)
theorem zi_55 : zIn (.selects yX6_letters.cls yX6_letters yX6_letters) := zin_at 55 (by decide +kernel) (by decide +kernel)
theorem zi_56 : zIn (.selects yX6_asName.cls yX6_asName yX6_asName) := zin_at 56 (by decide +kernel) (by decide +kernel)
theorem zi_57 : zIn (.selects yX3_hostNamed.cls yX3_hostNamed yX3_hostNamed) := zin_at 57 (by decide +kernel) (by decide +kernel)
theorem zi_58 : zIn (.selects yX3_holderInOffice.cls yX3_holderInOffice yX3_holderInOffice) := zin_at 58 (by decide +kernel) (by decide +kernel)
theorem zi_59 : zIn (.selects yX3_appendHost.cls yX3_appendHost yX3_appendHost) := zin_at 59 (by decide +kernel) (by decide +kernel)
theorem zi_60 : zIn (.selects yX2_readRule.cls yX2_readRule yX2_readRule) := zin_at 60 (by decide +kernel) (by decide +kernel)
theorem zi_61 : zIn (.selects yX2_takeSide.cls yX2_takeSide yX2_takeSide) := zin_at 61 (by decide +kernel) (by decide +kernel)
theorem zi_62 : zIn (.selects yX3_appendRule.cls yX3_appendRule yX3_appendRule) := zin_at 62 (by decide +kernel) (by decide +kernel)
theorem zi_63 : zIn (.selects yX2_readMove.cls yX2_readMove yX2_readMove) := zin_at 63 (by decide +kernel) (by decide +kernel)
theorem zi_64 : zIn (.selects yX3_planCount.cls yX3_planCount yX3_planCount) := zin_at 64 (by decide +kernel) (by decide +kernel)
theorem zi_65 : zIn (.selects yX3_keeperCount.cls yX3_keeperCount yX3_keeperCount) := zin_at 65 (by decide +kernel) (by decide +kernel)
theorem zi_66 : zIn (.selects yX7_needHost.cls yX7_needHost yX7_needHost) := zin_at 66 (by decide +kernel) (by decide +kernel)
theorem zi_67 : zIn (.selects yX5_clashAt.cls yX5_clashAt yX5_clashAt) := zin_at 67 (by decide +kernel) (by decide +kernel)
theorem zi_68 : zIn (.selects yX7_needRule.cls yX7_needRule yX7_needRule) := zin_at 68 (by decide +kernel) (by decide +kernel)
theorem zi_69 : zIn (.selects yX3_decidingRule.cls yX3_decidingRule yX3_decidingRule) := zin_at 69 (by decide +kernel) (by decide +kernel)
theorem zi_70 : zIn (.selects yX3_twinOf.cls yX3_twinOf yX3_twinOf) := zin_at 70 (by decide +kernel) (by decide +kernel)
theorem zi_71 : zIn (.selects yX3_holderInNet.cls yX3_holderInNet yX3_holderInNet) := zin_at 71 (by decide +kernel) (by decide +kernel)
theorem zi_72 : zIn (.selects yX3_dropHost.cls yX3_dropHost yX3_dropHost) := zin_at 72 (by decide +kernel) (by decide +kernel)
theorem zi_73 : zIn (.selects yX3_dropRule.cls yX3_dropRule yX3_dropRule) := zin_at 73 (by decide +kernel) (by decide +kernel)
theorem zi_74 : zIn (.selects yX1_clear.cls yX1_clear yX1_clear) := zin_at 74 (by decide +kernel) (by decide +kernel)
theorem zi_75 : zIn (.selects yX1_addName.cls yX1_addName yX1_addName) := zin_at 75 (by decide +kernel) (by decide +kernel)
theorem zi_76 : zIn (.selects yX1_addSign.cls yX1_addSign yX1_addSign) := zin_at 76 (by decide +kernel) (by decide +kernel)
theorem zi_77 : zIn (.selects yX1_addNumber.cls yX1_addNumber yX1_addNumber) := zin_at 77 (by decide +kernel) (by decide +kernel)
theorem zi_78 : zIn (.selects yX4_readQuery.cls yX4_readQuery yX4_readQuery) := zin_at 78 (by decide +kernel) (by decide +kernel)
theorem zi_79 : zIn (.selects yX4_readTest.cls yX4_readTest yX4_readTest) := zin_at 79 (by decide +kernel) (by decide +kernel)
theorem zi_80 : zIn (.selects yX4_readFactor.cls yX4_readFactor yX4_readFactor) := zin_at 80 (by decide +kernel) (by decide +kernel)
theorem zi_81 : zIn (.selects yX4_readComparison.cls yX4_readComparison yX4_readComparison) := zin_at 81 (by decide +kernel) (by decide +kernel)
theorem zi_82 : zIn (.selects yX4_readValue.cls yX4_readValue yX4_readValue) := zin_at 82 (by decide +kernel) (by decide +kernel)
theorem zi_83 : zIn (.selects yX4_property.cls yX4_property yX4_property) := zin_at 83 (by decide +kernel) (by decide +kernel)
theorem zi_84 : zIn (.selects yX4_addStep.cls yX4_addStep yX4_addStep) := zin_at 84 (by decide +kernel) (by decide +kernel)
theorem zi_85 : zIn (.selects yX4_hostsThatPass.cls yX4_hostsThatPass yX4_hostsThatPass) := zin_at 85 (by decide +kernel) (by decide +kernel)
theorem zi_86 : zIn (.selects yX4_pop.cls yX4_pop yX4_pop) := zin_at 86 (by decide +kernel) (by decide +kernel)
theorem zi_87 : zIn (.selects yX4_push.cls yX4_push yX4_push) := zin_at 87 (by decide +kernel) (by decide +kernel)
theorem zi_88 : zIn (.selects yX4_compared.cls yX4_compared yX4_compared) := zin_at 88 (by decide +kernel) (by decide +kernel)
theorem zi_89 : zIn (.selects yX4_findReaches.cls yX4_findReaches yX4_findReaches) := zin_at 89 (by decide +kernel) (by decide +kernel)
theorem zi_90 : zIn (.selects yX4_valueFor.cls yX4_valueFor yX4_valueFor) := zin_at 90 (by decide +kernel) (by decide +kernel)
theorem zi_91 : zIn (.selects yX8_begins.cls yX8_begins yX8_begins) := zin_at 91 (by decide +kernel) (by decide +kernel)
theorem zi_92 : zIn (.selects yX8_lays.cls yX8_lays yX8_lays) := zin_at 92 (by decide +kernel) (by decide +kernel)
theorem zi_93 : zIn (.selects yX8_fails.cls yX8_fails yX8_fails) := zin_at 93 (by decide +kernel) (by decide +kernel)
theorem zi_94 : zIn (.selects yX8_starts.cls yX8_starts yX8_starts) := zin_at 94 (by decide +kernel) (by decide +kernel)
theorem zi_95 : zIn (.selects yX8_next.cls yX8_next yX8_next) := zin_at 95 (by decide +kernel) (by decide +kernel)
theorem zi_96 : zIn (.selects yX8_byteAt.cls yX8_byteAt yX8_byteAt) := zin_at 96 (by decide +kernel) (by decide +kernel)
theorem zi_97 : zIn (.selects yX8_readsWord.cls yX8_readsWord yX8_readsWord) := zin_at 97 (by decide +kernel) (by decide +kernel)
theorem zi_98 : zIn (.selects yX8_readsNumber.cls yX8_readsNumber yX8_readsNumber) := zin_at 98 (by decide +kernel) (by decide +kernel)
theorem zi_99 : zIn (.selects yX8_readsAll.cls yX8_readsAll yX8_readsAll) := zin_at 99 (by decide +kernel) (by decide +kernel)
theorem zi_100 : zIn (.selects yX8_readsHead.cls yX8_readsHead yX8_readsHead) := zin_at 100 (by decide +kernel) (by decide +kernel)
theorem zi_101 : zIn (.selects yX8_passes.cls yX8_passes yX8_passes) := zin_at 101 (by decide +kernel) (by decide +kernel)
theorem zi_102 : zIn (.selects yX8_isWord.cls yX8_isWord yX8_isWord) := zin_at 102 (by decide +kernel) (by decide +kernel)
theorem zi_103 : zIn (.selects yX8_isGood.cls yX8_isGood yX8_isGood) := zin_at 103 (by decide +kernel) (by decide +kernel)
theorem zi_104 : zIn (.selects yX8_wrongs.cls yX8_wrongs yX8_wrongs) := zin_at 104 (by decide +kernel) (by decide +kernel)
theorem zi_105 : zIn (.selects yX8_number.cls yX8_number yX8_number) := zin_at 105 (by decide +kernel) (by decide +kernel)
theorem zi_106 : zIn (.selects yX8_must.cls yX8_must yX8_must) := zin_at 106 (by decide +kernel) (by decide +kernel)
theorem zi_107 : zIn (.selects yX8_isByte.cls yX8_isByte yX8_isByte) := zin_at 107 (by decide +kernel) (by decide +kernel)
theorem zi_108 : zIn (.selects yX8_readsHost.cls yX8_readsHost yX8_readsHost) := zin_at 108 (by decide +kernel) (by decide +kernel)
theorem zi_109 : zIn (.selects yX8_readsName.cls yX8_readsName yX8_readsName) := zin_at 109 (by decide +kernel) (by decide +kernel)
theorem zi_110 : zIn (.selects yX8_toldHost.cls yX8_toldHost yX8_toldHost) := zin_at 110 (by decide +kernel) (by decide +kernel)
theorem zi_111 : zIn (.selects yX8_isTold.cls yX8_isTold yX8_isTold) := zin_at 111 (by decide +kernel) (by decide +kernel)
theorem zi_112 : zIn (.selects yX8_readsRule.cls yX8_readsRule yX8_readsRule) := zin_at 112 (by decide +kernel) (by decide +kernel)
theorem zi_113 : zIn (.selects yX8_side.cls yX8_side yX8_side) := zin_at 113 (by decide +kernel) (by decide +kernel)
theorem zi_114 : zIn (.selects yX8_readsMove.cls yX8_readsMove yX8_readsMove) := zin_at 114 (by decide +kernel) (by decide +kernel)
theorem zi_115 : zIn (.selects yX8_plansIn.cls yX8_plansIn yX8_plansIn) := zin_at 115 (by decide +kernel) (by decide +kernel)
theorem zi_116 : zIn (.selects yX8_plansNow.cls yX8_plansNow yX8_plansNow) := zin_at 116 (by decide +kernel) (by decide +kernel)
theorem zi_117 : zIn (.selects yX8_of.cls yX8_of yX8_of) := zin_at 117 (by decide +kernel) (by decide +kernel)
theorem zi_118 : zIn (.selects yX8_clashes.cls yX8_clashes yX8_clashes) := zin_at 118 (by decide +kernel) (by decide +kernel)
theorem zi_119 : zIn (.selects yX8_isClash.cls yX8_isClash yX8_isClash) := zin_at 119 (by decide +kernel) (by decide +kernel)
theorem zi_120 : zIn (.selects yX8_holderOf.cls yX8_holderOf yX8_holderOf) := zin_at 120 (by decide +kernel) (by decide +kernel)
theorem zi_121 : zIn (.selects yX8_holds.cls yX8_holds yX8_holds) := zin_at 121 (by decide +kernel) (by decide +kernel)
theorem zi_122 : zIn (.selects yX8_kept.cls yX8_kept yX8_kept) := zin_at 122 (by decide +kernel) (by decide +kernel)
theorem zi_123 : zIn (.selects yX8_keptAt.cls yX8_keptAt yX8_keptAt) := zin_at 123 (by decide +kernel) (by decide +kernel)
theorem zi_124 : zIn (.selects yX8_latest.cls yX8_latest yX8_latest) := zin_at 124 (by decide +kernel) (by decide +kernel)
theorem zi_125 : zIn (.selects yX8_keeping.cls yX8_keeping yX8_keeping) := zin_at 125 (by decide +kernel) (by decide +kernel)
theorem zi_126 : zIn (.selects yX8_isHost.cls yX8_isHost yX8_isHost) := zin_at 126 (by decide +kernel) (by decide +kernel)
theorem zi_127 : zIn (.selects yX8_isRule.cls yX8_isRule yX8_isRule) := zin_at 127 (by decide +kernel) (by decide +kernel)
theorem zi_128 : zIn (.selects yX8_decidesOf.cls yX8_decidesOf yX8_decidesOf) := zin_at 128 (by decide +kernel) (by decide +kernel)
theorem zi_129 : zIn (.selects yX8_matches.cls yX8_matches yX8_matches) := zin_at 129 (by decide +kernel) (by decide +kernel)
theorem zi_130 : zIn (.selects yX8_isOfNet.cls yX8_isOfNet yX8_isOfNet) := zin_at 130 (by decide +kernel) (by decide +kernel)
theorem zi_131 : zIn (.selects yX8_allowsFor.cls yX8_allowsFor yX8_allowsFor) := zin_at 131 (by decide +kernel) (by decide +kernel)
theorem zi_132 : zIn (.selects yX8_reachOf.cls yX8_reachOf yX8_reachOf) := zin_at 132 (by decide +kernel) (by decide +kernel)
theorem zi_133 : zIn (.selects yX8_areOfNet.cls yX8_areOfNet yX8_areOfNet) := zin_at 133 (by decide +kernel) (by decide +kernel)
theorem zi_134 : zIn (.selects yX8_firstFree.cls yX8_firstFree yX8_firstFree) := zin_at 134 (by decide +kernel) (by decide +kernel)
theorem zi_135 : zIn (.selects yX8_isFree.cls yX8_isFree yX8_isFree) := zin_at 135 (by decide +kernel) (by decide +kernel)
theorem zi_136 : zIn (.selects yX8_laysAside.cls yX8_laysAside yX8_laysAside) := zin_at 136 (by decide +kernel) (by decide +kernel)
theorem zi_137 : zIn (.selects yX8_movesIf.cls yX8_movesIf yX8_movesIf) := zin_at 137 (by decide +kernel) (by decide +kernel)
theorem zi_138 : zIn (.selects yX8_isBound.cls yX8_isBound yX8_isBound) := zin_at 138 (by decide +kernel) (by decide +kernel)
theorem zi_139 : zIn (.selects yX8_isMoving.cls yX8_isMoving yX8_isMoving) := zin_at 139 (by decide +kernel) (by decide +kernel)
theorem zi_140 : zIn (.selects yX8_moves.cls yX8_moves yX8_moves) := zin_at 140 (by decide +kernel) (by decide +kernel)
theorem zi_141 : zIn (.selects yX8_laysLeads.cls yX8_laysLeads yX8_laysLeads) := zin_at 141 (by decide +kernel) (by decide +kernel)
theorem zi_142 : zIn (.selects yX8_leadsTo.cls yX8_leadsTo yX8_leadsTo) := zin_at 142 (by decide +kernel) (by decide +kernel)
theorem zi_143 : zIn (.selects yX8_rewrites0.cls yX8_rewrites0 yX8_rewrites0) := zin_at 143 (by decide +kernel) (by decide +kernel)
theorem zi_144 : zIn (.selects yX8_twice.cls yX8_twice yX8_twice) := zin_at 144 (by decide +kernel) (by decide +kernel)
theorem zi_145 : zIn (.selects yX8_laysBack.cls yX8_laysBack yX8_laysBack) := zin_at 145 (by decide +kernel) (by decide +kernel)
theorem zi_146 : zIn (.selects yX8_isHeldIn.cls yX8_isHeldIn yX8_isHeldIn) := zin_at 146 (by decide +kernel) (by decide +kernel)
theorem zi_147 : zIn (.selects yX8_keeps.cls yX8_keeps yX8_keeps) := zin_at 147 (by decide +kernel) (by decide +kernel)
theorem zi_148 : zIn (.selects yX8_drops.cls yX8_drops yX8_drops) := zin_at 148 (by decide +kernel) (by decide +kernel)
theorem zi_149 : zIn (.selects yX8_choosen.cls yX8_choosen yX8_choosen) := zin_at 149 (by decide +kernel) (by decide +kernel)
theorem zi_150 : zIn (.selects yX8_firstWave.cls yX8_firstWave yX8_firstWave) := zin_at 150 (by decide +kernel) (by decide +kernel)
theorem zi_151 : zIn (.selects yX8_goesBack.cls yX8_goesBack yX8_goesBack) := zin_at 151 (by decide +kernel) (by decide +kernel)
theorem zi_152 : zIn (.selects yX8_writes.cls yX8_writes yX8_writes) := zin_at 152 (by decide +kernel) (by decide +kernel)
theorem zi_153 : zIn (.selects yX8_writesNumber.cls yX8_writesNumber yX8_writesNumber) := zin_at 153 (by decide +kernel) (by decide +kernel)
theorem zi_154 : zIn (.selects yX8_reads.cls yX8_reads yX8_reads) := zin_at 154 (by decide +kernel) (by decide +kernel)
theorem zi_155 : zIn (.selects yX8_comparisonRead.cls yX8_comparisonRead yX8_comparisonRead) := zin_at 155 (by decide +kernel) (by decide +kernel)
theorem zi_156 : zIn (.selects yX8_goesIn.cls yX8_goesIn yX8_goesIn) := zin_at 156 (by decide +kernel) (by decide +kernel)
theorem zi_157 : zIn (.selects yX8_valueRead.cls yX8_valueRead yX8_valueRead) := zin_at 157 (by decide +kernel) (by decide +kernel)
theorem zi_158 : zIn (.selects yX8_adds.cls yX8_adds yX8_adds) := zin_at 158 (by decide +kernel) (by decide +kernel)
theorem zi_159 : zIn (.selects yX8_propertyHere.cls yX8_propertyHere yX8_propertyHere) := zin_at 159 (by decide +kernel) (by decide +kernel)
theorem zi_160 : zIn (.selects yX8_closes.cls yX8_closes yX8_closes) := zin_at 160 (by decide +kernel) (by decide +kernel)
theorem zi_161 : zIn (.selects yX8_settles.cls yX8_settles yX8_settles) := zin_at 161 (by decide +kernel) (by decide +kernel)
theorem zi_162 : zIn (.selects yX8_isInside.cls yX8_isInside yX8_isInside) := zin_at 162 (by decide +kernel) (by decide +kernel)
theorem zi_163 : zIn (.selects yX8_holds_.cls yX8_holds_ yX8_holds_) := zin_at 163 (by decide +kernel) (by decide +kernel)
theorem zi_164 : zIn (.selects yX8_propertyOf.cls yX8_propertyOf yX8_propertyOf) := zin_at 164 (by decide +kernel) (by decide +kernel)
theorem zi_165 : zIn (.selects yX8_hasClash.cls yX8_hasClash yX8_hasClash) := zin_at 165 (by decide +kernel) (by decide +kernel)
theorem zi_180 : zIn (.initialized "java/lang/Math") := zin_at 180 (by decide +kernel) (by decide +kernel)
theorem zi_185 : zIn (.initialized "java/lang/System") := zin_at 185 (by decide +kernel) (by decide +kernel)
theorem zi_444 : zIn (.instanceMethod yX3_clear) := zin_at 444 (by decide +kernel) (by decide +kernel)
theorem zi_486 : zIn (.instanceMethod yX6_append) := zin_at 486 (by decide +kernel) (by decide +kernel)
theorem zi_498 : zIn (.instanceMethod yX5_count) := zin_at 498 (by decide +kernel) (by decide +kernel)
theorem zi_501 : zIn (.static yJ7_fill_53178) := zin_at 501 (by decide +kernel) (by decide +kernel)
theorem zi_505 : zIn (.instanceMethod yX3_keptBy) := zin_at 505 (by decide +kernel) (by decide +kernel)
theorem zi_509 : zIn (.instanceMethod yX3_keepsAt) := zin_at 509 (by decide +kernel) (by decide +kernel)
theorem zi_513 : zIn (.instanceMethod yX3_numberAhead) := zin_at 513 (by decide +kernel) (by decide +kernel)
theorem zi_516 : zIn (.static yX5_addOne) := zin_at 516 (by decide +kernel) (by decide +kernel)
theorem zi_520 : zIn (.instanceMethod yX5_smallestFree) := zin_at 520 (by decide +kernel) (by decide +kernel)
theorem zi_522 : zIn (.methodLink RX5 53 Lib.Math.max.name) := zin_at 522 (by decide +kernel) (by decide +kernel)
theorem zi_523 : zIn (.static Lib.Math.max.name) := zin_at 523 (by decide +kernel) (by decide +kernel)
theorem zi_524 : zIn (.code Lib.Math.max.name Lib.Math.max.code 2 (some .int)) := zin_at 524 (by decide +kernel) (by decide +kernel)
theorem zi_531 : zIn (.instanceMethod yX3_copyFrom) := zin_at 531 (by decide +kernel) (by decide +kernel)
theorem zi_533 : zIn (.methodLink RX3 75 arraycopyName) := zin_at 533 (by decide +kernel) (by decide +kernel)
theorem zi_534 : zIn (.static arraycopyName) := zin_at 534 (by decide +kernel) (by decide +kernel)
theorem zi_535 : zIn (.native arraycopyName) := zin_at 535 (by decide +kernel) (by decide +kernel)
theorem zi_538 : zIn (.instanceMethod yX7_tryWave) := zin_at 538 (by decide +kernel) (by decide +kernel)
theorem zi_542 : zIn (.instanceMethod yX3_keeperWouldMove) := zin_at 542 (by decide +kernel) (by decide +kernel)
theorem zi_546 : zIn (.instanceMethod yX3_doWave) := zin_at 546 (by decide +kernel) (by decide +kernel)
theorem zi_550 : zIn (.instanceMethod yX3_sideBehindWave) := zin_at 550 (by decide +kernel) (by decide +kernel)
theorem zi_554 : zIn (.instanceMethod yX3_numberedInNet) := zin_at 554 (by decide +kernel) (by decide +kernel)
theorem zi_558 : zIn (.instanceMethod yX3_inNet) := zin_at 558 (by decide +kernel) (by decide +kernel)
theorem zi_562 : zIn (.instanceMethod yX3_setPlan) := zin_at 562 (by decide +kernel) (by decide +kernel)
theorem zi_566 : zIn (.instanceMethod yX7_heldTwice) := zin_at 566 (by decide +kernel) (by decide +kernel)
theorem zi_570 : zIn (.instanceMethod yX5_smallestTwice) := zin_at 570 (by decide +kernel) (by decide +kernel)
theorem zi_574 : zIn (.instanceMethod yX5_isClash) := zin_at 574 (by decide +kernel) (by decide +kernel)
theorem zi_576 : zIn (.methodLink RX7 229 Lib.Math.min.name) := zin_at 576 (by decide +kernel) (by decide +kernel)
theorem zi_577 : zIn (.static Lib.Math.min.name) := zin_at 577 (by decide +kernel) (by decide +kernel)
theorem zi_578 : zIn (.code Lib.Math.min.name Lib.Math.min.code 2 (some .int)) := zin_at 578 (by decide +kernel) (by decide +kernel)
theorem zi_589 : zIn (.instanceMethod yX3_sidesUnlike) := zin_at 589 (by decide +kernel) (by decide +kernel)
theorem zi_597 : zIn (.instanceMethod yX7_clashCount) := zin_at 597 (by decide +kernel) (by decide +kernel)
theorem zi_601 : zIn (.instanceMethod yX5_clashes) := zin_at 601 (by decide +kernel) (by decide +kernel)
theorem zi_609 : zIn (.instanceMethod yX3_movedCount) := zin_at 609 (by decide +kernel) (by decide +kernel)
theorem zi_617 : zIn (.instanceMethod yX3_reachOf) := zin_at 617 (by decide +kernel) (by decide +kernel)
theorem zi_622 : zIn (.instanceMethod yX3_firstRule) := zin_at 622 (by decide +kernel) (by decide +kernel)
theorem zi_625 : zIn (.static yX3_matches) := zin_at 625 (by decide +kernel) (by decide +kernel)
theorem zi_629 : zIn (.instanceMethod yX3_isAllowing) := zin_at 629 (by decide +kernel) (by decide +kernel)
theorem zi_637 : zIn (.instanceMethod yX0_add) := zin_at 637 (by decide +kernel) (by decide +kernel)
theorem zi_640 : zIn (.methodLink RX0 29 Lib.Math.min.name) := zin_at 640 (by decide +kernel) (by decide +kernel)
theorem zi_644 : zIn (.instanceMethod yX3_chosenToMove) := zin_at 644 (by decide +kernel) (by decide +kernel)
theorem zi_648 : zIn (.instanceMethod yX3_movableWith) := zin_at 648 (by decide +kernel) (by decide +kernel)
theorem zi_652 : zIn (.instanceMethod yX3_firstWaveWithRoom) := zin_at 652 (by decide +kernel) (by decide +kernel)
theorem zi_656 : zIn (.instanceMethod yX3_plansIn) := zin_at 656 (by decide +kernel) (by decide +kernel)
theorem zi_661 : zIn (.instanceMethod yX5_countPlan) := zin_at 661 (by decide +kernel) (by decide +kernel)
theorem zi_669 : zIn (.instanceMethod yX7_adoptTrial) := zin_at 669 (by decide +kernel) (by decide +kernel)
theorem zi_677 : zIn (.instanceMethod yX3_undoWave) := zin_at 677 (by decide +kernel) (by decide +kernel)
theorem zi_681 : zIn (.instanceMethod yX3_sideAheadOfWave) := zin_at 681 (by decide +kernel) (by decide +kernel)
theorem zi_685 : zIn (.instanceMethod yX3_undoMove) := zin_at 685 (by decide +kernel) (by decide +kernel)
theorem zi_697 : zIn (.instanceMethod yX3_hostsOfOffice) := zin_at 697 (by decide +kernel) (by decide +kernel)
theorem zi_705 : zIn (.instanceMethod yX1_byteAt) := zin_at 705 (by decide +kernel) (by decide +kernel)
theorem zi_717 : zIn (.instanceMethod yX0_takeNewest) := zin_at 717 (by decide +kernel) (by decide +kernel)
theorem zi_729 : zIn (.instanceMethod yX0_clear) := zin_at 729 (by decide +kernel) (by decide +kernel)
theorem zi_736 : zIn (.instanceMethod yX7_load) := zin_at 736 (by decide +kernel) (by decide +kernel)
theorem zi_737 : zIn (.selects yX7_load.cls yX7_load yX7_load) := zin_at 737 (by decide +kernel) (by decide +kernel)
theorem zi_803 : zIn (.instanceMethod yX6_begin) := zin_at 803 (by decide +kernel) (by decide +kernel)
theorem zi_805 : zIn (.methodLink RX6 19 Lib.Math.min.name) := zin_at 805 (by decide +kernel) (by decide +kernel)
theorem zi_808 : zIn (.instanceMethod yX6_advance) := zin_at 808 (by decide +kernel) (by decide +kernel)
theorem zi_811 : zIn (.static yX6_isLetter) := zin_at 811 (by decide +kernel) (by decide +kernel)
theorem zi_814 : zIn (.static yX6_isDigit) := zin_at 814 (by decide +kernel) (by decide +kernel)
theorem zi_818 : zIn (.instanceMethod yX2_readText) := zin_at 818 (by decide +kernel) (by decide +kernel)
theorem zi_823 : zIn (.instanceMethod yX2_readHead) := zin_at 823 (by decide +kernel) (by decide +kernel)
theorem zi_828 : zIn (.instanceMethod yX2_takeWord) := zin_at 828 (by decide +kernel) (by decide +kernel)
theorem zi_832 : zIn (.instanceMethod yX6_isWord) := zin_at 832 (by decide +kernel) (by decide +kernel)
theorem zi_884 : zIn (.instanceMethod yX2_fail) := zin_at 884 (by decide +kernel) (by decide +kernel)
theorem zi_889 : zIn (.instanceMethod yX2_readKeep) := zin_at 889 (by decide +kernel) (by decide +kernel)
theorem zi_894 : zIn (.instanceMethod yX2_takeNumber) := zin_at 894 (by decide +kernel) (by decide +kernel)
theorem zi_898 : zIn (.instanceMethod yX2_isNumber) := zin_at 898 (by decide +kernel) (by decide +kernel)
theorem zi_902 : zIn (.instanceMethod yX2_readPer) := zin_at 902 (by decide +kernel) (by decide +kernel)
theorem zi_907 : zIn (.instanceMethod yX2_readPool) := zin_at 907 (by decide +kernel) (by decide +kernel)
theorem zi_912 : zIn (.instanceMethod yX2_takeSemicolon) := zin_at 912 (by decide +kernel) (by decide +kernel)
theorem zi_916 : zIn (.instanceMethod yX6_isSign) := zin_at 916 (by decide +kernel) (by decide +kernel)
theorem zi_921 : zIn (.instanceMethod yX2_readHost) := zin_at 921 (by decide +kernel) (by decide +kernel)
theorem zi_925 : zIn (.instanceMethod yX6_letters) := zin_at 925 (by decide +kernel) (by decide +kernel)
theorem zi_929 : zIn (.instanceMethod yX6_asName) := zin_at 929 (by decide +kernel) (by decide +kernel)
theorem zi_934 : zIn (.instanceMethod yX3_hostNamed) := zin_at 934 (by decide +kernel) (by decide +kernel)
theorem zi_938 : zIn (.instanceMethod yX3_holderInOffice) := zin_at 938 (by decide +kernel) (by decide +kernel)
theorem zi_942 : zIn (.instanceMethod yX3_appendHost) := zin_at 942 (by decide +kernel) (by decide +kernel)
theorem zi_948 : zIn (.instanceMethod yX2_readRule) := zin_at 948 (by decide +kernel) (by decide +kernel)
theorem zi_954 : zIn (.instanceMethod yX2_takeSide) := zin_at 954 (by decide +kernel) (by decide +kernel)
theorem zi_959 : zIn (.instanceMethod yX3_appendRule) := zin_at 959 (by decide +kernel) (by decide +kernel)
theorem zi_964 : zIn (.instanceMethod yX2_readMove) := zin_at 964 (by decide +kernel) (by decide +kernel)
theorem zi_973 : zIn (.instanceMethod yX7_size) := zin_at 973 (by decide +kernel) (by decide +kernel)
theorem zi_974 : zIn (.selects yX7_size.cls yX7_size yX7_size) := zin_at 974 (by decide +kernel) (by decide +kernel)
theorem zi_978 : zIn (.instanceMethod yX3_planCount) := zin_at 978 (by decide +kernel) (by decide +kernel)
theorem zi_982 : zIn (.instanceMethod yX3_keeperCount) := zin_at 982 (by decide +kernel) (by decide +kernel)
theorem zi_1003 : zIn (.instanceMethod yX7_host) := zin_at 1003 (by decide +kernel) (by decide +kernel)
theorem zi_1004 : zIn (.selects yX7_host.cls yX7_host yX7_host) := zin_at 1004 (by decide +kernel) (by decide +kernel)
theorem zi_1008 : zIn (.instanceMethod yX7_needHost) := zin_at 1008 (by decide +kernel) (by decide +kernel)
theorem zi_1015 : zIn (.instanceMethod yX7_name) := zin_at 1015 (by decide +kernel) (by decide +kernel)
theorem zi_1016 : zIn (.selects yX7_name.cls yX7_name yX7_name) := zin_at 1016 (by decide +kernel) (by decide +kernel)
theorem zi_1019 : zIn (.static yX7_letterOf) := zin_at 1019 (by decide +kernel) (by decide +kernel)
theorem zi_1025 : zIn (.instanceMethod yX7_holder) := zin_at 1025 (by decide +kernel) (by decide +kernel)
theorem zi_1026 : zIn (.selects yX7_holder.cls yX7_holder yX7_holder) := zin_at 1026 (by decide +kernel) (by decide +kernel)
theorem zi_1029 : zIn (.static yX7_needOffice) := zin_at 1029 (by decide +kernel) (by decide +kernel)
theorem zi_1032 : zIn (.static yX7_needNumber) := zin_at 1032 (by decide +kernel) (by decide +kernel)
theorem zi_1039 : zIn (.instanceMethod yX7_clash) := zin_at 1039 (by decide +kernel) (by decide +kernel)
theorem zi_1040 : zIn (.selects yX7_clash.cls yX7_clash yX7_clash) := zin_at 1040 (by decide +kernel) (by decide +kernel)
theorem zi_1044 : zIn (.instanceMethod yX5_clashAt) := zin_at 1044 (by decide +kernel) (by decide +kernel)
theorem zi_1050 : zIn (.instanceMethod yX7_plans) := zin_at 1050 (by decide +kernel) (by decide +kernel)
theorem zi_1051 : zIn (.selects yX7_plans.cls yX7_plans yX7_plans) := zin_at 1051 (by decide +kernel) (by decide +kernel)
theorem zi_1054 : zIn (.static yX7_needWave) := zin_at 1054 (by decide +kernel) (by decide +kernel)
theorem zi_1061 : zIn (.instanceMethod yX7_rule) := zin_at 1061 (by decide +kernel) (by decide +kernel)
theorem zi_1062 : zIn (.selects yX7_rule.cls yX7_rule yX7_rule) := zin_at 1062 (by decide +kernel) (by decide +kernel)
theorem zi_1066 : zIn (.instanceMethod yX7_needRule) := zin_at 1066 (by decide +kernel) (by decide +kernel)
theorem zi_1072 : zIn (.instanceMethod yX7_decides) := zin_at 1072 (by decide +kernel) (by decide +kernel)
theorem zi_1073 : zIn (.selects yX7_decides.cls yX7_decides yX7_decides) := zin_at 1073 (by decide +kernel) (by decide +kernel)
theorem zi_1077 : zIn (.instanceMethod yX3_decidingRule) := zin_at 1077 (by decide +kernel) (by decide +kernel)
theorem zi_1081 : zIn (.instanceMethod yX3_twinOf) := zin_at 1081 (by decide +kernel) (by decide +kernel)
theorem zi_1085 : zIn (.instanceMethod yX3_holderInNet) := zin_at 1085 (by decide +kernel) (by decide +kernel)
theorem zi_1091 : zIn (.instanceMethod yX7_allows) := zin_at 1091 (by decide +kernel) (by decide +kernel)
theorem zi_1092 : zIn (.selects yX7_allows.cls yX7_allows yX7_allows) := zin_at 1092 (by decide +kernel) (by decide +kernel)
theorem zi_1099 : zIn (.instanceMethod yX7_reach) := zin_at 1099 (by decide +kernel) (by decide +kernel)
theorem zi_1100 : zIn (.selects yX7_reach.cls yX7_reach yX7_reach) := zin_at 1100 (by decide +kernel) (by decide +kernel)
theorem zi_1106 : zIn (.instanceMethod yX7_clashesIn) := zin_at 1106 (by decide +kernel) (by decide +kernel)
theorem zi_1107 : zIn (.selects yX7_clashesIn.cls yX7_clashesIn yX7_clashesIn) := zin_at 1107 (by decide +kernel) (by decide +kernel)
theorem zi_1113 : zIn (.instanceMethod yX7_addHost) := zin_at 1113 (by decide +kernel) (by decide +kernel)
theorem zi_1114 : zIn (.selects yX7_addHost.cls yX7_addHost yX7_addHost) := zin_at 1114 (by decide +kernel) (by decide +kernel)
theorem zi_1122 : zIn (.instanceMethod yX7_removeHost) := zin_at 1122 (by decide +kernel) (by decide +kernel)
theorem zi_1123 : zIn (.selects yX7_removeHost.cls yX7_removeHost yX7_removeHost) := zin_at 1123 (by decide +kernel) (by decide +kernel)
theorem zi_1127 : zIn (.instanceMethod yX3_dropHost) := zin_at 1127 (by decide +kernel) (by decide +kernel)
theorem zi_1133 : zIn (.instanceMethod yX7_plan) := zin_at 1133 (by decide +kernel) (by decide +kernel)
theorem zi_1134 : zIn (.selects yX7_plan.cls yX7_plan yX7_plan) := zin_at 1134 (by decide +kernel) (by decide +kernel)
theorem zi_1140 : zIn (.instanceMethod yX7_unplan) := zin_at 1140 (by decide +kernel) (by decide +kernel)
theorem zi_1141 : zIn (.selects yX7_unplan.cls yX7_unplan yX7_unplan) := zin_at 1141 (by decide +kernel) (by decide +kernel)
theorem zi_1147 : zIn (.instanceMethod yX7_addRule) := zin_at 1147 (by decide +kernel) (by decide +kernel)
theorem zi_1148 : zIn (.selects yX7_addRule.cls yX7_addRule yX7_addRule) := zin_at 1148 (by decide +kernel) (by decide +kernel)
theorem zi_1151 : zIn (.static yX7_needSide) := zin_at 1151 (by decide +kernel) (by decide +kernel)
theorem zi_1158 : zIn (.instanceMethod yX7_removeRule) := zin_at 1158 (by decide +kernel) (by decide +kernel)
theorem zi_1159 : zIn (.selects yX7_removeRule.cls yX7_removeRule yX7_removeRule) := zin_at 1159 (by decide +kernel) (by decide +kernel)
theorem zi_1163 : zIn (.instanceMethod yX3_dropRule) := zin_at 1163 (by decide +kernel) (by decide +kernel)
theorem zi_1169 : zIn (.instanceMethod yX7_setKeep) := zin_at 1169 (by decide +kernel) (by decide +kernel)
theorem zi_1170 : zIn (.selects yX7_setKeep.cls yX7_setKeep yX7_setKeep) := zin_at 1170 (by decide +kernel) (by decide +kernel)
theorem zi_1176 : zIn (.instanceMethod yX7_setPinned) := zin_at 1176 (by decide +kernel) (by decide +kernel)
theorem zi_1177 : zIn (.selects yX7_setPinned.cls yX7_setPinned yX7_setPinned) := zin_at 1177 (by decide +kernel) (by decide +kernel)
theorem zi_1183 : zIn (.instanceMethod yX7_format) := zin_at 1183 (by decide +kernel) (by decide +kernel)
theorem zi_1184 : zIn (.selects yX7_format.cls yX7_format yX7_format) := zin_at 1184 (by decide +kernel) (by decide +kernel)
theorem zi_1188 : zIn (.instanceMethod yX1_clear) := zin_at 1188 (by decide +kernel) (by decide +kernel)
theorem zi_1192 : zIn (.instanceMethod yX1_addName) := zin_at 1192 (by decide +kernel) (by decide +kernel)
theorem zi_1197 : zIn (.instanceMethod yX1_addSign) := zin_at 1197 (by decide +kernel) (by decide +kernel)
theorem zi_1202 : zIn (.instanceMethod yX1_addNumber) := zin_at 1202 (by decide +kernel) (by decide +kernel)
theorem zi_1208 : zIn (.instanceMethod yX7_query) := zin_at 1208 (by decide +kernel) (by decide +kernel)
theorem zi_1209 : zIn (.selects yX7_query.cls yX7_query yX7_query) := zin_at 1209 (by decide +kernel) (by decide +kernel)
theorem zi_1213 : zIn (.instanceMethod yX4_readQuery) := zin_at 1213 (by decide +kernel) (by decide +kernel)
theorem zi_1221 : zIn (.instanceMethod yX4_readTest) := zin_at 1221 (by decide +kernel) (by decide +kernel)
theorem zi_1225 : zIn (.instanceMethod yX4_readFactor) := zin_at 1225 (by decide +kernel) (by decide +kernel)
theorem zi_1231 : zIn (.instanceMethod yX4_readComparison) := zin_at 1231 (by decide +kernel) (by decide +kernel)
theorem zi_1235 : zIn (.instanceMethod yX4_readValue) := zin_at 1235 (by decide +kernel) (by decide +kernel)
theorem zi_1239 : zIn (.instanceMethod yX4_property) := zin_at 1239 (by decide +kernel) (by decide +kernel)
theorem zi_1252 : zIn (.instanceMethod yX4_addStep) := zin_at 1252 (by decide +kernel) (by decide +kernel)
theorem zi_1256 : zIn (.constant RX7 319 (Int32.ofInt (-1000000000))) := zin_at 1256 (by decide +kernel) (by decide +kernel)
theorem zi_1259 : zIn (.instanceMethod yX4_hostsThatPass) := zin_at 1259 (by decide +kernel) (by decide +kernel)
theorem zi_1263 : zIn (.instanceMethod yX4_pop) := zin_at 1263 (by decide +kernel) (by decide +kernel)
theorem zi_1265 : zIn (.constantLong RX4 117 (Int64.ofInt (-1))) := zin_at 1265 (by decide +kernel) (by decide +kernel)
theorem zi_1268 : zIn (.instanceMethod yX4_push) := zin_at 1268 (by decide +kernel) (by decide +kernel)
theorem zi_1272 : zIn (.instanceMethod yX4_compared) := zin_at 1272 (by decide +kernel) (by decide +kernel)
theorem zi_1276 : zIn (.instanceMethod yX4_findReaches) := zin_at 1276 (by decide +kernel) (by decide +kernel)
theorem zi_1281 : zIn (.instanceMethod yX4_valueFor) := zin_at 1281 (by decide +kernel) (by decide +kernel)
theorem zi_1286 : zIn (.static yJ13_bitCount_95d88) := zin_at 1286 (by decide +kernel) (by decide +kernel)
theorem zi_1288 : zIn (.constantLong RJ13 314 (Int64.ofInt (6148914691236517205))) := zin_at 1288 (by decide +kernel) (by decide +kernel)
theorem zi_1289 : zIn (.constantLong RJ13 316 (Int64.ofInt (3689348814741910323))) := zin_at 1289 (by decide +kernel) (by decide +kernel)
theorem zi_1290 : zIn (.constantLong RJ13 318 (Int64.ofInt (1085102592571150095))) := zin_at 1290 (by decide +kernel) (by decide +kernel)
theorem zi_1292 : zIn (.static yX7_smallestOf) := zin_at 1292 (by decide +kernel) (by decide +kernel)
theorem zi_1306 : zIn (.instanceMethod yX8_begins) := zin_at 1306 (by decide +kernel) (by decide +kernel)
theorem zi_1309 : zIn (.static yX8_copies) := zin_at 1309 (by decide +kernel) (by decide +kernel)
theorem zi_1405 : zIn (.instanceMethod yX8_lays) := zin_at 1405 (by decide +kernel) (by decide +kernel)
theorem zi_1416 : zIn (.static yX8_in) := zin_at 1416 (by decide +kernel) (by decide +kernel)
theorem zi_1420 : zIn (.instanceMethod yX8_fails) := zin_at 1420 (by decide +kernel) (by decide +kernel)
theorem zi_1424 : zIn (.instanceMethod yX8_starts) := zin_at 1424 (by decide +kernel) (by decide +kernel)
theorem zi_1428 : zIn (.instanceMethod yX8_next) := zin_at 1428 (by decide +kernel) (by decide +kernel)
theorem zi_1432 : zIn (.instanceMethod yX8_byteAt) := zin_at 1432 (by decide +kernel) (by decide +kernel)
theorem zi_1435 : zIn (.static yX8_isLetter) := zin_at 1435 (by decide +kernel) (by decide +kernel)
theorem zi_1439 : zIn (.instanceMethod yX8_readsWord) := zin_at 1439 (by decide +kernel) (by decide +kernel)
theorem zi_1441 : zIn (.constantLong RX8 85 (Int64.ofInt (27))) := zin_at 1441 (by decide +kernel) (by decide +kernel)
theorem zi_1442 : zIn (.constantLong RX8 87 (Int64.ofInt (96))) := zin_at 1442 (by decide +kernel) (by decide +kernel)
theorem zi_1444 : zIn (.static yX8_isFigure) := zin_at 1444 (by decide +kernel) (by decide +kernel)
theorem zi_1448 : zIn (.instanceMethod yX8_readsNumber) := zin_at 1448 (by decide +kernel) (by decide +kernel)
theorem zi_1450 : zIn (.constant RX8 98 (Int32.ofInt (9999999))) := zin_at 1450 (by decide +kernel) (by decide +kernel)
theorem zi_1453 : zIn (.instanceMethod yX8_readsAll) := zin_at 1453 (by decide +kernel) (by decide +kernel)
theorem zi_1457 : zIn (.instanceMethod yX8_readsHead) := zin_at 1457 (by decide +kernel) (by decide +kernel)
theorem zi_1459 : zIn (.constantLong RX8 133 (Int64.ofInt (279766))) := zin_at 1459 (by decide +kernel) (by decide +kernel)
theorem zi_1462 : zIn (.instanceMethod yX8_passes) := zin_at 1462 (by decide +kernel) (by decide +kernel)
theorem zi_1466 : zIn (.instanceMethod yX8_isWord) := zin_at 1466 (by decide +kernel) (by decide +kernel)
theorem zi_1470 : zIn (.instanceMethod yX8_isGood) := zin_at 1470 (by decide +kernel) (by decide +kernel)
theorem zi_1474 : zIn (.instanceMethod yX8_wrongs) := zin_at 1474 (by decide +kernel) (by decide +kernel)
theorem zi_1476 : zIn (.constantLong RX8 138 (Int64.ofInt (220309))) := zin_at 1476 (by decide +kernel) (by decide +kernel)
theorem zi_1479 : zIn (.instanceMethod yX8_number) := zin_at 1479 (by decide +kernel) (by decide +kernel)
theorem zi_1481 : zIn (.constantLong RX8 143 (Int64.ofInt (11817))) := zin_at 1481 (by decide +kernel) (by decide +kernel)
theorem zi_1482 : zIn (.constantLong RX8 145 (Int64.ofInt (326280))) := zin_at 1482 (by decide +kernel) (by decide +kernel)
theorem zi_1485 : zIn (.instanceMethod yX8_must) := zin_at 1485 (by decide +kernel) (by decide +kernel)
theorem zi_1489 : zIn (.instanceMethod yX8_isByte) := zin_at 1489 (by decide +kernel) (by decide +kernel)
theorem zi_1491 : zIn (.constantLong RX8 186 (Int64.ofInt (168932))) := zin_at 1491 (by decide +kernel) (by decide +kernel)
theorem zi_1494 : zIn (.instanceMethod yX8_readsHost) := zin_at 1494 (by decide +kernel) (by decide +kernel)
theorem zi_1498 : zIn (.instanceMethod yX8_readsName) := zin_at 1498 (by decide +kernel) (by decide +kernel)
theorem zi_1502 : zIn (.instanceMethod yX8_toldHost) := zin_at 1502 (by decide +kernel) (by decide +kernel)
theorem zi_1505 : zIn (.static yX8_cell) := zin_at 1505 (by decide +kernel) (by decide +kernel)
theorem zi_1507 : zIn (.constantLong RX8 157 (Int64.ofInt (250))) := zin_at 1507 (by decide +kernel) (by decide +kernel)
theorem zi_1510 : zIn (.instanceMethod yX8_isTold) := zin_at 1510 (by decide +kernel) (by decide +kernel)
theorem zi_1512 : zIn (.constantLong RX8 163 (Int64.ofInt (234651388))) := zin_at 1512 (by decide +kernel) (by decide +kernel)
theorem zi_1513 : zIn (.constantLong RX8 191 (Int64.ofInt (369932))) := zin_at 1513 (by decide +kernel) (by decide +kernel)
theorem zi_1516 : zIn (.instanceMethod yX8_readsRule) := zin_at 1516 (by decide +kernel) (by decide +kernel)
theorem zi_1519 : zIn (.static yX8_ruleCell) := zin_at 1519 (by decide +kernel) (by decide +kernel)
theorem zi_1521 : zIn (.constantLong RX8 170 (Int64.ofInt (776813))) := zin_at 1521 (by decide +kernel) (by decide +kernel)
theorem zi_1522 : zIn (.constantLong RX8 172 (Int64.ofInt (82780))) := zin_at 1522 (by decide +kernel) (by decide +kernel)
theorem zi_1525 : zIn (.instanceMethod yX8_side) := zin_at 1525 (by decide +kernel) (by decide +kernel)
theorem zi_1527 : zIn (.constantLong RX8 165 (Int64.ofInt (1132))) := zin_at 1527 (by decide +kernel) (by decide +kernel)
theorem zi_1528 : zIn (.constantLong RX8 196 (Int64.ofInt (267413))) := zin_at 1528 (by decide +kernel) (by decide +kernel)
theorem zi_1531 : zIn (.instanceMethod yX8_readsMove) := zin_at 1531 (by decide +kernel) (by decide +kernel)
theorem zi_1533 : zIn (.constantLong RX8 177 (Int64.ofInt (9))) := zin_at 1533 (by decide +kernel) (by decide +kernel)
theorem zi_1536 : zIn (.instanceMethod yX8_plansIn) := zin_at 1536 (by decide +kernel) (by decide +kernel)
theorem zi_1542 : zIn (.constantLong RX8 284 (Int64.ofInt (10))) := zin_at 1542 (by decide +kernel) (by decide +kernel)
theorem zi_1545 : zIn (.instanceMethod yX8_plansNow) := zin_at 1545 (by decide +kernel) (by decide +kernel)
theorem zi_1549 : zIn (.instanceMethod yX8_of) := zin_at 1549 (by decide +kernel) (by decide +kernel)
theorem zi_1553 : zIn (.instanceMethod yX8_clashes) := zin_at 1553 (by decide +kernel) (by decide +kernel)
theorem zi_1557 : zIn (.instanceMethod yX8_isClash) := zin_at 1557 (by decide +kernel) (by decide +kernel)
theorem zi_1561 : zIn (.instanceMethod yX8_holderOf) := zin_at 1561 (by decide +kernel) (by decide +kernel)
theorem zi_1565 : zIn (.instanceMethod yX8_holds) := zin_at 1565 (by decide +kernel) (by decide +kernel)
theorem zi_1569 : zIn (.instanceMethod yX8_kept) := zin_at 1569 (by decide +kernel) (by decide +kernel)
theorem zi_1573 : zIn (.instanceMethod yX8_keptAt) := zin_at 1573 (by decide +kernel) (by decide +kernel)
theorem zi_1577 : zIn (.instanceMethod yX8_latest) := zin_at 1577 (by decide +kernel) (by decide +kernel)
theorem zi_1581 : zIn (.instanceMethod yX8_keeping) := zin_at 1581 (by decide +kernel) (by decide +kernel)
theorem zi_1589 : zIn (.instanceMethod yX8_isHost) := zin_at 1589 (by decide +kernel) (by decide +kernel)
theorem zi_1591 : zIn (.constantLong RX8 298 (Int64.ofInt (6))) := zin_at 1591 (by decide +kernel) (by decide +kernel)
theorem zi_1601 : zIn (.static yX8_isOffice) := zin_at 1601 (by decide +kernel) (by decide +kernel)
theorem zi_1604 : zIn (.static yX8_isNumber) := zin_at 1604 (by decide +kernel) (by decide +kernel)
theorem zi_1615 : zIn (.static yX8_isWave) := zin_at 1615 (by decide +kernel) (by decide +kernel)
theorem zi_1623 : zIn (.instanceMethod yX8_isRule) := zin_at 1623 (by decide +kernel) (by decide +kernel)
theorem zi_1625 : zIn (.constantLong RX8 312 (Int64.ofInt (3))) := zin_at 1625 (by decide +kernel) (by decide +kernel)
theorem zi_1632 : zIn (.instanceMethod yX8_decidesOf) := zin_at 1632 (by decide +kernel) (by decide +kernel)
theorem zi_1636 : zIn (.instanceMethod yX8_matches) := zin_at 1636 (by decide +kernel) (by decide +kernel)
theorem zi_1640 : zIn (.instanceMethod yX8_isOfNet) := zin_at 1640 (by decide +kernel) (by decide +kernel)
theorem zi_1648 : zIn (.instanceMethod yX8_allowsFor) := zin_at 1648 (by decide +kernel) (by decide +kernel)
theorem zi_1656 : zIn (.instanceMethod yX8_reachOf) := zin_at 1656 (by decide +kernel) (by decide +kernel)
theorem zi_1660 : zIn (.instanceMethod yX8_areOfNet) := zin_at 1660 (by decide +kernel) (by decide +kernel)
theorem zi_1668 : zIn (.instanceMethod yX8_firstFree) := zin_at 1668 (by decide +kernel) (by decide +kernel)
theorem zi_1672 : zIn (.instanceMethod yX8_isFree) := zin_at 1672 (by decide +kernel) (by decide +kernel)
theorem zi_1680 : zIn (.instanceMethod yX8_laysAside) := zin_at 1680 (by decide +kernel) (by decide +kernel)
theorem zi_1684 : zIn (.instanceMethod yX8_movesIf) := zin_at 1684 (by decide +kernel) (by decide +kernel)
theorem zi_1688 : zIn (.instanceMethod yX8_isBound) := zin_at 1688 (by decide +kernel) (by decide +kernel)
theorem zi_1692 : zIn (.instanceMethod yX8_isMoving) := zin_at 1692 (by decide +kernel) (by decide +kernel)
theorem zi_1696 : zIn (.instanceMethod yX8_moves) := zin_at 1696 (by decide +kernel) (by decide +kernel)
theorem zi_1700 : zIn (.instanceMethod yX8_laysLeads) := zin_at 1700 (by decide +kernel) (by decide +kernel)
theorem zi_1704 : zIn (.instanceMethod yX8_leadsTo) := zin_at 1704 (by decide +kernel) (by decide +kernel)
theorem zi_1708 : zIn (.instanceMethod yX8_rewrites0) := zin_at 1708 (by decide +kernel) (by decide +kernel)
theorem zi_1712 : zIn (.instanceMethod yX8_twice) := zin_at 1712 (by decide +kernel) (by decide +kernel)
theorem zi_1716 : zIn (.instanceMethod yX8_laysBack) := zin_at 1716 (by decide +kernel) (by decide +kernel)
theorem zi_1748 : zIn (.instanceMethod yX8_isHeldIn) := zin_at 1748 (by decide +kernel) (by decide +kernel)
theorem zi_1752 : zIn (.instanceMethod yX8_keeps) := zin_at 1752 (by decide +kernel) (by decide +kernel)
theorem zi_1768 : zIn (.instanceMethod yX8_drops) := zin_at 1768 (by decide +kernel) (by decide +kernel)
theorem zi_1776 : zIn (.instanceMethod yX8_choosen) := zin_at 1776 (by decide +kernel) (by decide +kernel)
theorem zi_1780 : zIn (.instanceMethod yX8_firstWave) := zin_at 1780 (by decide +kernel) (by decide +kernel)
theorem zi_1792 : zIn (.instanceMethod yX8_goesBack) := zin_at 1792 (by decide +kernel) (by decide +kernel)
theorem zi_1807 : zIn (.static yX8_isSide) := zin_at 1807 (by decide +kernel) (by decide +kernel)
theorem zi_1843 : zIn (.instanceMethod yX8_writes) := zin_at 1843 (by decide +kernel) (by decide +kernel)
theorem zi_1847 : zIn (.instanceMethod yX8_writesNumber) := zin_at 1847 (by decide +kernel) (by decide +kernel)
theorem zi_1858 : zIn (.static yX8_lesser) := zin_at 1858 (by decide +kernel) (by decide +kernel)
theorem zi_1860 : zIn (.constantLong RX8 435 (Int64.ofInt (3379448))) := zin_at 1860 (by decide +kernel) (by decide +kernel)
theorem zi_1861 : zIn (.constantLong RX8 437 (Int64.ofInt (257011))) := zin_at 1861 (by decide +kernel) (by decide +kernel)
theorem zi_1864 : zIn (.instanceMethod yX8_reads) := zin_at 1864 (by decide +kernel) (by decide +kernel)
theorem zi_1868 : zIn (.instanceMethod yX8_comparisonRead) := zin_at 1868 (by decide +kernel) (by decide +kernel)
theorem zi_1870 : zIn (.constantLong RX8 395 (Int64.ofInt (10631))) := zin_at 1870 (by decide +kernel) (by decide +kernel)
theorem zi_1873 : zIn (.instanceMethod yX8_goesIn) := zin_at 1873 (by decide +kernel) (by decide +kernel)
theorem zi_1877 : zIn (.instanceMethod yX8_valueRead) := zin_at 1877 (by decide +kernel) (by decide +kernel)
theorem zi_1881 : zIn (.instanceMethod yX8_adds) := zin_at 1881 (by decide +kernel) (by decide +kernel)
theorem zi_1885 : zIn (.instanceMethod yX8_propertyHere) := zin_at 1885 (by decide +kernel) (by decide +kernel)
theorem zi_1887 : zIn (.constantLong RX8 366 (Int64.ofInt (218546996))) := zin_at 1887 (by decide +kernel) (by decide +kernel)
theorem zi_1888 : zIn (.constantLong RX8 368 (Int64.ofInt (212302449))) := zin_at 1888 (by decide +kernel) (by decide +kernel)
theorem zi_1889 : zIn (.constantLong RX8 370 (Int64.ofInt (11263))) := zin_at 1889 (by decide +kernel) (by decide +kernel)
theorem zi_1890 : zIn (.constantLong RX8 372 (Int64.ofInt (6371732056))) := zin_at 1890 (by decide +kernel) (by decide +kernel)
theorem zi_1891 : zIn (.constantLong RX8 374 (Int64.ofInt (454037))) := zin_at 1891 (by decide +kernel) (by decide +kernel)
theorem zi_1892 : zIn (.constantLong RX8 376 (Int64.ofInt (1831769))) := zin_at 1892 (by decide +kernel) (by decide +kernel)
theorem zi_1893 : zIn (.constantLong RX8 378 (Int64.ofInt (9665171))) := zin_at 1893 (by decide +kernel) (by decide +kernel)
theorem zi_1896 : zIn (.instanceMethod yX8_closes) := zin_at 1896 (by decide +kernel) (by decide +kernel)
theorem zi_1900 : zIn (.instanceMethod yX8_settles) := zin_at 1900 (by decide +kernel) (by decide +kernel)
theorem zi_1903 : zIn (.static yX8_strength) := zin_at 1903 (by decide +kernel) (by decide +kernel)
theorem zi_1907 : zIn (.instanceMethod yX8_isInside) := zin_at 1907 (by decide +kernel) (by decide +kernel)
theorem zi_1909 : zIn (.constantLong RX8 415 (Int64.ofInt (1111))) := zin_at 1909 (by decide +kernel) (by decide +kernel)
theorem zi_1910 : zIn (.constantLong RX8 417 (Int64.ofInt (423))) := zin_at 1910 (by decide +kernel) (by decide +kernel)
theorem zi_1911 : zIn (.constant RX8 442 (Int32.ofInt (-1000000000))) := zin_at 1911 (by decide +kernel) (by decide +kernel)
theorem zi_1914 : zIn (.instanceMethod yX8_holds_) := zin_at 1914 (by decide +kernel) (by decide +kernel)
theorem zi_1916 : zIn (.constantLong RX8 422 (Int64.ofInt (20))) := zin_at 1916 (by decide +kernel) (by decide +kernel)
theorem zi_1917 : zIn (.constantLong RX8 424 (Int64.ofInt (25))) := zin_at 1917 (by decide +kernel) (by decide +kernel)
theorem zi_1919 : zIn (.static yX8_joined) := zin_at 1919 (by decide +kernel) (by decide +kernel)
theorem zi_1923 : zIn (.instanceMethod yX8_propertyOf) := zin_at 1923 (by decide +kernel) (by decide +kernel)
theorem zi_1927 : zIn (.instanceMethod yX8_hasClash) := zin_at 1927 (by decide +kernel) (by decide +kernel)
theorem zu_0 : ∀ w ∈ u_ws RX0 TX0 3, zIn w := by
  have h : (u_ws RX0 TX0 3).all (fun w => decide (w ∈ lw_tbl) && zok w) = true := by decide +kernel
  intro w hw
  have := List.all_eq_true.mp h w hw
  rw [Bool.and_eq_true, decide_eq_true_eq] at this
  exact this
theorem zu_1 : ∀ w ∈ u_ws RX1 TX1 2, zIn w := by
  have h : (u_ws RX1 TX1 2).all (fun w => decide (w ∈ lw_tbl) && zok w) = true := by decide +kernel
  intro w hw
  have := List.all_eq_true.mp h w hw
  rw [Bool.and_eq_true, decide_eq_true_eq] at this
  exact this
theorem zu_2 : ∀ w ∈ u_ws RX2 TX2 4, zIn w := by
  have h : (u_ws RX2 TX2 4).all (fun w => decide (w ∈ lw_tbl) && zok w) = true := by decide +kernel
  intro w hw
  have := List.all_eq_true.mp h w hw
  rw [Bool.and_eq_true, decide_eq_true_eq] at this
  exact this
theorem zu_3 : ∀ w ∈ u_ws RX3 TX3 20, zIn w := by
  have h : (u_ws RX3 TX3 20).all (fun w => decide (w ∈ lw_tbl) && zok w) = true := by decide +kernel
  intro w hw
  have := List.all_eq_true.mp h w hw
  rw [Bool.and_eq_true, decide_eq_true_eq] at this
  exact this
theorem zu_4 : ∀ w ∈ u_ws RX4 TX4 9, zIn w := by
  have h : (u_ws RX4 TX4 9).all (fun w => decide (w ∈ lw_tbl) && zok w) = true := by decide +kernel
  intro w hw
  have := List.all_eq_true.mp h w hw
  rw [Bool.and_eq_true, decide_eq_true_eq] at this
  exact this
theorem zu_5 : ∀ w ∈ u_ws RX5 TX5 3, zIn w := by
  have h : (u_ws RX5 TX5 3).all (fun w => decide (w ∈ lw_tbl) && zok w) = true := by decide +kernel
  intro w hw
  have := List.all_eq_true.mp h w hw
  rw [Bool.and_eq_true, decide_eq_true_eq] at this
  exact this
theorem zu_6 : ∀ w ∈ u_ws RX6 TX6 7, zIn w := by
  have h : (u_ws RX6 TX6 7).all (fun w => decide (w ∈ lw_tbl) && zok w) = true := by decide +kernel
  intro w hw
  have := List.all_eq_true.mp h w hw
  rw [Bool.and_eq_true, decide_eq_true_eq] at this
  exact this
theorem zu_7 : ∀ w ∈ u_ws RX7 TX7 11, zIn w := by
  have h : (u_ws RX7 TX7 11).all (fun w => decide (w ∈ lw_tbl) && zok w) = true := by decide +kernel
  intro w hw
  have := List.all_eq_true.mp h w hw
  rw [Bool.and_eq_true, decide_eq_true_eq] at this
  exact this
theorem zu_8 : ∀ w ∈ u_ws RX8 TX8 29, zIn w := by
  have h : (u_ws RX8 TX8 29).all (fun w => decide (w ∈ lw_tbl) && zok w) = true := by decide +kernel
  intro w hw
  have := List.all_eq_true.mp h w hw
  rw [Bool.and_eq_true, decide_eq_true_eq] at this
  exact this
theorem zf_RX7_10 : zFl RX7 10 7 0 (.object "NetMerge$Nets") true := ⟨RX7, TX7, 11, tyX7, rfl, by decide, zu_7, tyX7_ok, nmX7, rfl, rfl, Or.inl (zin_at (w := (.fieldLink RX7 10 (TX7 0).1 (TX7 0).2.1 (TX7 0).2.2.1)) 446 (by decide +kernel) (by decide +kernel))⟩
theorem zf_RX7_16 : zFl RX7 16 7 1 (.object "NetMerge$Nets") true := ⟨RX7, TX7, 11, tyX7, rfl, by decide, zu_7, tyX7_ok, nmX7, rfl, rfl, Or.inl (zin_at (w := (.fieldLink RX7 16 (TX7 1).1 (TX7 1).2.1 (TX7 1).2.2.1)) 447 (by decide +kernel) (by decide +kernel))⟩
theorem zf_RX7_19 : zFl RX7 19 7 2 (.object "NetMerge$Nets") true := ⟨RX7, TX7, 11, tyX7, rfl, by decide, zu_7, tyX7_ok, nmX7, rfl, rfl, Or.inl (zin_at (w := (.fieldLink RX7 19 (TX7 2).1 (TX7 2).2.1 (TX7 2).2.2.1)) 448 (by decide +kernel) (by decide +kernel))⟩
theorem zf_RX7_25 : zFl RX7 25 7 4 (.object "NetMerge$History") true := ⟨RX7, TX7, 11, tyX7, rfl, by decide, zu_7, tyX7_ok, nmX7, rfl, rfl, Or.inl (zin_at (w := (.fieldLink RX7 25 (TX7 4).1 (TX7 4).2.1 (TX7 4).2.2.1)) 450 (by decide +kernel) (by decide +kernel))⟩
theorem zf_RX7_32 : zFl RX7 32 7 5 (.object "NetMerge$Tally") true := ⟨RX7, TX7, 11, tyX7, rfl, by decide, zu_7, tyX7_ok, nmX7, rfl, rfl, Or.inl (zin_at (w := (.fieldLink RX7 32 (TX7 5).1 (TX7 5).2.1 (TX7 5).2.2.1)) 451 (by decide +kernel) (by decide +kernel))⟩
theorem zf_RX7_39 : zFl RX7 39 7 6 (.object "NetMerge$Text") true := ⟨RX7, TX7, 11, tyX7, rfl, by decide, zu_7, tyX7_ok, nmX7, rfl, rfl, Or.inl (zin_at (w := (.fieldLink RX7 39 (TX7 6).1 (TX7 6).2.1 (TX7 6).2.2.1)) 452 (by decide +kernel) (by decide +kernel))⟩
theorem zf_RX7_48 : zFl RX7 48 7 7 (.object "NetMerge$Loader") true := ⟨RX7, TX7, 11, tyX7, rfl, by decide, zu_7, tyX7_ok, nmX7, rfl, rfl, Or.inl (zin_at (w := (.fieldLink RX7 48 (TX7 7).1 (TX7 7).2.1 (TX7 7).2.2.1)) 453 (by decide +kernel) (by decide +kernel))⟩
theorem zf_RX7_57 : zFl RX7 57 7 8 (.object "NetMerge$Query") true := ⟨RX7, TX7, 11, tyX7, rfl, by decide, zu_7, tyX7_ok, nmX7, rfl, rfl, Or.inl (zin_at (w := (.fieldLink RX7 57 (TX7 8).1 (TX7 8).2.1 (TX7 8).2.2.1)) 454 (by decide +kernel) (by decide +kernel))⟩
theorem zf_RX7_64 : zFl RX7 64 7 9 (.object "NetMerge$Line") true := ⟨RX7, TX7, 11, tyX7, rfl, by decide, zu_7, tyX7_ok, nmX7, rfl, rfl, Or.inl (zin_at (w := (.fieldLink RX7 64 (TX7 9).1 (TX7 9).2.1 (TX7 9).2.2.1)) 455 (by decide +kernel) (by decide +kernel))⟩
theorem zf_RX7_68 : zFl RX7 68 7 10 (.int) false := ⟨RX7, TX7, 11, tyX7, rfl, by decide, zu_7, tyX7_ok, nmX7, rfl, rfl, Or.inl (zin_at (w := (.fieldLink RX7 68 (TX7 10).1 (TX7 10).2.1 (TX7 10).2.2.1)) 456 (by decide +kernel) (by decide +kernel))⟩
theorem zf_RX7_75 : zFl RX7 75 6 1 (.int) false := ⟨RX6, TX6, 7, tyX6, rfl, by decide, zu_6, tyX6_ok, nmX6, rfl, rfl, Or.inr ⟨_, zin_at (w := (.fieldLinkNest RX7 75 (TX6 1).1 (TX6 1).2.1 (TX6 1).2.2.1 "NetMerge")) 346 (by decide +kernel) (by decide +kernel)⟩⟩
theorem zf_RX7_92 : zFl RX7 92 6 5 (.int) false := ⟨RX6, TX6, 7, tyX6, rfl, by decide, zu_6, tyX6_ok, nmX6, rfl, rfl, Or.inr ⟨_, zin_at (w := (.fieldLinkNest RX7 92 (TX6 5).1 (TX6 5).2.1 (TX6 5).2.2.1 "NetMerge")) 353 (by decide +kernel) (by decide +kernel)⟩⟩
theorem zf_RX7_100 : zFl RX7 100 7 3 (.boolean) false := ⟨RX7, TX7, 11, tyX7, rfl, by decide, zu_7, tyX7_ok, nmX7, rfl, rfl, Or.inl (zin_at (w := (.fieldLink RX7 100 (TX7 3).1 (TX7 3).2.1 (TX7 3).2.2.1)) 449 (by decide +kernel) (by decide +kernel))⟩
theorem zf_RX7_104 : zFl RX7 104 3 0 (.int) false := ⟨RX3, TX3, 20, tyX3, rfl, by decide, zu_3, tyX3_ok, nmX3, rfl, rfl, Or.inr ⟨_, zin_at (w := (.fieldLinkNest RX7 104 (TX3 0).1 (TX3 0).2.1 (TX3 0).2.2.1 "NetMerge")) 205 (by decide +kernel) (by decide +kernel)⟩⟩
theorem zf_RX7_107 : zFl RX7 107 3 1 (.int) false := ⟨RX3, TX3, 20, tyX3, rfl, by decide, zu_3, tyX3_ok, nmX3, rfl, rfl, Or.inr ⟨_, zin_at (w := (.fieldLinkNest RX7 107 (TX3 1).1 (TX3 1).2.1 (TX3 1).2.2.1 "NetMerge")) 209 (by decide +kernel) (by decide +kernel)⟩⟩
theorem zf_RX7_113 : zFl RX7 113 3 2 (.int) false := ⟨RX3, TX3, 20, tyX3, rfl, by decide, zu_3, tyX3_ok, nmX3, rfl, rfl, Or.inr ⟨_, zin_at (w := (.fieldLinkNest RX7 113 (TX3 2).1 (TX3 2).2.1 (TX3 2).2.2.1 "NetMerge")) 212 (by decide +kernel) (by decide +kernel)⟩⟩
theorem zf_RX7_116 : zFl RX7 116 3 3 (.int) false := ⟨RX3, TX3, 20, tyX3, rfl, by decide, zu_3, tyX3_ok, nmX3, rfl, rfl, Or.inr ⟨_, zin_at (w := (.fieldLinkNest RX7 116 (TX3 3).1 (TX3 3).2.1 (TX3 3).2.2.1 "NetMerge")) 215 (by decide +kernel) (by decide +kernel)⟩⟩
theorem zf_RX7_119 : zFl RX7 119 3 4 (.int) false := ⟨RX3, TX3, 20, tyX3, rfl, by decide, zu_3, tyX3_ok, nmX3, rfl, rfl, Or.inr ⟨_, zin_at (w := (.fieldLinkNest RX7 119 (TX3 4).1 (TX3 4).2.1 (TX3 4).2.2.1 "NetMerge")) 218 (by decide +kernel) (by decide +kernel)⟩⟩
theorem zf_RX7_122 : zFl RX7 122 3 5 (.int) false := ⟨RX3, TX3, 20, tyX3, rfl, by decide, zu_3, tyX3_ok, nmX3, rfl, rfl, Or.inr ⟨_, zin_at (w := (.fieldLinkNest RX7 122 (TX3 5).1 (TX3 5).2.1 (TX3 5).2.2.1 "NetMerge")) 220 (by decide +kernel) (by decide +kernel)⟩⟩
theorem zf_RX7_125 : zFl RX7 125 3 6 (.int) false := ⟨RX3, TX3, 20, tyX3, rfl, by decide, zu_3, tyX3_ok, nmX3, rfl, rfl, Or.inr ⟨_, zin_at (w := (.fieldLinkNest RX7 125 (TX3 6).1 (TX3 6).2.1 (TX3 6).2.2.1 "NetMerge")) 223 (by decide +kernel) (by decide +kernel)⟩⟩
theorem zf_RX7_128 : zFl RX7 128 3 7 (.boolean) false := ⟨RX3, TX3, 20, tyX3, rfl, by decide, zu_3, tyX3_ok, nmX3, rfl, rfl, Or.inr ⟨_, zin_at (w := (.fieldLinkNest RX7 128 (TX3 7).1 (TX3 7).2.1 (TX3 7).2.2.1 "NetMerge")) 226 (by decide +kernel) (by decide +kernel)⟩⟩
theorem zf_RX7_144 : zFl RX7 144 3 9 (.array .int) true := ⟨RX3, TX3, 20, tyX3, rfl, by decide, zu_3, tyX3_ok, nmX3, rfl, rfl, Or.inr ⟨_, zin_at (w := (.fieldLinkNest RX7 144 (TX3 9).1 (TX3 9).2.1 (TX3 9).2.2.1 "NetMerge")) 231 (by decide +kernel) (by decide +kernel)⟩⟩
theorem zf_RX7_148 : zFl RX7 148 3 10 (.array .int) true := ⟨RX3, TX3, 20, tyX3, rfl, by decide, zu_3, tyX3_ok, nmX3, rfl, rfl, Or.inr ⟨_, zin_at (w := (.fieldLinkNest RX7 148 (TX3 10).1 (TX3 10).2.1 (TX3 10).2.2.1 "NetMerge")) 235 (by decide +kernel) (by decide +kernel)⟩⟩
theorem zf_RX7_155 : zFl RX7 155 3 11 (.array .int) true := ⟨RX3, TX3, 20, tyX3, rfl, by decide, zu_3, tyX3_ok, nmX3, rfl, rfl, Or.inr ⟨_, zin_at (w := (.fieldLinkNest RX7 155 (TX3 11).1 (TX3 11).2.1 (TX3 11).2.2.1 "NetMerge")) 238 (by decide +kernel) (by decide +kernel)⟩⟩
theorem zf_RX7_158 : zFl RX7 158 3 12 (.array .int) true := ⟨RX3, TX3, 20, tyX3, rfl, by decide, zu_3, tyX3_ok, nmX3, rfl, rfl, Or.inr ⟨_, zin_at (w := (.fieldLinkNest RX7 158 (TX3 12).1 (TX3 12).2.1 (TX3 12).2.2.1 "NetMerge")) 243 (by decide +kernel) (by decide +kernel)⟩⟩
theorem zf_RX7_161 : zFl RX7 161 3 13 (.array .int) true := ⟨RX3, TX3, 20, tyX3, rfl, by decide, zu_3, tyX3_ok, nmX3, rfl, rfl, Or.inr ⟨_, zin_at (w := (.fieldLinkNest RX7 161 (TX3 13).1 (TX3 13).2.1 (TX3 13).2.2.1 "NetMerge")) 246 (by decide +kernel) (by decide +kernel)⟩⟩
theorem zf_RX7_164 : zFl RX7 164 3 14 (.array .int) true := ⟨RX3, TX3, 20, tyX3, rfl, by decide, zu_3, tyX3_ok, nmX3, rfl, rfl, Or.inr ⟨_, zin_at (w := (.fieldLinkNest RX7 164 (TX3 14).1 (TX3 14).2.1 (TX3 14).2.2.1 "NetMerge")) 250 (by decide +kernel) (by decide +kernel)⟩⟩
theorem zf_RX7_167 : zFl RX7 167 3 8 (.array .long) true := ⟨RX3, TX3, 20, tyX3, rfl, by decide, zu_3, tyX3_ok, nmX3, rfl, rfl, Or.inr ⟨_, zin_at (w := (.fieldLinkNest RX7 167 (TX3 8).1 (TX3 8).2.1 (TX3 8).2.2.1 "NetMerge")) 228 (by decide +kernel) (by decide +kernel)⟩⟩
theorem zf_RX7_200 : zFl RX7 200 3 16 (.array .int) true := ⟨RX3, TX3, 20, tyX3, rfl, by decide, zu_3, tyX3_ok, nmX3, rfl, rfl, Or.inr ⟨_, zin_at (w := (.fieldLinkNest RX7 200 (TX3 16).1 (TX3 16).2.1 (TX3 16).2.2.1 "NetMerge")) 253 (by decide +kernel) (by decide +kernel)⟩⟩
theorem zf_RX7_203 : zFl RX7 203 3 17 (.array .int) true := ⟨RX3, TX3, 20, tyX3, rfl, by decide, zu_3, tyX3_ok, nmX3, rfl, rfl, Or.inr ⟨_, zin_at (w := (.fieldLinkNest RX7 203 (TX3 17).1 (TX3 17).2.1 (TX3 17).2.2.1 "NetMerge")) 255 (by decide +kernel) (by decide +kernel)⟩⟩
theorem zf_RX7_206 : zFl RX7 206 3 18 (.array .int) true := ⟨RX3, TX3, 20, tyX3, rfl, by decide, zu_3, tyX3_ok, nmX3, rfl, rfl, Or.inr ⟨_, zin_at (w := (.fieldLinkNest RX7 206 (TX3 18).1 (TX3 18).2.1 (TX3 18).2.2.1 "NetMerge")) 257 (by decide +kernel) (by decide +kernel)⟩⟩
theorem zf_RX7_209 : zFl RX7 209 3 19 (.array .int) true := ⟨RX3, TX3, 20, tyX3, rfl, by decide, zu_3, tyX3_ok, nmX3, rfl, rfl, Or.inr ⟨_, zin_at (w := (.fieldLinkNest RX7 209 (TX3 19).1 (TX3 19).2.1 (TX3 19).2.2.1 "NetMerge")) 259 (by decide +kernel) (by decide +kernel)⟩⟩
theorem zf_RX7_305 : zFl RX7 305 1 1 (.int) false := ⟨RX1, TX1, 2, tyX1, rfl, by decide, zu_1, tyX1_ok, nmX1, rfl, rfl, Or.inr ⟨_, zin_at (w := (.fieldLinkNest RX7 305 (TX1 1).1 (TX1 1).2.1 (TX1 1).2.2.1 "NetMerge")) 436 (by decide +kernel) (by decide +kernel)⟩⟩
theorem zf_RX7_311 : zFl RX7 311 0 2 (.int) false := ⟨RX0, TX0, 3, tyX0, rfl, by decide, zu_0, tyX0_ok, nmX0, rfl, rfl, Or.inr ⟨_, zin_at (w := (.fieldLinkNest RX7 311 (TX0 2).1 (TX0 2).2.1 (TX0 2).2.2.1 "NetMerge")) 315 (by decide +kernel) (by decide +kernel)⟩⟩
theorem zf_RX7_324 : zFl RX7 324 4 3 (.boolean) false := ⟨RX4, TX4, 9, tyX4, rfl, by decide, zu_4, tyX4_ok, nmX4, rfl, rfl, Or.inr ⟨_, zin_at (w := (.fieldLinkNest RX7 324 (TX4 3).1 (TX4 3).2.1 (TX4 3).2.2.1 "NetMerge")) 403 (by decide +kernel) (by decide +kernel)⟩⟩
theorem zf_RX0_11 : zFl RX0 11 0 0 (.array (.object "NetMerge$Nets")) true := ⟨RX0, TX0, 3, tyX0, rfl, by decide, zu_0, tyX0_ok, nmX0, rfl, rfl, Or.inl (zin_at (w := (.fieldLink RX0 11 (TX0 0).1 (TX0 0).2.1 (TX0 0).2.2.1)) 312 (by decide +kernel) (by decide +kernel))⟩
theorem zf_RX0_18 : zFl RX0 18 0 2 (.int) false := ⟨RX0, TX0, 3, tyX0, rfl, by decide, zu_0, tyX0_ok, nmX0, rfl, rfl, Or.inl (zin_at (w := (.fieldLink RX0 18 (TX0 2).1 (TX0 2).2.1 (TX0 2).2.2.1)) 314 (by decide +kernel) (by decide +kernel))⟩
theorem zf_RX0_22 : zFl RX0 22 0 1 (.int) false := ⟨RX0, TX0, 3, tyX0, rfl, by decide, zu_0, tyX0_ok, nmX0, rfl, rfl, Or.inl (zin_at (w := (.fieldLink RX0 22 (TX0 1).1 (TX0 1).2.1 (TX0 1).2.2.1)) 313 (by decide +kernel) (by decide +kernel))⟩
theorem zf_RX1_11 : zFl RX1 11 1 0 (.array .byte) true := ⟨RX1, TX1, 2, tyX1, rfl, by decide, zu_1, tyX1_ok, nmX1, rfl, rfl, Or.inl (zin_at (w := (.fieldLink RX1 11 (TX1 0).1 (TX1 0).2.1 (TX1 0).2.2.1)) 434 (by decide +kernel) (by decide +kernel))⟩
theorem zf_RX1_15 : zFl RX1 15 1 1 (.int) false := ⟨RX1, TX1, 2, tyX1, rfl, by decide, zu_1, tyX1_ok, nmX1, rfl, rfl, Or.inl (zin_at (w := (.fieldLink RX1 15 (TX1 1).1 (TX1 1).2.1 (TX1 1).2.2.1)) 435 (by decide +kernel) (by decide +kernel))⟩
theorem zf_RX2_9 : zFl RX2 9 2 0 (.object "NetMerge$Text") true := ⟨RX2, TX2, 4, tyX2, rfl, by decide, zu_2, tyX2_ok, nmX2, rfl, rfl, Or.inl (zin_at (w := (.fieldLink RX2 9 (TX2 0).1 (TX2 0).2.1 (TX2 0).2.2.1)) 380 (by decide +kernel) (by decide +kernel))⟩
theorem zf_RX2_15 : zFl RX2 15 2 1 (.object "NetMerge$Nets") true := ⟨RX2, TX2, 4, tyX2, rfl, by decide, zu_2, tyX2_ok, nmX2, rfl, rfl, Or.inl (zin_at (w := (.fieldLink RX2 15 (TX2 1).1 (TX2 1).2.1 (TX2 1).2.2.1)) 381 (by decide +kernel) (by decide +kernel))⟩
theorem zf_RX2_19 : zFl RX2 19 2 2 (.int) false := ⟨RX2, TX2, 4, tyX2, rfl, by decide, zu_2, tyX2_ok, nmX2, rfl, rfl, Or.inl (zin_at (w := (.fieldLink RX2 19 (TX2 2).1 (TX2 2).2.1 (TX2 2).2.2.1)) 382 (by decide +kernel) (by decide +kernel))⟩
theorem zf_RX2_32 : zFl RX2 32 6 4 (.int) false := ⟨RX6, TX6, 7, tyX6, rfl, by decide, zu_6, tyX6_ok, nmX6, rfl, rfl, Or.inr ⟨_, zin_at (w := (.fieldLinkNest RX2 32 (TX6 4).1 (TX6 4).2.1 (TX6 4).2.2.1 "NetMerge")) 350 (by decide +kernel) (by decide +kernel)⟩⟩
theorem zf_RX2_85 : zFl RX2 85 2 3 (.int) false := ⟨RX2, TX2, 4, tyX2, rfl, by decide, zu_2, tyX2_ok, nmX2, rfl, rfl, Or.inl (zin_at (w := (.fieldLink RX2 85 (TX2 3).1 (TX2 3).2.1 (TX2 3).2.2.1)) 383 (by decide +kernel) (by decide +kernel))⟩
theorem zf_RX2_88 : zFl RX2 88 3 3 (.int) false := ⟨RX3, TX3, 20, tyX3, rfl, by decide, zu_3, tyX3_ok, nmX3, rfl, rfl, Or.inr ⟨_, zin_at (w := (.fieldLinkNest RX2 88 (TX3 3).1 (TX3 3).2.1 (TX3 3).2.2.1 "NetMerge")) 214 (by decide +kernel) (by decide +kernel)⟩⟩
theorem zf_RX2_92 : zFl RX2 92 3 4 (.int) false := ⟨RX3, TX3, 20, tyX3, rfl, by decide, zu_3, tyX3_ok, nmX3, rfl, rfl, Or.inr ⟨_, zin_at (w := (.fieldLinkNest RX2 92 (TX3 4).1 (TX3 4).2.1 (TX3 4).2.2.1 "NetMerge")) 217 (by decide +kernel) (by decide +kernel)⟩⟩
theorem zf_RX2_96 : zFl RX2 96 3 5 (.int) false := ⟨RX3, TX3, 20, tyX3, rfl, by decide, zu_3, tyX3_ok, nmX3, rfl, rfl, Or.inr ⟨_, zin_at (w := (.fieldLinkNest RX2 96 (TX3 5).1 (TX3 5).2.1 (TX3 5).2.2.1 "NetMerge")) 221 (by decide +kernel) (by decide +kernel)⟩⟩
theorem zf_RX2_99 : zFl RX2 99 3 6 (.int) false := ⟨RX3, TX3, 20, tyX3, rfl, by decide, zu_3, tyX3_ok, nmX3, rfl, rfl, Or.inr ⟨_, zin_at (w := (.fieldLinkNest RX2 99 (TX3 6).1 (TX3 6).2.1 (TX3 6).2.2.1 "NetMerge")) 224 (by decide +kernel) (by decide +kernel)⟩⟩
theorem zf_RX2_102 : zFl RX2 102 3 0 (.int) false := ⟨RX3, TX3, 20, tyX3, rfl, by decide, zu_3, tyX3_ok, nmX3, rfl, rfl, Or.inr ⟨_, zin_at (w := (.fieldLinkNest RX2 102 (TX3 0).1 (TX3 0).2.1 (TX3 0).2.2.1 "NetMerge")) 206 (by decide +kernel) (by decide +kernel)⟩⟩
theorem zf_RX2_120 : zFl RX2 120 6 6 (.int) false := ⟨RX6, TX6, 7, tyX6, rfl, by decide, zu_6, tyX6_ok, nmX6, rfl, rfl, Or.inr ⟨_, zin_at (w := (.fieldLinkNest RX2 120 (TX6 6).1 (TX6 6).2.1 (TX6 6).2.2.1 "NetMerge")) 357 (by decide +kernel) (by decide +kernel)⟩⟩
theorem zf_RX2_133 : zFl RX2 133 3 11 (.array .int) true := ⟨RX3, TX3, 20, tyX3, rfl, by decide, zu_3, tyX3_ok, nmX3, rfl, rfl, Or.inr ⟨_, zin_at (w := (.fieldLinkNest RX2 133 (TX3 11).1 (TX3 11).2.1 (TX3 11).2.2.1 "NetMerge")) 239 (by decide +kernel) (by decide +kernel)⟩⟩
theorem zf_RX2_136 : zFl RX2 136 3 1 (.int) false := ⟨RX3, TX3, 20, tyX3, rfl, by decide, zu_3, tyX3_ok, nmX3, rfl, rfl, Or.inr ⟨_, zin_at (w := (.fieldLinkNest RX2 136 (TX3 1).1 (TX3 1).2.1 (TX3 1).2.2.1 "NetMerge")) 210 (by decide +kernel) (by decide +kernel)⟩⟩
theorem zf_RX2_152 : zFl RX2 152 3 13 (.array .int) true := ⟨RX3, TX3, 20, tyX3, rfl, by decide, zu_3, tyX3_ok, nmX3, rfl, rfl, Or.inr ⟨_, zin_at (w := (.fieldLinkNest RX2 152 (TX3 13).1 (TX3 13).2.1 (TX3 13).2.2.1 "NetMerge")) 247 (by decide +kernel) (by decide +kernel)⟩⟩
theorem zf_RX3_9 : zFl RX3 9 3 8 (.array .long) true := ⟨RX3, TX3, 20, tyX3, rfl, by decide, zu_3, tyX3_ok, nmX3, rfl, rfl, Or.inl (zin_at (w := (.fieldLink RX3 9 (TX3 8).1 (TX3 8).2.1 (TX3 8).2.2.1)) 227 (by decide +kernel) (by decide +kernel))⟩
theorem zf_RX3_15 : zFl RX3 15 3 9 (.array .int) true := ⟨RX3, TX3, 20, tyX3, rfl, by decide, zu_3, tyX3_ok, nmX3, rfl, rfl, Or.inl (zin_at (w := (.fieldLink RX3 15 (TX3 9).1 (TX3 9).2.1 (TX3 9).2.2.1)) 229 (by decide +kernel) (by decide +kernel))⟩
theorem zf_RX3_19 : zFl RX3 19 3 10 (.array .int) true := ⟨RX3, TX3, 20, tyX3, rfl, by decide, zu_3, tyX3_ok, nmX3, rfl, rfl, Or.inl (zin_at (w := (.fieldLink RX3 19 (TX3 10).1 (TX3 10).2.1 (TX3 10).2.2.1)) 233 (by decide +kernel) (by decide +kernel))⟩
theorem zf_RX3_22 : zFl RX3 22 3 11 (.array .int) true := ⟨RX3, TX3, 20, tyX3, rfl, by decide, zu_3, tyX3_ok, nmX3, rfl, rfl, Or.inl (zin_at (w := (.fieldLink RX3 22 (TX3 11).1 (TX3 11).2.1 (TX3 11).2.2.1)) 237 (by decide +kernel) (by decide +kernel))⟩
theorem zf_RX3_25 : zFl RX3 25 3 12 (.array .int) true := ⟨RX3, TX3, 20, tyX3, rfl, by decide, zu_3, tyX3_ok, nmX3, rfl, rfl, Or.inl (zin_at (w := (.fieldLink RX3 25 (TX3 12).1 (TX3 12).2.1 (TX3 12).2.2.1)) 241 (by decide +kernel) (by decide +kernel))⟩
theorem zf_RX3_28 : zFl RX3 28 3 13 (.array .int) true := ⟨RX3, TX3, 20, tyX3, rfl, by decide, zu_3, tyX3_ok, nmX3, rfl, rfl, Or.inl (zin_at (w := (.fieldLink RX3 28 (TX3 13).1 (TX3 13).2.1 (TX3 13).2.2.1)) 245 (by decide +kernel) (by decide +kernel))⟩
theorem zf_RX3_31 : zFl RX3 31 3 14 (.array .int) true := ⟨RX3, TX3, 20, tyX3, rfl, by decide, zu_3, tyX3_ok, nmX3, rfl, rfl, Or.inl (zin_at (w := (.fieldLink RX3 31 (TX3 14).1 (TX3 14).2.1 (TX3 14).2.2.1)) 249 (by decide +kernel) (by decide +kernel))⟩
theorem zf_RX3_34 : zFl RX3 34 3 15 (.array .int) true := ⟨RX3, TX3, 20, tyX3, rfl, by decide, zu_3, tyX3_ok, nmX3, rfl, rfl, Or.inl (zin_at (w := (.fieldLink RX3 34 (TX3 15).1 (TX3 15).2.1 (TX3 15).2.2.1)) 251 (by decide +kernel) (by decide +kernel))⟩
theorem zf_RX3_37 : zFl RX3 37 3 16 (.array .int) true := ⟨RX3, TX3, 20, tyX3, rfl, by decide, zu_3, tyX3_ok, nmX3, rfl, rfl, Or.inl (zin_at (w := (.fieldLink RX3 37 (TX3 16).1 (TX3 16).2.1 (TX3 16).2.2.1)) 252 (by decide +kernel) (by decide +kernel))⟩
theorem zf_RX3_40 : zFl RX3 40 3 17 (.array .int) true := ⟨RX3, TX3, 20, tyX3, rfl, by decide, zu_3, tyX3_ok, nmX3, rfl, rfl, Or.inl (zin_at (w := (.fieldLink RX3 40 (TX3 17).1 (TX3 17).2.1 (TX3 17).2.2.1)) 254 (by decide +kernel) (by decide +kernel))⟩
theorem zf_RX3_43 : zFl RX3 43 3 18 (.array .int) true := ⟨RX3, TX3, 20, tyX3, rfl, by decide, zu_3, tyX3_ok, nmX3, rfl, rfl, Or.inl (zin_at (w := (.fieldLink RX3 43 (TX3 18).1 (TX3 18).2.1 (TX3 18).2.2.1)) 256 (by decide +kernel) (by decide +kernel))⟩
theorem zf_RX3_46 : zFl RX3 46 3 19 (.array .int) true := ⟨RX3, TX3, 20, tyX3, rfl, by decide, zu_3, tyX3_ok, nmX3, rfl, rfl, Or.inl (zin_at (w := (.fieldLink RX3 46 (TX3 19).1 (TX3 19).2.1 (TX3 19).2.2.1)) 258 (by decide +kernel) (by decide +kernel))⟩
theorem zf_RX3_49 : zFl RX3 49 3 0 (.int) false := ⟨RX3, TX3, 20, tyX3, rfl, by decide, zu_3, tyX3_ok, nmX3, rfl, rfl, Or.inl (zin_at (w := (.fieldLink RX3 49 (TX3 0).1 (TX3 0).2.1 (TX3 0).2.2.1)) 203 (by decide +kernel) (by decide +kernel))⟩
theorem zf_RX3_53 : zFl RX3 53 3 1 (.int) false := ⟨RX3, TX3, 20, tyX3, rfl, by decide, zu_3, tyX3_ok, nmX3, rfl, rfl, Or.inl (zin_at (w := (.fieldLink RX3 53 (TX3 1).1 (TX3 1).2.1 (TX3 1).2.2.1)) 208 (by decide +kernel) (by decide +kernel))⟩
theorem zf_RX3_56 : zFl RX3 56 3 2 (.int) false := ⟨RX3, TX3, 20, tyX3, rfl, by decide, zu_3, tyX3_ok, nmX3, rfl, rfl, Or.inl (zin_at (w := (.fieldLink RX3 56 (TX3 2).1 (TX3 2).2.1 (TX3 2).2.2.1)) 211 (by decide +kernel) (by decide +kernel))⟩
theorem zf_RX3_59 : zFl RX3 59 3 3 (.int) false := ⟨RX3, TX3, 20, tyX3, rfl, by decide, zu_3, tyX3_ok, nmX3, rfl, rfl, Or.inl (zin_at (w := (.fieldLink RX3 59 (TX3 3).1 (TX3 3).2.1 (TX3 3).2.2.1)) 213 (by decide +kernel) (by decide +kernel))⟩
theorem zf_RX3_62 : zFl RX3 62 3 4 (.int) false := ⟨RX3, TX3, 20, tyX3, rfl, by decide, zu_3, tyX3_ok, nmX3, rfl, rfl, Or.inl (zin_at (w := (.fieldLink RX3 62 (TX3 4).1 (TX3 4).2.1 (TX3 4).2.2.1)) 216 (by decide +kernel) (by decide +kernel))⟩
theorem zf_RX3_65 : zFl RX3 65 3 5 (.int) false := ⟨RX3, TX3, 20, tyX3, rfl, by decide, zu_3, tyX3_ok, nmX3, rfl, rfl, Or.inl (zin_at (w := (.fieldLink RX3 65 (TX3 5).1 (TX3 5).2.1 (TX3 5).2.2.1)) 219 (by decide +kernel) (by decide +kernel))⟩
theorem zf_RX3_68 : zFl RX3 68 3 6 (.int) false := ⟨RX3, TX3, 20, tyX3, rfl, by decide, zu_3, tyX3_ok, nmX3, rfl, rfl, Or.inl (zin_at (w := (.fieldLink RX3 68 (TX3 6).1 (TX3 6).2.1 (TX3 6).2.2.1)) 222 (by decide +kernel) (by decide +kernel))⟩
theorem zf_RX3_71 : zFl RX3 71 3 7 (.boolean) false := ⟨RX3, TX3, 20, tyX3, rfl, by decide, zu_3, tyX3_ok, nmX3, rfl, rfl, Or.inl (zin_at (w := (.fieldLink RX3 71 (TX3 7).1 (TX3 7).2.1 (TX3 7).2.2.1)) 225 (by decide +kernel) (by decide +kernel))⟩
theorem zf_RX4_11 : zFl RX4 11 4 1 (.array .int) true := ⟨RX4, TX4, 9, tyX4, rfl, by decide, zu_4, tyX4_ok, nmX4, rfl, rfl, Or.inl (zin_at (w := (.fieldLink RX4 11 (TX4 1).1 (TX4 1).2.1 (TX4 1).2.2.1)) 400 (by decide +kernel) (by decide +kernel))⟩
theorem zf_RX4_15 : zFl RX4 15 4 5 (.array .long) true := ⟨RX4, TX4, 9, tyX4, rfl, by decide, zu_4, tyX4_ok, nmX4, rfl, rfl, Or.inl (zin_at (w := (.fieldLink RX4 15 (TX4 5).1 (TX4 5).2.1 (TX4 5).2.2.1)) 405 (by decide +kernel) (by decide +kernel))⟩
theorem zf_RX4_19 : zFl RX4 19 4 7 (.array .int) true := ⟨RX4, TX4, 9, tyX4, rfl, by decide, zu_4, tyX4_ok, nmX4, rfl, rfl, Or.inl (zin_at (w := (.fieldLink RX4 19 (TX4 7).1 (TX4 7).2.1 (TX4 7).2.2.1)) 407 (by decide +kernel) (by decide +kernel))⟩
theorem zf_RX4_22 : zFl RX4 22 4 0 (.object "NetMerge$Text") true := ⟨RX4, TX4, 9, tyX4, rfl, by decide, zu_4, tyX4_ok, nmX4, rfl, rfl, Or.inl (zin_at (w := (.fieldLink RX4 22 (TX4 0).1 (TX4 0).2.1 (TX4 0).2.2.1)) 399 (by decide +kernel) (by decide +kernel))⟩
theorem zf_RX4_26 : zFl RX4 26 4 4 (.int) false := ⟨RX4, TX4, 9, tyX4, rfl, by decide, zu_4, tyX4_ok, nmX4, rfl, rfl, Or.inl (zin_at (w := (.fieldLink RX4 26 (TX4 4).1 (TX4 4).2.1 (TX4 4).2.2.1)) 404 (by decide +kernel) (by decide +kernel))⟩
theorem zf_RX4_30 : zFl RX4 30 4 2 (.int) false := ⟨RX4, TX4, 9, tyX4, rfl, by decide, zu_4, tyX4_ok, nmX4, rfl, rfl, Or.inl (zin_at (w := (.fieldLink RX4 30 (TX4 2).1 (TX4 2).2.1 (TX4 2).2.2.1)) 401 (by decide +kernel) (by decide +kernel))⟩
theorem zf_RX4_41 : zFl RX4 41 4 3 (.boolean) false := ⟨RX4, TX4, 9, tyX4, rfl, by decide, zu_4, tyX4_ok, nmX4, rfl, rfl, Or.inl (zin_at (w := (.fieldLink RX4 41 (TX4 3).1 (TX4 3).2.1 (TX4 3).2.2.1)) 402 (by decide +kernel) (by decide +kernel))⟩
theorem zf_RX4_53 : zFl RX4 53 6 4 (.int) false := ⟨RX6, TX6, 7, tyX6, rfl, by decide, zu_6, tyX6_ok, nmX6, rfl, rfl, Or.inr ⟨_, zin_at (w := (.fieldLinkNest RX4 53 (TX6 4).1 (TX6 4).2.1 (TX6 4).2.2.1 "NetMerge")) 351 (by decide +kernel) (by decide +kernel)⟩⟩
theorem zf_RX4_79 : zFl RX4 79 6 6 (.int) false := ⟨RX6, TX6, 7, tyX6, rfl, by decide, zu_6, tyX6_ok, nmX6, rfl, rfl, Or.inr ⟨_, zin_at (w := (.fieldLinkNest RX4 79 (TX6 6).1 (TX6 6).2.1 (TX6 6).2.2.1 "NetMerge")) 356 (by decide +kernel) (by decide +kernel)⟩⟩
theorem zf_RX4_102 : zFl RX4 102 3 0 (.int) false := ⟨RX3, TX3, 20, tyX3, rfl, by decide, zu_3, tyX3_ok, nmX3, rfl, rfl, Or.inr ⟨_, zin_at (w := (.fieldLinkNest RX4 102 (TX3 0).1 (TX3 0).2.1 (TX3 0).2.2.1 "NetMerge")) 207 (by decide +kernel) (by decide +kernel)⟩⟩
theorem zf_RX4_107 : zFl RX4 107 4 6 (.int) false := ⟨RX4, TX4, 9, tyX4, rfl, by decide, zu_4, tyX4_ok, nmX4, rfl, rfl, Or.inl (zin_at (w := (.fieldLink RX4 107 (TX4 6).1 (TX4 6).2.1 (TX4 6).2.2.1)) 406 (by decide +kernel) (by decide +kernel))⟩
theorem zf_RX4_110 : zFl RX4 110 4 8 (.boolean) false := ⟨RX4, TX4, 9, tyX4, rfl, by decide, zu_4, tyX4_ok, nmX4, rfl, rfl, Or.inl (zin_at (w := (.fieldLink RX4 110 (TX4 8).1 (TX4 8).2.1 (TX4 8).2.2.1)) 408 (by decide +kernel) (by decide +kernel))⟩
theorem zf_RX4_139 : zFl RX4 139 3 9 (.array .int) true := ⟨RX3, TX3, 20, tyX3, rfl, by decide, zu_3, tyX3_ok, nmX3, rfl, rfl, Or.inr ⟨_, zin_at (w := (.fieldLinkNest RX4 139 (TX3 9).1 (TX3 9).2.1 (TX3 9).2.2.1 "NetMerge")) 232 (by decide +kernel) (by decide +kernel)⟩⟩
theorem zf_RX4_141 : zFl RX4 141 3 10 (.array .int) true := ⟨RX3, TX3, 20, tyX3, rfl, by decide, zu_3, tyX3_ok, nmX3, rfl, rfl, Or.inr ⟨_, zin_at (w := (.fieldLinkNest RX4 141 (TX3 10).1 (TX3 10).2.1 (TX3 10).2.2.1 "NetMerge")) 236 (by decide +kernel) (by decide +kernel)⟩⟩
theorem zf_RX4_146 : zFl RX4 146 3 11 (.array .int) true := ⟨RX3, TX3, 20, tyX3, rfl, by decide, zu_3, tyX3_ok, nmX3, rfl, rfl, Or.inr ⟨_, zin_at (w := (.fieldLinkNest RX4 146 (TX3 11).1 (TX3 11).2.1 (TX3 11).2.2.1 "NetMerge")) 240 (by decide +kernel) (by decide +kernel)⟩⟩
theorem zf_RX4_148 : zFl RX4 148 3 12 (.array .int) true := ⟨RX3, TX3, 20, tyX3, rfl, by decide, zu_3, tyX3_ok, nmX3, rfl, rfl, Or.inr ⟨_, zin_at (w := (.fieldLinkNest RX4 148 (TX3 12).1 (TX3 12).2.1 (TX3 12).2.2.1 "NetMerge")) 244 (by decide +kernel) (by decide +kernel)⟩⟩
theorem zf_RX4_151 : zFl RX4 151 3 13 (.array .int) true := ⟨RX3, TX3, 20, tyX3, rfl, by decide, zu_3, tyX3_ok, nmX3, rfl, rfl, Or.inr ⟨_, zin_at (w := (.fieldLinkNest RX4 151 (TX3 13).1 (TX3 13).2.1 (TX3 13).2.2.1 "NetMerge")) 248 (by decide +kernel) (by decide +kernel)⟩⟩
theorem zf_RX5_9 : zFl RX5 9 5 0 (.array .int) true := ⟨RX5, TX5, 3, tyX5, rfl, by decide, zu_5, tyX5_ok, nmX5, rfl, rfl, Or.inl (zin_at (w := (.fieldLink RX5 9 (TX5 0).1 (TX5 0).2.1 (TX5 0).2.2.1)) 329 (by decide +kernel) (by decide +kernel))⟩
theorem zf_RX5_15 : zFl RX5 15 5 1 (.array .int) true := ⟨RX5, TX5, 3, tyX5, rfl, by decide, zu_5, tyX5_ok, nmX5, rfl, rfl, Or.inl (zin_at (w := (.fieldLink RX5 15 (TX5 1).1 (TX5 1).2.1 (TX5 1).2.2.1)) 330 (by decide +kernel) (by decide +kernel))⟩
theorem zf_RX5_18 : zFl RX5 18 5 2 (.array .int) true := ⟨RX5, TX5, 3, tyX5, rfl, by decide, zu_5, tyX5_ok, nmX5, rfl, rfl, Or.inl (zin_at (w := (.fieldLink RX5 18 (TX5 2).1 (TX5 2).2.1 (TX5 2).2.2.1)) 331 (by decide +kernel) (by decide +kernel))⟩
theorem zf_RX5_27 : zFl RX5 27 3 0 (.int) false := ⟨RX3, TX3, 20, tyX3, rfl, by decide, zu_3, tyX3_ok, nmX3, rfl, rfl, Or.inr ⟨_, zin_at (w := (.fieldLinkNest RX5 27 (TX3 0).1 (TX3 0).2.1 (TX3 0).2.2.1 "NetMerge")) 204 (by decide +kernel) (by decide +kernel)⟩⟩
theorem zf_RX5_33 : zFl RX5 33 3 9 (.array .int) true := ⟨RX3, TX3, 20, tyX3, rfl, by decide, zu_3, tyX3_ok, nmX3, rfl, rfl, Or.inr ⟨_, zin_at (w := (.fieldLinkNest RX5 33 (TX3 9).1 (TX3 9).2.1 (TX3 9).2.2.1 "NetMerge")) 230 (by decide +kernel) (by decide +kernel)⟩⟩
theorem zf_RX5_40 : zFl RX5 40 3 10 (.array .int) true := ⟨RX3, TX3, 20, tyX3, rfl, by decide, zu_3, tyX3_ok, nmX3, rfl, rfl, Or.inr ⟨_, zin_at (w := (.fieldLinkNest RX5 40 (TX3 10).1 (TX3 10).2.1 (TX3 10).2.2.1 "NetMerge")) 234 (by decide +kernel) (by decide +kernel)⟩⟩
theorem zf_RX5_46 : zFl RX5 46 3 12 (.array .int) true := ⟨RX3, TX3, 20, tyX3, rfl, by decide, zu_3, tyX3_ok, nmX3, rfl, rfl, Or.inr ⟨_, zin_at (w := (.fieldLinkNest RX5 46 (TX3 12).1 (TX3 12).2.1 (TX3 12).2.2.1 "NetMerge")) 242 (by decide +kernel) (by decide +kernel)⟩⟩
theorem zf_RX6_9 : zFl RX6 9 6 0 (.array .byte) true := ⟨RX6, TX6, 7, tyX6, rfl, by decide, zu_6, tyX6_ok, nmX6, rfl, rfl, Or.inl (zin_at (w := (.fieldLink RX6 9 (TX6 0).1 (TX6 0).2.1 (TX6 0).2.2.1)) 345 (by decide +kernel) (by decide +kernel))⟩
theorem zf_RX6_15 : zFl RX6 15 6 1 (.int) false := ⟨RX6, TX6, 7, tyX6, rfl, by decide, zu_6, tyX6_ok, nmX6, rfl, rfl, Or.inl (zin_at (w := (.fieldLink RX6 15 (TX6 1).1 (TX6 1).2.1 (TX6 1).2.2.1)) 347 (by decide +kernel) (by decide +kernel))⟩
theorem zf_RX6_25 : zFl RX6 25 6 2 (.int) false := ⟨RX6, TX6, 7, tyX6, rfl, by decide, zu_6, tyX6_ok, nmX6, rfl, rfl, Or.inl (zin_at (w := (.fieldLink RX6 25 (TX6 2).1 (TX6 2).2.1 (TX6 2).2.2.1)) 348 (by decide +kernel) (by decide +kernel))⟩
theorem zf_RX6_28 : zFl RX6 28 6 3 (.int) false := ⟨RX6, TX6, 7, tyX6, rfl, by decide, zu_6, tyX6_ok, nmX6, rfl, rfl, Or.inl (zin_at (w := (.fieldLink RX6 28 (TX6 3).1 (TX6 3).2.1 (TX6 3).2.2.1)) 349 (by decide +kernel) (by decide +kernel))⟩
theorem zf_RX6_34 : zFl RX6 34 6 5 (.int) false := ⟨RX6, TX6, 7, tyX6, rfl, by decide, zu_6, tyX6_ok, nmX6, rfl, rfl, Or.inl (zin_at (w := (.fieldLink RX6 34 (TX6 5).1 (TX6 5).2.1 (TX6 5).2.2.1)) 354 (by decide +kernel) (by decide +kernel))⟩
theorem zf_RX6_37 : zFl RX6 37 6 6 (.int) false := ⟨RX6, TX6, 7, tyX6, rfl, by decide, zu_6, tyX6_ok, nmX6, rfl, rfl, Or.inl (zin_at (w := (.fieldLink RX6 37 (TX6 6).1 (TX6 6).2.1 (TX6 6).2.2.1)) 355 (by decide +kernel) (by decide +kernel))⟩
theorem zf_RX6_40 : zFl RX6 40 6 4 (.int) false := ⟨RX6, TX6, 7, tyX6, rfl, by decide, zu_6, tyX6_ok, nmX6, rfl, rfl, Or.inl (zin_at (w := (.fieldLink RX6 40 (TX6 4).1 (TX6 4).2.1 (TX6 4).2.2.1)) 352 (by decide +kernel) (by decide +kernel))⟩
theorem zf_RX8_1 : zFl RX8 1 8 0 (.int) false := ⟨RX8, TX8, 29, tyX8, rfl, by decide, zu_8, tyX8_ok, nmX8, rfl, rfl, Or.inl (zin_at (w := (.fieldLink RX8 1 (TX8 0).1 (TX8 0).2.1 (TX8 0).2.2.1)) 1311 (by decide +kernel) (by decide +kernel))⟩
theorem zf_RX8_13 : zFl RX8 13 8 1 (.array .int) true := ⟨RX8, TX8, 29, tyX8, rfl, by decide, zu_8, tyX8_ok, nmX8, rfl, rfl, Or.inl (zin_at (w := (.fieldLink RX8 13 (TX8 1).1 (TX8 1).2.1 (TX8 1).2.2.1)) 1312 (by decide +kernel) (by decide +kernel))⟩
theorem zf_RX8_17 : zFl RX8 17 8 2 (.array .int) true := ⟨RX8, TX8, 29, tyX8, rfl, by decide, zu_8, tyX8_ok, nmX8, rfl, rfl, Or.inl (zin_at (w := (.fieldLink RX8 17 (TX8 2).1 (TX8 2).2.1 (TX8 2).2.2.1)) 1313 (by decide +kernel) (by decide +kernel))⟩
theorem zf_RX8_20 : zFl RX8 20 8 3 (.array .int) true := ⟨RX8, TX8, 29, tyX8, rfl, by decide, zu_8, tyX8_ok, nmX8, rfl, rfl, Or.inl (zin_at (w := (.fieldLink RX8 20 (TX8 3).1 (TX8 3).2.1 (TX8 3).2.2.1)) 1314 (by decide +kernel) (by decide +kernel))⟩
theorem zf_RX8_23 : zFl RX8 23 8 4 (.array .int) true := ⟨RX8, TX8, 29, tyX8, rfl, by decide, zu_8, tyX8_ok, nmX8, rfl, rfl, Or.inl (zin_at (w := (.fieldLink RX8 23 (TX8 4).1 (TX8 4).2.1 (TX8 4).2.2.1)) 1315 (by decide +kernel) (by decide +kernel))⟩
theorem zf_RX8_26 : zFl RX8 26 8 5 (.array .int) true := ⟨RX8, TX8, 29, tyX8, rfl, by decide, zu_8, tyX8_ok, nmX8, rfl, rfl, Or.inl (zin_at (w := (.fieldLink RX8 26 (TX8 5).1 (TX8 5).2.1 (TX8 5).2.2.1)) 1316 (by decide +kernel) (by decide +kernel))⟩
theorem zf_RX8_29 : zFl RX8 29 8 8 (.array .int) true := ⟨RX8, TX8, 29, tyX8, rfl, by decide, zu_8, tyX8_ok, nmX8, rfl, rfl, Or.inl (zin_at (w := (.fieldLink RX8 29 (TX8 8).1 (TX8 8).2.1 (TX8 8).2.2.1)) 1319 (by decide +kernel) (by decide +kernel))⟩
theorem zf_RX8_32 : zFl RX8 32 8 17 (.int) false := ⟨RX8, TX8, 29, tyX8, rfl, by decide, zu_8, tyX8_ok, nmX8, rfl, rfl, Or.inl (zin_at (w := (.fieldLink RX8 32 (TX8 17).1 (TX8 17).2.1 (TX8 17).2.2.1)) 1328 (by decide +kernel) (by decide +kernel))⟩
theorem zf_RX8_35 : zFl RX8 35 8 18 (.array .int) true := ⟨RX8, TX8, 29, tyX8, rfl, by decide, zu_8, tyX8_ok, nmX8, rfl, rfl, Or.inl (zin_at (w := (.fieldLink RX8 35 (TX8 18).1 (TX8 18).2.1 (TX8 18).2.2.1)) 1329 (by decide +kernel) (by decide +kernel))⟩
theorem zf_RX8_38 : zFl RX8 38 8 21 (.array .int) true := ⟨RX8, TX8, 29, tyX8, rfl, by decide, zu_8, tyX8_ok, nmX8, rfl, rfl, Or.inl (zin_at (w := (.fieldLink RX8 38 (TX8 21).1 (TX8 21).2.1 (TX8 21).2.2.1)) 1332 (by decide +kernel) (by decide +kernel))⟩
theorem zf_RX8_41 : zFl RX8 41 8 23 (.array .int) true := ⟨RX8, TX8, 29, tyX8, rfl, by decide, zu_8, tyX8_ok, nmX8, rfl, rfl, Or.inl (zin_at (w := (.fieldLink RX8 41 (TX8 23).1 (TX8 23).2.1 (TX8 23).2.2.1)) 1334 (by decide +kernel) (by decide +kernel))⟩
theorem zf_RX8_44 : zFl RX8 44 8 24 (.array .int) true := ⟨RX8, TX8, 29, tyX8, rfl, by decide, zu_8, tyX8_ok, nmX8, rfl, rfl, Or.inl (zin_at (w := (.fieldLink RX8 44 (TX8 24).1 (TX8 24).2.1 (TX8 24).2.2.1)) 1335 (by decide +kernel) (by decide +kernel))⟩
theorem zf_RX8_47 : zFl RX8 47 8 25 (.array .int) true := ⟨RX8, TX8, 29, tyX8, rfl, by decide, zu_8, tyX8_ok, nmX8, rfl, rfl, Or.inl (zin_at (w := (.fieldLink RX8 47 (TX8 25).1 (TX8 25).2.1 (TX8 25).2.2.1)) 1336 (by decide +kernel) (by decide +kernel))⟩
theorem zf_RX8_57 : zFl RX8 57 8 9 (.int) false := ⟨RX8, TX8, 29, tyX8, rfl, by decide, zu_8, tyX8_ok, nmX8, rfl, rfl, Or.inl (zin_at (w := (.fieldLink RX8 57 (TX8 9).1 (TX8 9).2.1 (TX8 9).2.2.1)) 1320 (by decide +kernel) (by decide +kernel))⟩
theorem zf_RX8_64 : zFl RX8 64 8 10 (.int) false := ⟨RX8, TX8, 29, tyX8, rfl, by decide, zu_8, tyX8_ok, nmX8, rfl, rfl, Or.inl (zin_at (w := (.fieldLink RX8 64 (TX8 10).1 (TX8 10).2.1 (TX8 10).2.2.1)) 1321 (by decide +kernel) (by decide +kernel))⟩
theorem zf_RX8_67 : zFl RX8 67 8 15 (.long) false := ⟨RX8, TX8, 29, tyX8, rfl, by decide, zu_8, tyX8_ok, nmX8, rfl, rfl, Or.inl (zin_at (w := (.fieldLink RX8 67 (TX8 15).1 (TX8 15).2.1 (TX8 15).2.2.1)) 1326 (by decide +kernel) (by decide +kernel))⟩
theorem zf_RX8_71 : zFl RX8 71 8 11 (.int) false := ⟨RX8, TX8, 29, tyX8, rfl, by decide, zu_8, tyX8_ok, nmX8, rfl, rfl, Or.inl (zin_at (w := (.fieldLink RX8 71 (TX8 11).1 (TX8 11).2.1 (TX8 11).2.2.1)) 1322 (by decide +kernel) (by decide +kernel))⟩
theorem zf_RX8_82 : zFl RX8 82 8 12 (.int) false := ⟨RX8, TX8, 29, tyX8, rfl, by decide, zu_8, tyX8_ok, nmX8, rfl, rfl, Or.inl (zin_at (w := (.fieldLink RX8 82 (TX8 12).1 (TX8 12).2.1 (TX8 12).2.2.1)) 1323 (by decide +kernel) (by decide +kernel))⟩
theorem zf_RX8_89 : zFl RX8 89 8 13 (.int) false := ⟨RX8, TX8, 29, tyX8, rfl, by decide, zu_8, tyX8_ok, nmX8, rfl, rfl, Or.inl (zin_at (w := (.fieldLink RX8 89 (TX8 13).1 (TX8 13).2.1 (TX8 13).2.2.1)) 1324 (by decide +kernel) (by decide +kernel))⟩
theorem zf_RX8_92 : zFl RX8 92 8 14 (.int) false := ⟨RX8, TX8, 29, tyX8, rfl, by decide, zu_8, tyX8_ok, nmX8, rfl, rfl, Or.inl (zin_at (w := (.fieldLink RX8 92 (TX8 14).1 (TX8 14).2.1 (TX8 14).2.2.1)) 1325 (by decide +kernel) (by decide +kernel))⟩
theorem zf_RX8_105 : zFl RX8 105 8 16 (.int) false := ⟨RX8, TX8, 29, tyX8, rfl, by decide, zu_8, tyX8_ok, nmX8, rfl, rfl, Or.inl (zin_at (w := (.fieldLink RX8 105 (TX8 16).1 (TX8 16).2.1 (TX8 16).2.2.1)) 1327 (by decide +kernel) (by decide +kernel))⟩
theorem zf_RX8_211 : zFl RX8 211 8 6 (.int) false := ⟨RX8, TX8, 29, tyX8, rfl, by decide, zu_8, tyX8_ok, nmX8, rfl, rfl, Or.inl (zin_at (w := (.fieldLink RX8 211 (TX8 6).1 (TX8 6).2.1 (TX8 6).2.2.1)) 1317 (by decide +kernel) (by decide +kernel))⟩
theorem zf_RX8_214 : zFl RX8 214 8 7 (.boolean) false := ⟨RX8, TX8, 29, tyX8, rfl, by decide, zu_8, tyX8_ok, nmX8, rfl, rfl, Or.inl (zin_at (w := (.fieldLink RX8 214 (TX8 7).1 (TX8 7).2.1 (TX8 7).2.2.1)) 1318 (by decide +kernel) (by decide +kernel))⟩
theorem zf_RX8_248 : zFl RX8 248 8 19 (.int) false := ⟨RX8, TX8, 29, tyX8, rfl, by decide, zu_8, tyX8_ok, nmX8, rfl, rfl, Or.inl (zin_at (w := (.fieldLink RX8 248 (TX8 19).1 (TX8 19).2.1 (TX8 19).2.2.1)) 1330 (by decide +kernel) (by decide +kernel))⟩
theorem zf_RX8_261 : zFl RX8 261 8 20 (.int) false := ⟨RX8, TX8, 29, tyX8, rfl, by decide, zu_8, tyX8_ok, nmX8, rfl, rfl, Or.inl (zin_at (w := (.fieldLink RX8 261 (TX8 20).1 (TX8 20).2.1 (TX8 20).2.2.1)) 1331 (by decide +kernel) (by decide +kernel))⟩
theorem zf_RX8_354 : zFl RX8 354 8 22 (.int) false := ⟨RX8, TX8, 29, tyX8, rfl, by decide, zu_8, tyX8_ok, nmX8, rfl, rfl, Or.inl (zin_at (w := (.fieldLink RX8 354 (TX8 22).1 (TX8 22).2.1 (TX8 22).2.2.1)) 1333 (by decide +kernel) (by decide +kernel))⟩
theorem zf_RX8_363 : zFl RX8 363 8 26 (.int) false := ⟨RX8, TX8, 29, tyX8, rfl, by decide, zu_8, tyX8_ok, nmX8, rfl, rfl, Or.inl (zin_at (w := (.fieldLink RX8 363 (TX8 26).1 (TX8 26).2.1 (TX8 26).2.2.1)) 1337 (by decide +kernel) (by decide +kernel))⟩
theorem zf_RX8_386 : zFl RX8 386 8 28 (.int) false := ⟨RX8, TX8, 29, tyX8, rfl, by decide, zu_8, tyX8_ok, nmX8, rfl, rfl, Or.inl (zin_at (w := (.fieldLink RX8 386 (TX8 28).1 (TX8 28).2.1 (TX8 28).2.2.1)) 1339 (by decide +kernel) (by decide +kernel))⟩
theorem zf_RX8_389 : zFl RX8 389 8 27 (.int) false := ⟨RX8, TX8, 29, tyX8, rfl, by decide, zu_8, tyX8_ok, nmX8, rfl, rfl, Or.inl (zin_at (w := (.fieldLink RX8 389 (TX8 27).1 (TX8 27).2.1 (TX8 27).2.2.1)) 1338 (by decide +kernel) (by decide +kernel))⟩
theorem zl_RX7_78 : zIn (.methodLinkNest RX7 78 yX6_append "NetMerge") := zin_at 484 (by decide +kernel) (by decide +kernel)
theorem zl_RX7_85 : zIn (.methodLinkNest RX7 85 yX6_begin "NetMerge") := zin_at 801 (by decide +kernel) (by decide +kernel)
theorem zl_RX7_88 : zIn (.methodLinkNest RX7 88 yX2_readText "NetMerge") := zin_at 816 (by decide +kernel) (by decide +kernel)
theorem zl_RX7_95 : zIn (.methodLinkNest RX7 95 yX3_copyFrom "NetMerge") := zin_at 529 (by decide +kernel) (by decide +kernel)
theorem zl_RX7_99 : zIn (.methodLinkNest RX7 99 yX0_clear "NetMerge") := zin_at 727 (by decide +kernel) (by decide +kernel)
theorem zl_RX7_110 : zIn (.methodLinkNest RX7 110 yX3_planCount "NetMerge") := zin_at 976 (by decide +kernel) (by decide +kernel)
theorem zl_RX7_131 : zIn (.methodLink RX7 131 yX7_clashCount) := zin_at 595 (by decide +kernel) (by decide +kernel)
theorem zl_RX7_135 : zIn (.methodLinkNest RX7 135 yX3_keeperCount "NetMerge") := zin_at 980 (by decide +kernel) (by decide +kernel)
theorem zl_RX7_141 : zIn (.methodLink RX7 141 yX7_needHost) := zin_at 1006 (by decide +kernel) (by decide +kernel)
theorem zl_RX7_151 : zIn (.methodLinkNest RX7 151 yX3_keptBy "NetMerge") := zin_at 1010 (by decide +kernel) (by decide +kernel)
theorem zl_RX7_171 : zIn (.methodLink RX7 171 yX7_letterOf) := zin_at 1018 (by decide +kernel) (by decide +kernel)
theorem zl_RX7_175 : zIn (.methodLink RX7 175 yX7_needOffice) := zin_at 1028 (by decide +kernel) (by decide +kernel)
theorem zl_RX7_178 : zIn (.methodLink RX7 178 yX7_needNumber) := zin_at 1031 (by decide +kernel) (by decide +kernel)
theorem zl_RX7_181 : zIn (.methodLinkNest RX7 181 yX3_holderInOffice "NetMerge") := zin_at 1034 (by decide +kernel) (by decide +kernel)
theorem zl_RX7_185 : zIn (.methodLinkNest RX7 185 yX5_count "NetMerge") := zin_at 496 (by decide +kernel) (by decide +kernel)
theorem zl_RX7_188 : zIn (.methodLinkNest RX7 188 yX5_clashAt "NetMerge") := zin_at 1042 (by decide +kernel) (by decide +kernel)
theorem zl_RX7_191 : zIn (.methodLink RX7 191 yX7_needWave) := zin_at 1053 (by decide +kernel) (by decide +kernel)
theorem zl_RX7_194 : zIn (.methodLinkNest RX7 194 yX3_plansIn "NetMerge") := zin_at 1056 (by decide +kernel) (by decide +kernel)
theorem zl_RX7_197 : zIn (.methodLink RX7 197 yX7_needRule) := zin_at 1064 (by decide +kernel) (by decide +kernel)
theorem zl_RX7_212 : zIn (.methodLinkNest RX7 212 yX3_decidingRule "NetMerge") := zin_at 1075 (by decide +kernel) (by decide +kernel)
theorem zl_RX7_216 : zIn (.methodLinkNest RX7 216 yX3_isAllowing "NetMerge") := zin_at 1094 (by decide +kernel) (by decide +kernel)
theorem zl_RX7_220 : zIn (.methodLinkNest RX7 220 yX3_reachOf "NetMerge") := zin_at 615 (by decide +kernel) (by decide +kernel)
theorem zl_RX7_223 : zIn (.methodLinkNest RX7 223 yX5_smallestFree "NetMerge") := zin_at 518 (by decide +kernel) (by decide +kernel)
theorem zl_RX7_226 : zIn (.methodLink RX7 226 yX7_tryWave) := zin_at 536 (by decide +kernel) (by decide +kernel)
theorem zl_RX7_234 : zIn (.methodLinkNest RX7 234 yX3_doWave "NetMerge") := zin_at 544 (by decide +kernel) (by decide +kernel)
theorem zl_RX7_237 : zIn (.methodLink RX7 237 yX7_heldTwice) := zin_at 564 (by decide +kernel) (by decide +kernel)
theorem zl_RX7_240 : zIn (.methodLinkNest RX7 240 yX3_sidesUnlike "NetMerge") := zin_at 587 (by decide +kernel) (by decide +kernel)
theorem zl_RX7_243 : zIn (.methodLinkNest RX7 243 yX3_movedCount "NetMerge") := zin_at 607 (by decide +kernel) (by decide +kernel)
theorem zl_RX7_246 : zIn (.methodLinkNest RX7 246 yX3_holderInNet "NetMerge") := zin_at 1116 (by decide +kernel) (by decide +kernel)
theorem zl_RX7_249 : zIn (.methodLinkNest RX7 249 yX0_add "NetMerge") := zin_at 635 (by decide +kernel) (by decide +kernel)
theorem zl_RX7_252 : zIn (.methodLinkNest RX7 252 yX3_appendHost "NetMerge") := zin_at 1117 (by decide +kernel) (by decide +kernel)
theorem zl_RX7_256 : zIn (.methodLinkNest RX7 256 yX3_dropHost "NetMerge") := zin_at 1125 (by decide +kernel) (by decide +kernel)
theorem zl_RX7_259 : zIn (.methodLinkNest RX7 259 yX3_setPlan "NetMerge") := zin_at 658 (by decide +kernel) (by decide +kernel)
theorem zl_RX7_263 : zIn (.methodLinkNest RX7 263 yX5_isClash "NetMerge") := zin_at 641 (by decide +kernel) (by decide +kernel)
theorem zl_RX7_266 : zIn (.methodLinkNest RX7 266 yX3_chosenToMove "NetMerge") := zin_at 642 (by decide +kernel) (by decide +kernel)
theorem zl_RX7_269 : zIn (.methodLinkNest RX7 269 yX3_firstWaveWithRoom "NetMerge") := zin_at 650 (by decide +kernel) (by decide +kernel)
theorem zl_RX7_272 : zIn (.methodLinkNest RX7 272 yX5_countPlan "NetMerge") := zin_at 659 (by decide +kernel) (by decide +kernel)
theorem zl_RX7_275 : zIn (.methodLink RX7 275 yX7_adoptTrial) := zin_at 667 (by decide +kernel) (by decide +kernel)
theorem zl_RX7_278 : zIn (.methodLinkNest RX7 278 yX3_undoWave "NetMerge") := zin_at 675 (by decide +kernel) (by decide +kernel)
theorem zl_RX7_281 : zIn (.methodLinkNest RX7 281 yX3_hostsOfOffice "NetMerge") := zin_at 695 (by decide +kernel) (by decide +kernel)
theorem zl_RX7_284 : zIn (.methodLink RX7 284 yX7_needSide) := zin_at 1150 (by decide +kernel) (by decide +kernel)
theorem zl_RX7_287 : zIn (.methodLinkNest RX7 287 yX3_appendRule "NetMerge") := zin_at 1153 (by decide +kernel) (by decide +kernel)
theorem zl_RX7_291 : zIn (.methodLinkNest RX7 291 yX3_dropRule "NetMerge") := zin_at 1161 (by decide +kernel) (by decide +kernel)
theorem zl_RX7_294 : zIn (.methodLinkNest RX7 294 yX1_clear "NetMerge") := zin_at 1186 (by decide +kernel) (by decide +kernel)
theorem zl_RX7_295 : zIn (.methodLinkNest RX7 295 yX1_addName "NetMerge") := zin_at 1190 (by decide +kernel) (by decide +kernel)
theorem zl_RX7_299 : zIn (.methodLinkNest RX7 299 yX1_addSign "NetMerge") := zin_at 1199 (by decide +kernel) (by decide +kernel)
theorem zl_RX7_302 : zIn (.methodLinkNest RX7 302 yX1_addNumber "NetMerge") := zin_at 1200 (by decide +kernel) (by decide +kernel)
theorem zl_RX7_308 : zIn (.methodLinkNest RX7 308 yX1_byteAt "NetMerge") := zin_at 703 (by decide +kernel) (by decide +kernel)
theorem zl_RX7_313 : zIn (.methodLinkNest RX7 313 yX0_takeNewest "NetMerge") := zin_at 715 (by decide +kernel) (by decide +kernel)
theorem zl_RX7_316 : zIn (.methodLinkNest RX7 316 yX4_readQuery "NetMerge") := zin_at 1211 (by decide +kernel) (by decide +kernel)
theorem zl_RX7_320 : zIn (.methodLinkNest RX7 320 yX4_hostsThatPass "NetMerge") := zin_at 1257 (by decide +kernel) (by decide +kernel)
theorem zl_RX7_327 : zIn (.methodLink RX7 327 yJ13_bitCount_95d88) := zin_at 1285 (by decide +kernel) (by decide +kernel)
theorem zl_RX7_333 : zIn (.methodLink RX7 333 yX7_smallestOf) := zin_at 1291 (by decide +kernel) (by decide +kernel)
theorem zl_RX7_336 : zIn (.methodLinkNest RX7 336 yX5_clashes "NetMerge") := zin_at 599 (by decide +kernel) (by decide +kernel)
theorem zl_RX7_339 : zIn (.methodLinkNest RX7 339 yX5_smallestTwice "NetMerge") := zin_at 568 (by decide +kernel) (by decide +kernel)
theorem zl_RX7_343 : zIn (.methodLinkNest RX7 343 yX3_keeperWouldMove "NetMerge") := zin_at 540 (by decide +kernel) (by decide +kernel)
theorem zl_RX0_25 : zIn (.methodLinkNest RX0 25 yX3_copyFrom "NetMerge") := zin_at 639 (by decide +kernel) (by decide +kernel)
theorem zl_RX1_19 : zIn (.methodLinkNest RX1 19 yX7_letterOf "NetMerge") := zin_at 1194 (by decide +kernel) (by decide +kernel)
theorem zl_RX1_23 : zIn (.methodLink RX1 23 yX1_addSign) := zin_at 1195 (by decide +kernel) (by decide +kernel)
theorem zl_RX2_23 : zIn (.methodLinkNest RX2 23 yX3_clear "NetMerge") := zin_at 820 (by decide +kernel) (by decide +kernel)
theorem zl_RX2_28 : zIn (.methodLink RX2 28 yX2_readHead) := zin_at 821 (by decide +kernel) (by decide +kernel)
theorem zl_RX2_39 : zIn (.methodLinkNest RX2 39 yX6_isWord "NetMerge") := zin_at 830 (by decide +kernel) (by decide +kernel)
theorem zl_RX2_43 : zIn (.methodLink RX2 43 yX2_readHost) := zin_at 919 (by decide +kernel) (by decide +kernel)
theorem zl_RX2_48 : zIn (.methodLink RX2 48 yX2_readRule) := zin_at 946 (by decide +kernel) (by decide +kernel)
theorem zl_RX2_53 : zIn (.methodLink RX2 53 yX2_readMove) := zin_at 962 (by decide +kernel) (by decide +kernel)
theorem zl_RX2_56 : zIn (.methodLink RX2 56 yX2_fail) := zin_at 882 (by decide +kernel) (by decide +kernel)
theorem zl_RX2_60 : zIn (.methodLink RX2 60 yX2_takeSemicolon) := zin_at 910 (by decide +kernel) (by decide +kernel)
theorem zl_RX2_64 : zIn (.methodLink RX2 64 yX2_takeWord) := zin_at 826 (by decide +kernel) (by decide +kernel)
theorem zl_RX2_67 : zIn (.methodLink RX2 67 yX2_readKeep) := zin_at 887 (by decide +kernel) (by decide +kernel)
theorem zl_RX2_70 : zIn (.methodLink RX2 70 yX2_readPer) := zin_at 900 (by decide +kernel) (by decide +kernel)
theorem zl_RX2_73 : zIn (.methodLink RX2 73 yX2_readPool) := zin_at 905 (by decide +kernel) (by decide +kernel)
theorem zl_RX2_78 : zIn (.methodLinkNest RX2 78 yX6_advance "NetMerge") := zin_at 886 (by decide +kernel) (by decide +kernel)
theorem zl_RX2_81 : zIn (.methodLink RX2 81 yX2_takeNumber) := zin_at 892 (by decide +kernel) (by decide +kernel)
theorem zl_RX2_105 : zIn (.methodLinkNest RX2 105 yX6_letters "NetMerge") := zin_at 923 (by decide +kernel) (by decide +kernel)
theorem zl_RX2_109 : zIn (.methodLinkNest RX2 109 yX6_asName "NetMerge") := zin_at 927 (by decide +kernel) (by decide +kernel)
theorem zl_RX2_113 : zIn (.methodLinkNest RX2 113 yX3_hostNamed "NetMerge") := zin_at 932 (by decide +kernel) (by decide +kernel)
theorem zl_RX2_117 : zIn (.methodLink RX2 117 yX2_isNumber) := zin_at 896 (by decide +kernel) (by decide +kernel)
theorem zl_RX2_123 : zIn (.methodLinkNest RX2 123 yX3_holderInOffice "NetMerge") := zin_at 936 (by decide +kernel) (by decide +kernel)
theorem zl_RX2_127 : zIn (.methodLinkNest RX2 127 yX3_appendHost "NetMerge") := zin_at 940 (by decide +kernel) (by decide +kernel)
theorem zl_RX2_143 : zIn (.methodLink RX2 143 yX2_takeSide) := zin_at 952 (by decide +kernel) (by decide +kernel)
theorem zl_RX2_146 : zIn (.methodLinkNest RX2 146 yX3_appendRule "NetMerge") := zin_at 957 (by decide +kernel) (by decide +kernel)
theorem zl_RX2_155 : zIn (.methodLinkNest RX2 155 yX3_plansIn "NetMerge") := zin_at 966 (by decide +kernel) (by decide +kernel)
theorem zl_RX2_159 : zIn (.methodLinkNest RX2 159 yX3_setPlan "NetMerge") := zin_at 967 (by decide +kernel) (by decide +kernel)
theorem zl_RX2_163 : zIn (.methodLinkNest RX2 163 yX6_isSign "NetMerge") := zin_at 914 (by decide +kernel) (by decide +kernel)
theorem zl_RX3_81 : zIn (.methodLink RX3 81 yX3_keptBy) := zin_at 619 (by decide +kernel) (by decide +kernel)
theorem zl_RX3_85 : zIn (.methodLink RX3 85 yX3_plansIn) := zin_at 654 (by decide +kernel) (by decide +kernel)
theorem zl_RX3_88 : zIn (.methodLink RX3 88 yX3_keepsAt) := zin_at 507 (by decide +kernel) (by decide +kernel)
theorem zl_RX3_92 : zIn (.methodLink RX3 92 yX3_numberAhead) := zin_at 511 (by decide +kernel) (by decide +kernel)
theorem zl_RX3_96 : zIn (.methodLink RX3 96 yX3_inNet) := zin_at 556 (by decide +kernel) (by decide +kernel)
theorem zl_RX3_99 : zIn (.methodLink RX3 99 yX3_movableWith) := zin_at 646 (by decide +kernel) (by decide +kernel)
theorem zl_RX3_102 : zIn (.methodLink RX3 102 yX3_twinOf) := zin_at 1079 (by decide +kernel) (by decide +kernel)
theorem zl_RX3_105 : zIn (.methodLink RX3 105 yX3_firstRule) := zin_at 620 (by decide +kernel) (by decide +kernel)
theorem zl_RX3_109 : zIn (.methodLink RX3 109 yX3_holderInNet) := zin_at 1083 (by decide +kernel) (by decide +kernel)
theorem zl_RX3_112 : zIn (.methodLink RX3 112 yX3_matches) := zin_at 624 (by decide +kernel) (by decide +kernel)
theorem zl_RX3_116 : zIn (.methodLink RX3 116 yX3_isAllowing) := zin_at 627 (by decide +kernel) (by decide +kernel)
theorem zl_RX3_120 : zIn (.methodLink RX3 120 yX3_sideBehindWave) := zin_at 548 (by decide +kernel) (by decide +kernel)
theorem zl_RX3_123 : zIn (.methodLink RX3 123 yX3_setPlan) := zin_at 560 (by decide +kernel) (by decide +kernel)
theorem zl_RX3_127 : zIn (.methodLink RX3 127 yX3_numberedInNet) := zin_at 552 (by decide +kernel) (by decide +kernel)
theorem zl_RX3_130 : zIn (.methodLink RX3 130 yX3_sideAheadOfWave) := zin_at 679 (by decide +kernel) (by decide +kernel)
theorem zl_RX3_133 : zIn (.methodLink RX3 133 yX3_undoMove) := zin_at 683 (by decide +kernel) (by decide +kernel)
theorem zl_RX4_35 : zIn (.methodLinkNest RX4 35 yX6_isWord "NetMerge") := zin_at 1216 (by decide +kernel) (by decide +kernel)
theorem zl_RX4_46 : zIn (.methodLinkNest RX4 46 yX6_advance "NetMerge") := zin_at 1218 (by decide +kernel) (by decide +kernel)
theorem zl_RX4_49 : zIn (.methodLink RX4 49 yX4_readTest) := zin_at 1219 (by decide +kernel) (by decide +kernel)
theorem zl_RX4_56 : zIn (.methodLink RX4 56 yX4_readFactor) := zin_at 1223 (by decide +kernel) (by decide +kernel)
theorem zl_RX4_63 : zIn (.methodLink RX4 63 yX4_addStep) := zin_at 1250 (by decide +kernel) (by decide +kernel)
theorem zl_RX4_68 : zIn (.methodLinkNest RX4 68 yX6_isSign "NetMerge") := zin_at 1228 (by decide +kernel) (by decide +kernel)
theorem zl_RX4_72 : zIn (.methodLink RX4 72 yX4_readComparison) := zin_at 1229 (by decide +kernel) (by decide +kernel)
theorem zl_RX4_75 : zIn (.methodLink RX4 75 yX4_readValue) := zin_at 1233 (by decide +kernel) (by decide +kernel)
theorem zl_RX4_82 : zIn (.methodLink RX4 82 yX4_property) := zin_at 1237 (by decide +kernel) (by decide +kernel)
theorem zl_RX4_113 : zIn (.methodLink RX4 113 yX4_pop) := zin_at 1261 (by decide +kernel) (by decide +kernel)
theorem zl_RX4_119 : zIn (.methodLink RX4 119 yX4_push) := zin_at 1266 (by decide +kernel) (by decide +kernel)
theorem zl_RX4_123 : zIn (.methodLink RX4 123 yX4_compared) := zin_at 1270 (by decide +kernel) (by decide +kernel)
theorem zl_RX4_127 : zIn (.methodLink RX4 127 yX4_findReaches) := zin_at 1274 (by decide +kernel) (by decide +kernel)
theorem zl_RX4_131 : zIn (.methodLink RX4 131 yX4_valueFor) := zin_at 1279 (by decide +kernel) (by decide +kernel)
theorem zl_RX4_135 : zIn (.methodLinkNest RX4 135 yX3_reachOf "NetMerge") := zin_at 1278 (by decide +kernel) (by decide +kernel)
theorem zl_RX4_143 : zIn (.methodLinkNest RX4 143 yX3_keptBy "NetMerge") := zin_at 1283 (by decide +kernel) (by decide +kernel)
theorem zl_RX4_154 : zIn (.methodLinkNest RX4 154 yX5_isClash "NetMerge") := zin_at 1284 (by decide +kernel) (by decide +kernel)
theorem zl_RX5_21 : zIn (.methodLink RX5 21 yJ7_fill_53178) := zin_at 500 (by decide +kernel) (by decide +kernel)
theorem zl_RX5_36 : zIn (.methodLinkNest RX5 36 yX3_keptBy "NetMerge") := zin_at 503 (by decide +kernel) (by decide +kernel)
theorem zl_RX5_43 : zIn (.methodLink RX5 43 yX5_addOne) := zin_at 515 (by decide +kernel) (by decide +kernel)
theorem zl_RX5_49 : zIn (.methodLink RX5 49 yX5_isClash) := zin_at 572 (by decide +kernel) (by decide +kernel)
theorem zl_RX6_31 : zIn (.methodLink RX6 31 yX6_advance) := zin_at 806 (by decide +kernel) (by decide +kernel)
theorem zl_RX6_43 : zIn (.methodLink RX6 43 yX6_isLetter) := zin_at 810 (by decide +kernel) (by decide +kernel)
theorem zl_RX6_47 : zIn (.methodLink RX6 47 yX6_isDigit) := zin_at 813 (by decide +kernel) (by decide +kernel)
theorem zl_RX6_50 : zIn (.methodLink RX6 50 yJ0_length_8abf5) := zin_at 834 (by decide +kernel) (by decide +kernel)
theorem zl_RX6_55 : zIn (.methodLink RX6 55 yJ0_charAt_5068e) := zin_at 844 (by decide +kernel) (by decide +kernel)
theorem zl_RX6_59 : zIn (.methodLink RX6 59 yX6_letters) := zin_at 931 (by decide +kernel) (by decide +kernel)
theorem zl_RL_7 : zIn (.methodLink RL 7 yX7_load) := zin_at 735 (by decide +kernel) (by decide +kernel)
theorem zl_RL_15 : zIn (.methodLink RL 15 yX7_size) := zin_at 972 (by decide +kernel) (by decide +kernel)
theorem zl_RL_20 : zIn (.methodLink RL 20 yX7_host) := zin_at 1002 (by decide +kernel) (by decide +kernel)
theorem zl_RL_24 : zIn (.methodLink RL 24 yX7_name) := zin_at 1014 (by decide +kernel) (by decide +kernel)
theorem zl_RL_27 : zIn (.methodLink RL 27 yX7_holder) := zin_at 1024 (by decide +kernel) (by decide +kernel)
theorem zl_RL_30 : zIn (.methodLink RL 30 yX7_clash) := zin_at 1038 (by decide +kernel) (by decide +kernel)
theorem zl_RL_33 : zIn (.methodLink RL 33 yX7_plans) := zin_at 1049 (by decide +kernel) (by decide +kernel)
theorem zl_RL_36 : zIn (.methodLink RL 36 yX7_rule) := zin_at 1060 (by decide +kernel) (by decide +kernel)
theorem zl_RL_39 : zIn (.methodLink RL 39 yX7_decides) := zin_at 1071 (by decide +kernel) (by decide +kernel)
theorem zl_RL_43 : zIn (.methodLink RL 43 yX7_allows) := zin_at 1090 (by decide +kernel) (by decide +kernel)
theorem zl_RL_47 : zIn (.methodLink RL 47 yX7_reach) := zin_at 1098 (by decide +kernel) (by decide +kernel)
theorem zl_RL_50 : zIn (.methodLink RL 50 yX7_clashesIn) := zin_at 1105 (by decide +kernel) (by decide +kernel)
theorem zl_RL_53 : zIn (.methodLink RL 53 yX7_addHost) := zin_at 1112 (by decide +kernel) (by decide +kernel)
theorem zl_RL_56 : zIn (.methodLink RL 56 yX7_removeHost) := zin_at 1121 (by decide +kernel) (by decide +kernel)
theorem zl_RL_59 : zIn (.methodLink RL 59 yX7_plan) := zin_at 1132 (by decide +kernel) (by decide +kernel)
theorem zl_RL_62 : zIn (.methodLink RL 62 yX7_unplan) := zin_at 1139 (by decide +kernel) (by decide +kernel)
theorem zl_RL_65 : zIn (.methodLink RL 65 yX7_addRule) := zin_at 1146 (by decide +kernel) (by decide +kernel)
theorem zl_RL_69 : zIn (.methodLink RL 69 yX7_removeRule) := zin_at 1157 (by decide +kernel) (by decide +kernel)
theorem zl_RL_72 : zIn (.methodLink RL 72 yX7_setKeep) := zin_at 1168 (by decide +kernel) (by decide +kernel)
theorem zl_RL_75 : zIn (.methodLink RL 75 yX7_setPinned) := zin_at 1175 (by decide +kernel) (by decide +kernel)
theorem zl_RL_79 : zIn (.methodLink RL 79 yX7_format) := zin_at 1182 (by decide +kernel) (by decide +kernel)
theorem zl_RL_82 : zIn (.methodLink RL 82 yX7_query) := zin_at 1207 (by decide +kernel) (by decide +kernel)
theorem zl_RX8_50 : zIn (.methodLink RX8 50 yX8_begins) := zin_at 1304 (by decide +kernel) (by decide +kernel)
theorem zl_RX8_53 : zIn (.methodLink RX8 53 yX8_copies) := zin_at 1308 (by decide +kernel) (by decide +kernel)
theorem zl_RX8_60 : zIn (.methodLink RX8 60 yX8_lays) := zin_at 1403 (by decide +kernel) (by decide +kernel)
theorem zl_RX8_74 : zIn (.methodLink RX8 74 yX8_byteAt) := zin_at 1430 (by decide +kernel) (by decide +kernel)
theorem zl_RX8_78 : zIn (.methodLink RX8 78 yX8_isLetter) := zin_at 1434 (by decide +kernel) (by decide +kernel)
theorem zl_RX8_95 : zIn (.methodLink RX8 95 yX8_isFigure) := zin_at 1443 (by decide +kernel) (by decide +kernel)
theorem zl_RX8_99 : zIn (.methodLink RX8 99 yX8_readsWord) := zin_at 1437 (by decide +kernel) (by decide +kernel)
theorem zl_RX8_102 : zIn (.methodLink RX8 102 yX8_readsNumber) := zin_at 1446 (by decide +kernel) (by decide +kernel)
theorem zl_RX8_108 : zIn (.methodLink RX8 108 yX8_next) := zin_at 1426 (by decide +kernel) (by decide +kernel)
theorem zl_RX8_111 : zIn (.methodLink RX8 111 yX8_isGood) := zin_at 1468 (by decide +kernel) (by decide +kernel)
theorem zl_RX8_115 : zIn (.methodLink RX8 115 yX8_isWord) := zin_at 1464 (by decide +kernel) (by decide +kernel)
theorem zl_RX8_119 : zIn (.methodLink RX8 119 yX8_isByte) := zin_at 1487 (by decide +kernel) (by decide +kernel)
theorem zl_RX8_122 : zIn (.methodLink RX8 122 yX8_wrongs) := zin_at 1472 (by decide +kernel) (by decide +kernel)
theorem zl_RX8_125 : zIn (.methodLink RX8 125 yX8_in) := zin_at 1415 (by decide +kernel) (by decide +kernel)
theorem zl_RX8_129 : zIn (.methodLink RX8 129 yX8_cell) := zin_at 1504 (by decide +kernel) (by decide +kernel)
theorem zl_RX8_135 : zIn (.methodLink RX8 135 yX8_passes) := zin_at 1460 (by decide +kernel) (by decide +kernel)
theorem zl_RX8_140 : zIn (.methodLink RX8 140 yX8_number) := zin_at 1477 (by decide +kernel) (by decide +kernel)
theorem zl_RX8_147 : zIn (.methodLink RX8 147 yX8_must) := zin_at 1483 (by decide +kernel) (by decide +kernel)
theorem zl_RX8_150 : zIn (.methodLink RX8 150 yX8_toldHost) := zin_at 1500 (by decide +kernel) (by decide +kernel)
theorem zl_RX8_154 : zIn (.methodLink RX8 154 yX8_readsName) := zin_at 1496 (by decide +kernel) (by decide +kernel)
theorem zl_RX8_159 : zIn (.methodLink RX8 159 yX8_isTold) := zin_at 1508 (by decide +kernel) (by decide +kernel)
theorem zl_RX8_167 : zIn (.methodLink RX8 167 yX8_ruleCell) := zin_at 1518 (by decide +kernel) (by decide +kernel)
theorem zl_RX8_174 : zIn (.methodLink RX8 174 yX8_side) := zin_at 1523 (by decide +kernel) (by decide +kernel)
theorem zl_RX8_179 : zIn (.methodLink RX8 179 yX8_plansIn) := zin_at 1534 (by decide +kernel) (by decide +kernel)
theorem zl_RX8_183 : zIn (.methodLink RX8 183 yX8_readsHead) := zin_at 1455 (by decide +kernel) (by decide +kernel)
theorem zl_RX8_188 : zIn (.methodLink RX8 188 yX8_readsHost) := zin_at 1492 (by decide +kernel) (by decide +kernel)
theorem zl_RX8_193 : zIn (.methodLink RX8 193 yX8_readsRule) := zin_at 1514 (by decide +kernel) (by decide +kernel)
theorem zl_RX8_198 : zIn (.methodLink RX8 198 yX8_readsMove) := zin_at 1529 (by decide +kernel) (by decide +kernel)
theorem zl_RX8_201 : zIn (.methodLink RX8 201 yX8_fails) := zin_at 1418 (by decide +kernel) (by decide +kernel)
theorem zl_RX8_205 : zIn (.methodLink RX8 205 yX8_starts) := zin_at 1422 (by decide +kernel) (by decide +kernel)
theorem zl_RX8_208 : zIn (.methodLink RX8 208 yX8_readsAll) := zin_at 1451 (by decide +kernel) (by decide +kernel)
theorem zl_RX8_218 : zIn (.methodLink RX8 218 yX8_of) := zin_at 1547 (by decide +kernel) (by decide +kernel)
theorem zl_RX8_221 : zIn (.methodLink RX8 221 yX8_latest) := zin_at 1575 (by decide +kernel) (by decide +kernel)
theorem zl_RX8_224 : zIn (.methodLink RX8 224 yX8_keptAt) := zin_at 1571 (by decide +kernel) (by decide +kernel)
theorem zl_RX8_227 : zIn (.methodLink RX8 227 yX8_kept) := zin_at 1567 (by decide +kernel) (by decide +kernel)
theorem zl_RX8_230 : zIn (.methodLink RX8 230 yX8_holds) := zin_at 1563 (by decide +kernel) (by decide +kernel)
theorem zl_RX8_233 : zIn (.methodLink RX8 233 yX8_areOfNet) := zin_at 1658 (by decide +kernel) (by decide +kernel)
theorem zl_RX8_236 : zIn (.methodLink RX8 236 yX8_holderOf) := zin_at 1559 (by decide +kernel) (by decide +kernel)
theorem zl_RX8_239 : zIn (.methodLink RX8 239 yX8_isClash) := zin_at 1555 (by decide +kernel) (by decide +kernel)
theorem zl_RX8_242 : zIn (.methodLink RX8 242 yX8_isOfNet) := zin_at 1638 (by decide +kernel) (by decide +kernel)
theorem zl_RX8_245 : zIn (.methodLink RX8 245 yX8_isMoving) := zin_at 1690 (by decide +kernel) (by decide +kernel)
theorem zl_RX8_251 : zIn (.methodLink RX8 251 yX8_laysLeads) := zin_at 1698 (by decide +kernel) (by decide +kernel)
theorem zl_RX8_254 : zIn (.methodLink RX8 254 yX8_leadsTo) := zin_at 1702 (by decide +kernel) (by decide +kernel)
theorem zl_RX8_258 : zIn (.methodLink RX8 258 yX8_rewrites0) := zin_at 1706 (by decide +kernel) (by decide +kernel)
theorem zl_RX8_264 : zIn (.methodLink RX8 264 yX8_isBound) := zin_at 1686 (by decide +kernel) (by decide +kernel)
theorem zl_RX8_267 : zIn (.methodLink RX8 267 yX8_moves) := zin_at 1694 (by decide +kernel) (by decide +kernel)
theorem zl_RX8_270 : zIn (.methodLink RX8 270 yX8_twice) := zin_at 1710 (by decide +kernel) (by decide +kernel)
theorem zl_RX8_273 : zIn (.methodLink RX8 273 yX8_matches) := zin_at 1634 (by decide +kernel) (by decide +kernel)
theorem zl_RX8_277 : zIn (.methodLink RX8 277 yX8_decidesOf) := zin_at 1630 (by decide +kernel) (by decide +kernel)
theorem zl_RX8_281 : zIn (.methodLink RX8 281 yX8_allowsFor) := zin_at 1646 (by decide +kernel) (by decide +kernel)
theorem zl_RX8_286 : zIn (.methodLink RX8 286 yX8_plansNow) := zin_at 1543 (by decide +kernel) (by decide +kernel)
theorem zl_RX8_289 : zIn (.methodLink RX8 289 yX8_clashes) := zin_at 1551 (by decide +kernel) (by decide +kernel)
theorem zl_RX8_292 : zIn (.methodLink RX8 292 yX8_keeping) := zin_at 1579 (by decide +kernel) (by decide +kernel)
theorem zl_RX8_295 : zIn (.methodLink RX8 295 yX8_isHost) := zin_at 1587 (by decide +kernel) (by decide +kernel)
theorem zl_RX8_300 : zIn (.methodLink RX8 300 yX8_isOffice) := zin_at 1600 (by decide +kernel) (by decide +kernel)
theorem zl_RX8_303 : zIn (.methodLink RX8 303 yX8_isNumber) := zin_at 1603 (by decide +kernel) (by decide +kernel)
theorem zl_RX8_306 : zIn (.methodLink RX8 306 yX8_isWave) := zin_at 1614 (by decide +kernel) (by decide +kernel)
theorem zl_RX8_309 : zIn (.methodLink RX8 309 yX8_isRule) := zin_at 1621 (by decide +kernel) (by decide +kernel)
theorem zl_RX8_314 : zIn (.methodLink RX8 314 yX8_reachOf) := zin_at 1654 (by decide +kernel) (by decide +kernel)
theorem zl_RX8_317 : zIn (.methodLink RX8 317 yX8_isFree) := zin_at 1670 (by decide +kernel) (by decide +kernel)
theorem zl_RX8_320 : zIn (.methodLink RX8 320 yX8_firstFree) := zin_at 1666 (by decide +kernel) (by decide +kernel)
theorem zl_RX8_323 : zIn (.methodLink RX8 323 yX8_laysAside) := zin_at 1678 (by decide +kernel) (by decide +kernel)
theorem zl_RX8_326 : zIn (.methodLink RX8 326 yX8_movesIf) := zin_at 1682 (by decide +kernel) (by decide +kernel)
theorem zl_RX8_329 : zIn (.methodLink RX8 329 yX8_laysBack) := zin_at 1714 (by decide +kernel) (by decide +kernel)
theorem zl_RX8_332 : zIn (.methodLink RX8 332 yX8_isHeldIn) := zin_at 1746 (by decide +kernel) (by decide +kernel)
theorem zl_RX8_335 : zIn (.methodLink RX8 335 yX8_keeps) := zin_at 1750 (by decide +kernel) (by decide +kernel)
theorem zl_RX8_339 : zIn (.methodLink RX8 339 yX8_drops) := zin_at 1766 (by decide +kernel) (by decide +kernel)
theorem zl_RX8_342 : zIn (.methodLink RX8 342 yX8_choosen) := zin_at 1774 (by decide +kernel) (by decide +kernel)
theorem zl_RX8_345 : zIn (.methodLink RX8 345 yX8_firstWave) := zin_at 1778 (by decide +kernel) (by decide +kernel)
theorem zl_RX8_348 : zIn (.methodLink RX8 348 yX8_goesBack) := zin_at 1790 (by decide +kernel) (by decide +kernel)
theorem zl_RX8_351 : zIn (.methodLink RX8 351 yX8_isSide) := zin_at 1806 (by decide +kernel) (by decide +kernel)
theorem zl_RX8_357 : zIn (.methodLink RX8 357 yX8_writes) := zin_at 1841 (by decide +kernel) (by decide +kernel)
theorem zl_RX8_360 : zIn (.methodLink RX8 360 yX8_writesNumber) := zin_at 1845 (by decide +kernel) (by decide +kernel)
theorem zl_RX8_380 : zIn (.methodLink RX8 380 yX8_adds) := zin_at 1879 (by decide +kernel) (by decide +kernel)
theorem zl_RX8_383 : zIn (.methodLink RX8 383 yX8_propertyHere) := zin_at 1883 (by decide +kernel) (by decide +kernel)
theorem zl_RX8_392 : zIn (.methodLink RX8 392 yX8_strength) := zin_at 1902 (by decide +kernel) (by decide +kernel)
theorem zl_RX8_397 : zIn (.methodLink RX8 397 yX8_goesIn) := zin_at 1871 (by decide +kernel) (by decide +kernel)
theorem zl_RX8_400 : zIn (.methodLink RX8 400 yX8_valueRead) := zin_at 1875 (by decide +kernel) (by decide +kernel)
theorem zl_RX8_403 : zIn (.methodLink RX8 403 yX8_settles) := zin_at 1898 (by decide +kernel) (by decide +kernel)
theorem zl_RX8_406 : zIn (.methodLink RX8 406 yX8_isInside) := zin_at 1905 (by decide +kernel) (by decide +kernel)
theorem zl_RX8_409 : zIn (.methodLink RX8 409 yX8_comparisonRead) := zin_at 1866 (by decide +kernel) (by decide +kernel)
theorem zl_RX8_412 : zIn (.methodLink RX8 412 yX8_closes) := zin_at 1894 (by decide +kernel) (by decide +kernel)
theorem zl_RX8_419 : zIn (.methodLink RX8 419 yX8_hasClash) := zin_at 1925 (by decide +kernel) (by decide +kernel)
theorem zl_RX8_426 : zIn (.methodLink RX8 426 yX8_joined) := zin_at 1918 (by decide +kernel) (by decide +kernel)
theorem zl_RX8_429 : zIn (.methodLink RX8 429 yX8_propertyOf) := zin_at 1921 (by decide +kernel) (by decide +kernel)
theorem zl_RX8_432 : zIn (.methodLink RX8 432 yX8_lesser) := zin_at 1857 (by decide +kernel) (by decide +kernel)
theorem zl_RX8_439 : zIn (.methodLink RX8 439 yX8_reads) := zin_at 1862 (by decide +kernel) (by decide +kernel)
theorem zl_RX8_443 : zIn (.methodLink RX8 443 yX8_holds_) := zin_at 1912 (by decide +kernel) (by decide +kernel)
theorem zc_J13_bitCount_95d88 : zCl yJ13_bitCount_95d88 cJ13_bitCount_95d88 2 (some .int) 1 := ⟨zin_at 188 (by decide +kernel) (by decide +kernel), zin_at 1287 (by decide +kernel) (by decide +kernel), by decide, by decide +kernel⟩
theorem zc_J7_fill_53178 : zCl yJ7_fill_53178 cJ7_fill_53178 4 none 2 := ⟨zin_at 186 (by decide +kernel) (by decide +kernel), zin_at 502 (by decide +kernel) (by decide +kernel), by decide, by decide +kernel⟩
theorem zc_X0_add : zCl yX0_add cX0_add 3 none 1 := ⟨zin_at 169 (by decide +kernel) (by decide +kernel), zin_at 638 (by decide +kernel) (by decide +kernel), by decide, by decide +kernel⟩
theorem zc_X0_clear : zCl yX0_clear cX0_clear 1 none 0 := ⟨zin_at 169 (by decide +kernel) (by decide +kernel), zin_at 730 (by decide +kernel) (by decide +kernel), by decide, by decide +kernel⟩
theorem zc_X0_takeNewest : zCl yX0_takeNewest cX0_takeNewest 3 none 1 := ⟨zin_at 169 (by decide +kernel) (by decide +kernel), zin_at 718 (by decide +kernel) (by decide +kernel), by decide, by decide +kernel⟩
theorem zc_X1_addName : zCl yX1_addName cX1_addName 4 none 1 := ⟨zin_at 174 (by decide +kernel) (by decide +kernel), zin_at 1193 (by decide +kernel) (by decide +kernel), by decide, by decide +kernel⟩
theorem zc_X1_addNumber : zCl yX1_addNumber cX1_addNumber 2 none 1 := ⟨zin_at 174 (by decide +kernel) (by decide +kernel), zin_at 1203 (by decide +kernel) (by decide +kernel), by decide, by decide +kernel⟩
theorem zc_X1_addSign : zCl yX1_addSign cX1_addSign 2 none 1 := ⟨zin_at 174 (by decide +kernel) (by decide +kernel), zin_at 1198 (by decide +kernel) (by decide +kernel), by decide, by decide +kernel⟩
theorem zc_X1_byteAt : zCl yX1_byteAt cX1_byteAt 2 (some .int) 1 := ⟨zin_at 174 (by decide +kernel) (by decide +kernel), zin_at 706 (by decide +kernel) (by decide +kernel), by decide, by decide +kernel⟩
theorem zc_X1_clear : zCl yX1_clear cX1_clear 1 none 0 := ⟨zin_at 174 (by decide +kernel) (by decide +kernel), zin_at 1189 (by decide +kernel) (by decide +kernel), by decide, by decide +kernel⟩
theorem zc_X2_fail : zCl yX2_fail cX2_fail 2 (some .boolean) 1 := ⟨zin_at 172 (by decide +kernel) (by decide +kernel), zin_at 885 (by decide +kernel) (by decide +kernel), by decide, by decide +kernel⟩
theorem zc_X2_isNumber : zCl yX2_isNumber cX2_isNumber 4 (some .boolean) 2 := ⟨zin_at 172 (by decide +kernel) (by decide +kernel), zin_at 899 (by decide +kernel) (by decide +kernel), by decide, by decide +kernel⟩
theorem zc_X2_readHead : zCl yX2_readHead cX2_readHead 1 (some .boolean) 0 := ⟨zin_at 172 (by decide +kernel) (by decide +kernel), zin_at 824 (by decide +kernel) (by decide +kernel), by decide, by decide +kernel⟩
theorem zc_X2_readHost : zCl yX2_readHost cX2_readHost 5 (some .boolean) 0 := ⟨zin_at 172 (by decide +kernel) (by decide +kernel), zin_at 922 (by decide +kernel) (by decide +kernel), by decide, by decide +kernel⟩
theorem zc_X2_readKeep : zCl yX2_readKeep cX2_readKeep 1 (some .boolean) 0 := ⟨zin_at 172 (by decide +kernel) (by decide +kernel), zin_at 890 (by decide +kernel) (by decide +kernel), by decide, by decide +kernel⟩
theorem zc_X2_readMove : zCl yX2_readMove cX2_readMove 3 (some .boolean) 0 := ⟨zin_at 172 (by decide +kernel) (by decide +kernel), zin_at 965 (by decide +kernel) (by decide +kernel), by decide, by decide +kernel⟩
theorem zc_X2_readPer : zCl yX2_readPer cX2_readPer 1 (some .boolean) 0 := ⟨zin_at 172 (by decide +kernel) (by decide +kernel), zin_at 903 (by decide +kernel) (by decide +kernel), by decide, by decide +kernel⟩
theorem zc_X2_readPool : zCl yX2_readPool cX2_readPool 1 (some .boolean) 0 := ⟨zin_at 172 (by decide +kernel) (by decide +kernel), zin_at 908 (by decide +kernel) (by decide +kernel), by decide, by decide +kernel⟩
theorem zc_X2_readRule : zCl yX2_readRule cX2_readRule 4 (some .boolean) 0 := ⟨zin_at 172 (by decide +kernel) (by decide +kernel), zin_at 949 (by decide +kernel) (by decide +kernel), by decide, by decide +kernel⟩
theorem zc_X2_readText : zCl yX2_readText cX2_readText 3 (some .int) 0 := ⟨zin_at 172 (by decide +kernel) (by decide +kernel), zin_at 819 (by decide +kernel) (by decide +kernel), by decide, by decide +kernel⟩
theorem zc_X2_takeNumber : zCl yX2_takeNumber cX2_takeNumber 3 (some .boolean) 2 := ⟨zin_at 172 (by decide +kernel) (by decide +kernel), zin_at 895 (by decide +kernel) (by decide +kernel), by decide, by decide +kernel⟩
theorem zc_X2_takeSemicolon : zCl yX2_takeSemicolon cX2_takeSemicolon 1 (some .boolean) 0 := ⟨zin_at 172 (by decide +kernel) (by decide +kernel), zin_at 913 (by decide +kernel) (by decide +kernel), by decide, by decide +kernel⟩
theorem zc_X2_takeSide : zCl yX2_takeSide cX2_takeSide 1 (some .boolean) 0 := ⟨zin_at 172 (by decide +kernel) (by decide +kernel), zin_at 955 (by decide +kernel) (by decide +kernel), by decide, by decide +kernel⟩
theorem zc_X2_takeWord : zCl yX2_takeWord cX2_takeWord 2 (some .boolean) 1 := ⟨zin_at 172 (by decide +kernel) (by decide +kernel), zin_at 829 (by decide +kernel) (by decide +kernel), by decide, by decide +kernel⟩
theorem zc_X3_appendHost : zCl yX3_appendHost cX3_appendHost 7 (some .int) 3 := ⟨zin_at 168 (by decide +kernel) (by decide +kernel), zin_at 943 (by decide +kernel) (by decide +kernel), by decide, by decide +kernel⟩
theorem zc_X3_appendRule : zCl yX3_appendRule cX3_appendRule 6 (some .int) 4 := ⟨zin_at 168 (by decide +kernel) (by decide +kernel), zin_at 960 (by decide +kernel) (by decide +kernel), by decide, by decide +kernel⟩
theorem zc_X3_chosenToMove : zCl yX3_chosenToMove cX3_chosenToMove 3 (some .int) 1 := ⟨zin_at 168 (by decide +kernel) (by decide +kernel), zin_at 645 (by decide +kernel) (by decide +kernel), by decide, by decide +kernel⟩
theorem zc_X3_clear : zCl yX3_clear cX3_clear 1 none 0 := ⟨zin_at 168 (by decide +kernel) (by decide +kernel), zin_at 445 (by decide +kernel) (by decide +kernel), by decide, by decide +kernel⟩
theorem zc_X3_copyFrom : zCl yX3_copyFrom cX3_copyFrom 2 none 1 := ⟨zin_at 168 (by decide +kernel) (by decide +kernel), zin_at 532 (by decide +kernel) (by decide +kernel), by decide, by decide +kernel⟩
theorem zc_X3_decidingRule : zCl yX3_decidingRule cX3_decidingRule 4 (some .int) 3 := ⟨zin_at 168 (by decide +kernel) (by decide +kernel), zin_at 1078 (by decide +kernel) (by decide +kernel), by decide, by decide +kernel⟩
theorem zc_X3_doWave : zCl yX3_doWave cX3_doWave 3 (some .int) 0 := ⟨zin_at 168 (by decide +kernel) (by decide +kernel), zin_at 547 (by decide +kernel) (by decide +kernel), by decide, by decide +kernel⟩
theorem zc_X3_dropHost : zCl yX3_dropHost cX3_dropHost 3 none 1 := ⟨zin_at 168 (by decide +kernel) (by decide +kernel), zin_at 1128 (by decide +kernel) (by decide +kernel), by decide, by decide +kernel⟩
theorem zc_X3_dropRule : zCl yX3_dropRule cX3_dropRule 3 none 1 := ⟨zin_at 168 (by decide +kernel) (by decide +kernel), zin_at 1164 (by decide +kernel) (by decide +kernel), by decide, by decide +kernel⟩
theorem zc_X3_firstRule : zCl yX3_firstRule cX3_firstRule 7 (some .int) 5 := ⟨zin_at 168 (by decide +kernel) (by decide +kernel), zin_at 623 (by decide +kernel) (by decide +kernel), by decide, by decide +kernel⟩
theorem zc_X3_firstWaveWithRoom : zCl yX3_firstWaveWithRoom cX3_firstWaveWithRoom 2 (some .int) 0 := ⟨zin_at 168 (by decide +kernel) (by decide +kernel), zin_at 653 (by decide +kernel) (by decide +kernel), by decide, by decide +kernel⟩
theorem zc_X3_holderInNet : zCl yX3_holderInNet cX3_holderInNet 4 (some .int) 2 := ⟨zin_at 168 (by decide +kernel) (by decide +kernel), zin_at 1086 (by decide +kernel) (by decide +kernel), by decide, by decide +kernel⟩
theorem zc_X3_holderInOffice : zCl yX3_holderInOffice cX3_holderInOffice 4 (some .int) 2 := ⟨zin_at 168 (by decide +kernel) (by decide +kernel), zin_at 939 (by decide +kernel) (by decide +kernel), by decide, by decide +kernel⟩
theorem zc_X3_hostNamed : zCl yX3_hostNamed cX3_hostNamed 4 (some .int) 1 := ⟨zin_at 168 (by decide +kernel) (by decide +kernel), zin_at 935 (by decide +kernel) (by decide +kernel), by decide, by decide +kernel⟩
theorem zc_X3_hostsOfOffice : zCl yX3_hostsOfOffice cX3_hostsOfOffice 4 (some .int) 1 := ⟨zin_at 168 (by decide +kernel) (by decide +kernel), zin_at 698 (by decide +kernel) (by decide +kernel), by decide, by decide +kernel⟩
theorem zc_X3_inNet : zCl yX3_inNet cX3_inNet 3 (some .boolean) 2 := ⟨zin_at 168 (by decide +kernel) (by decide +kernel), zin_at 559 (by decide +kernel) (by decide +kernel), by decide, by decide +kernel⟩
theorem zc_X3_isAllowing : zCl yX3_isAllowing cX3_isAllowing 2 (some .boolean) 1 := ⟨zin_at 168 (by decide +kernel) (by decide +kernel), zin_at 630 (by decide +kernel) (by decide +kernel), by decide, by decide +kernel⟩
theorem zc_X3_keeperCount : zCl yX3_keeperCount cX3_keeperCount 3 (some .int) 0 := ⟨zin_at 168 (by decide +kernel) (by decide +kernel), zin_at 983 (by decide +kernel) (by decide +kernel), by decide, by decide +kernel⟩
theorem zc_X3_keeperWouldMove : zCl yX3_keeperWouldMove cX3_keeperWouldMove 2 (some .boolean) 0 := ⟨zin_at 168 (by decide +kernel) (by decide +kernel), zin_at 543 (by decide +kernel) (by decide +kernel), by decide, by decide +kernel⟩
theorem zc_X3_keepsAt : zCl yX3_keepsAt cX3_keepsAt 4 (some .boolean) 2 := ⟨zin_at 168 (by decide +kernel) (by decide +kernel), zin_at 510 (by decide +kernel) (by decide +kernel), by decide, by decide +kernel⟩
theorem zc_X3_keptBy : zCl yX3_keptBy cX3_keptBy 2 (some .int) 1 := ⟨zin_at 168 (by decide +kernel) (by decide +kernel), zin_at 506 (by decide +kernel) (by decide +kernel), by decide, by decide +kernel⟩
theorem zc_X3_matches : zCl yX3_matches cX3_matches 3 (some .boolean) 3 := ⟨zin_at 168 (by decide +kernel) (by decide +kernel), zin_at 626 (by decide +kernel) (by decide +kernel), by decide, by decide +kernel⟩
theorem zc_X3_movableWith : zCl yX3_movableWith cX3_movableWith 4 (some .int) 2 := ⟨zin_at 168 (by decide +kernel) (by decide +kernel), zin_at 649 (by decide +kernel) (by decide +kernel), by decide, by decide +kernel⟩
theorem zc_X3_movedCount : zCl yX3_movedCount cX3_movedCount 3 (some .int) 0 := ⟨zin_at 168 (by decide +kernel) (by decide +kernel), zin_at 610 (by decide +kernel) (by decide +kernel), by decide, by decide +kernel⟩
theorem zc_X3_numberAhead : zCl yX3_numberAhead cX3_numberAhead 3 (some .int) 2 := ⟨zin_at 168 (by decide +kernel) (by decide +kernel), zin_at 514 (by decide +kernel) (by decide +kernel), by decide, by decide +kernel⟩
theorem zc_X3_numberedInNet : zCl yX3_numberedInNet cX3_numberedInNet 4 (some .int) 2 := ⟨zin_at 168 (by decide +kernel) (by decide +kernel), zin_at 555 (by decide +kernel) (by decide +kernel), by decide, by decide +kernel⟩
theorem zc_X3_planCount : zCl yX3_planCount cX3_planCount 3 (some .int) 0 := ⟨zin_at 168 (by decide +kernel) (by decide +kernel), zin_at 979 (by decide +kernel) (by decide +kernel), by decide, by decide +kernel⟩
theorem zc_X3_plansIn : zCl yX3_plansIn cX3_plansIn 4 (some .int) 1 := ⟨zin_at 168 (by decide +kernel) (by decide +kernel), zin_at 657 (by decide +kernel) (by decide +kernel), by decide, by decide +kernel⟩
theorem zc_X3_reachOf : zCl yX3_reachOf cX3_reachOf 6 (some .int) 1 := ⟨zin_at 168 (by decide +kernel) (by decide +kernel), zin_at 618 (by decide +kernel) (by decide +kernel), by decide, by decide +kernel⟩
theorem zc_X3_setPlan : zCl yX3_setPlan cX3_setPlan 4 none 3 := ⟨zin_at 168 (by decide +kernel) (by decide +kernel), zin_at 563 (by decide +kernel) (by decide +kernel), by decide, by decide +kernel⟩
theorem zc_X3_sideAheadOfWave : zCl yX3_sideAheadOfWave cX3_sideAheadOfWave 4 (some .int) 2 := ⟨zin_at 168 (by decide +kernel) (by decide +kernel), zin_at 682 (by decide +kernel) (by decide +kernel), by decide, by decide +kernel⟩
theorem zc_X3_sideBehindWave : zCl yX3_sideBehindWave cX3_sideBehindWave 4 (some .int) 2 := ⟨zin_at 168 (by decide +kernel) (by decide +kernel), zin_at 551 (by decide +kernel) (by decide +kernel), by decide, by decide +kernel⟩
theorem zc_X3_sidesUnlike : zCl yX3_sidesUnlike cX3_sidesUnlike 4 (some .int) 1 := ⟨zin_at 168 (by decide +kernel) (by decide +kernel), zin_at 590 (by decide +kernel) (by decide +kernel), by decide, by decide +kernel⟩
theorem zc_X3_twinOf : zCl yX3_twinOf cX3_twinOf 4 (some .int) 2 := ⟨zin_at 168 (by decide +kernel) (by decide +kernel), zin_at 1082 (by decide +kernel) (by decide +kernel), by decide, by decide +kernel⟩
theorem zc_X3_undoMove : zCl yX3_undoMove cX3_undoMove 3 none 1 := ⟨zin_at 168 (by decide +kernel) (by decide +kernel), zin_at 686 (by decide +kernel) (by decide +kernel), by decide, by decide +kernel⟩
theorem zc_X3_undoWave : zCl yX3_undoWave cX3_undoWave 2 none 0 := ⟨zin_at 168 (by decide +kernel) (by decide +kernel), zin_at 678 (by decide +kernel) (by decide +kernel), by decide, by decide +kernel⟩
theorem zc_X4_addStep : zCl yX4_addStep cX4_addStep 2 none 1 := ⟨zin_at 173 (by decide +kernel) (by decide +kernel), zin_at 1253 (by decide +kernel) (by decide +kernel), by decide, by decide +kernel⟩
theorem zc_X4_compared : zCl yX4_compared cX4_compared 11 (some .long) 5 := ⟨zin_at 173 (by decide +kernel) (by decide +kernel), zin_at 1273 (by decide +kernel) (by decide +kernel), by decide, by decide +kernel⟩
theorem zc_X4_findReaches : zCl yX4_findReaches cX4_findReaches 3 none 1 := ⟨zin_at 173 (by decide +kernel) (by decide +kernel), zin_at 1277 (by decide +kernel) (by decide +kernel), by decide, by decide +kernel⟩
theorem zc_X4_hostsThatPass : zCl yX4_hostsThatPass cX4_hostsThatPass 7 (some .long) 2 := ⟨zin_at 173 (by decide +kernel) (by decide +kernel), zin_at 1260 (by decide +kernel) (by decide +kernel), by decide, by decide +kernel⟩
theorem zc_X4_pop : zCl yX4_pop cX4_pop 1 (some .long) 0 := ⟨zin_at 173 (by decide +kernel) (by decide +kernel), zin_at 1264 (by decide +kernel) (by decide +kernel), by decide, by decide +kernel⟩
theorem zc_X4_property : zCl yX4_property cX4_property 1 (some .int) 0 := ⟨zin_at 173 (by decide +kernel) (by decide +kernel), zin_at 1240 (by decide +kernel) (by decide +kernel), by decide, by decide +kernel⟩
theorem zc_X4_push : zCl yX4_push cX4_push 3 none 1 := ⟨zin_at 173 (by decide +kernel) (by decide +kernel), zin_at 1269 (by decide +kernel) (by decide +kernel), by decide, by decide +kernel⟩
theorem zc_X4_readComparison : zCl yX4_readComparison cX4_readComparison 4 none 0 := ⟨zin_at 173 (by decide +kernel) (by decide +kernel), zin_at 1232 (by decide +kernel) (by decide +kernel), by decide, by decide +kernel⟩
theorem zc_X4_readFactor : zCl yX4_readFactor cX4_readFactor 3 none 1 := ⟨zin_at 173 (by decide +kernel) (by decide +kernel), zin_at 1226 (by decide +kernel) (by decide +kernel), by decide, by decide +kernel⟩
theorem zc_X4_readQuery : zCl yX4_readQuery cX4_readQuery 1 (some .int) 0 := ⟨zin_at 173 (by decide +kernel) (by decide +kernel), zin_at 1214 (by decide +kernel) (by decide +kernel), by decide, by decide +kernel⟩
theorem zc_X4_readTest : zCl yX4_readTest cX4_readTest 5 none 1 := ⟨zin_at 173 (by decide +kernel) (by decide +kernel), zin_at 1222 (by decide +kernel) (by decide +kernel), by decide, by decide +kernel⟩
theorem zc_X4_readValue : zCl yX4_readValue cX4_readValue 2 (some .int) 0 := ⟨zin_at 173 (by decide +kernel) (by decide +kernel), zin_at 1236 (by decide +kernel) (by decide +kernel), by decide, by decide +kernel⟩
theorem zc_X4_valueFor : zCl yX4_valueFor cX4_valueFor 5 (some .int) 4 := ⟨zin_at 173 (by decide +kernel) (by decide +kernel), zin_at 1282 (by decide +kernel) (by decide +kernel), by decide, by decide +kernel⟩
theorem zc_X5_addOne : zCl yX5_addOne cX5_addOne 2 none 2 := ⟨zin_at 170 (by decide +kernel) (by decide +kernel), zin_at 517 (by decide +kernel) (by decide +kernel), by decide, by decide +kernel⟩
theorem zc_X5_clashAt : zCl yX5_clashAt cX5_clashAt 4 (some .int) 1 := ⟨zin_at 170 (by decide +kernel) (by decide +kernel), zin_at 1045 (by decide +kernel) (by decide +kernel), by decide, by decide +kernel⟩
theorem zc_X5_clashes : zCl yX5_clashes cX5_clashes 3 (some .int) 0 := ⟨zin_at 170 (by decide +kernel) (by decide +kernel), zin_at 602 (by decide +kernel) (by decide +kernel), by decide, by decide +kernel⟩
theorem zc_X5_count : zCl yX5_count cX5_count 5 none 1 := ⟨zin_at 170 (by decide +kernel) (by decide +kernel), zin_at 499 (by decide +kernel) (by decide +kernel), by decide, by decide +kernel⟩
theorem zc_X5_countPlan : zCl yX5_countPlan cX5_countPlan 2 none 1 := ⟨zin_at 170 (by decide +kernel) (by decide +kernel), zin_at 662 (by decide +kernel) (by decide +kernel), by decide, by decide +kernel⟩
theorem zc_X5_isClash : zCl yX5_isClash cX5_isClash 2 (some .boolean) 1 := ⟨zin_at 170 (by decide +kernel) (by decide +kernel), zin_at 575 (by decide +kernel) (by decide +kernel), by decide, by decide +kernel⟩
theorem zc_X5_smallestFree : zCl yX5_smallestFree cX5_smallestFree 4 (some .int) 2 := ⟨zin_at 170 (by decide +kernel) (by decide +kernel), zin_at 521 (by decide +kernel) (by decide +kernel), by decide, by decide +kernel⟩
theorem zc_X5_smallestTwice : zCl yX5_smallestTwice cX5_smallestTwice 3 (some .int) 1 := ⟨zin_at 170 (by decide +kernel) (by decide +kernel), zin_at 571 (by decide +kernel) (by decide +kernel), by decide, by decide +kernel⟩
theorem zc_X6_advance : zCl yX6_advance cX6_advance 1 none 0 := ⟨zin_at 171 (by decide +kernel) (by decide +kernel), zin_at 809 (by decide +kernel) (by decide +kernel), by decide, by decide +kernel⟩
theorem zc_X6_append : zCl yX6_append cX6_append 3 none 1 := ⟨zin_at 171 (by decide +kernel) (by decide +kernel), zin_at 487 (by decide +kernel) (by decide +kernel), by decide, by decide +kernel⟩
theorem zc_X6_asName : zCl yX6_asName cX6_asName 4 (some .long) 0 := ⟨zin_at 171 (by decide +kernel) (by decide +kernel), zin_at 930 (by decide +kernel) (by decide +kernel), by decide, by decide +kernel⟩
theorem zc_X6_begin : zCl yX6_begin cX6_begin 2 none 1 := ⟨zin_at 171 (by decide +kernel) (by decide +kernel), zin_at 804 (by decide +kernel) (by decide +kernel), by decide, by decide +kernel⟩
theorem zc_X6_isDigit : zCl yX6_isDigit cX6_isDigit 1 (some .boolean) 1 := ⟨zin_at 171 (by decide +kernel) (by decide +kernel), zin_at 815 (by decide +kernel) (by decide +kernel), by decide, by decide +kernel⟩
theorem zc_X6_isLetter : zCl yX6_isLetter cX6_isLetter 1 (some .boolean) 1 := ⟨zin_at 171 (by decide +kernel) (by decide +kernel), zin_at 812 (by decide +kernel) (by decide +kernel), by decide, by decide +kernel⟩
theorem zc_X6_isSign : zCl yX6_isSign cX6_isSign 2 (some .boolean) 1 := ⟨zin_at 171 (by decide +kernel) (by decide +kernel), zin_at 917 (by decide +kernel) (by decide +kernel), by decide, by decide +kernel⟩
theorem zc_X6_isWord : zCl yX6_isWord cX6_isWord 3 (some .boolean) 1 := ⟨zin_at 171 (by decide +kernel) (by decide +kernel), zin_at 833 (by decide +kernel) (by decide +kernel), by decide, by decide +kernel⟩
theorem zc_X6_letters : zCl yX6_letters cX6_letters 1 (some .int) 0 := ⟨zin_at 171 (by decide +kernel) (by decide +kernel), zin_at 926 (by decide +kernel) (by decide +kernel), by decide, by decide +kernel⟩
theorem zc_X7_addHost : zCl yX7_addHost cX7_addHost 3 (some .int) 2 := ⟨zin_at 167 (by decide +kernel) (by decide +kernel), zin_at 1115 (by decide +kernel) (by decide +kernel), by decide, by decide +kernel⟩
theorem zc_X7_addRule : zCl yX7_addRule cX7_addRule 5 (some .int) 4 := ⟨zin_at 167 (by decide +kernel) (by decide +kernel), zin_at 1149 (by decide +kernel) (by decide +kernel), by decide, by decide +kernel⟩
theorem zc_X7_adoptTrial : zCl yX7_adoptTrial cX7_adoptTrial 1 none 0 := ⟨zin_at 167 (by decide +kernel) (by decide +kernel), zin_at 670 (by decide +kernel) (by decide +kernel), by decide, by decide +kernel⟩
theorem zc_X7_allows : zCl yX7_allows cX7_allows 5 (some .boolean) 3 := ⟨zin_at 167 (by decide +kernel) (by decide +kernel), zin_at 1093 (by decide +kernel) (by decide +kernel), by decide, by decide +kernel⟩
theorem zc_X7_clash : zCl yX7_clash cX7_clash 3 (some .int) 1 := ⟨zin_at 167 (by decide +kernel) (by decide +kernel), zin_at 1041 (by decide +kernel) (by decide +kernel), by decide, by decide +kernel⟩
theorem zc_X7_clashCount : zCl yX7_clashCount cX7_clashCount 2 (some .int) 1 := ⟨zin_at 167 (by decide +kernel) (by decide +kernel), zin_at 598 (by decide +kernel) (by decide +kernel), by decide, by decide +kernel⟩
theorem zc_X7_clashesIn : zCl yX7_clashesIn cX7_clashesIn 3 (some .int) 1 := ⟨zin_at 167 (by decide +kernel) (by decide +kernel), zin_at 1108 (by decide +kernel) (by decide +kernel), by decide, by decide +kernel⟩
theorem zc_X7_decides : zCl yX7_decides cX7_decides 4 (some .int) 3 := ⟨zin_at 167 (by decide +kernel) (by decide +kernel), zin_at 1074 (by decide +kernel) (by decide +kernel), by decide, by decide +kernel⟩
theorem zc_X7_format : zCl yX7_format cX7_format 3 (some .int) 1 := ⟨zin_at 167 (by decide +kernel) (by decide +kernel), zin_at 1185 (by decide +kernel) (by decide +kernel), by decide, by decide +kernel⟩
theorem zc_X7_heldTwice : zCl yX7_heldTwice cX7_heldTwice 2 (some .int) 1 := ⟨zin_at 167 (by decide +kernel) (by decide +kernel), zin_at 567 (by decide +kernel) (by decide +kernel), by decide, by decide +kernel⟩
theorem zc_X7_holder : zCl yX7_holder cX7_holder 3 (some .int) 2 := ⟨zin_at 167 (by decide +kernel) (by decide +kernel), zin_at 1027 (by decide +kernel) (by decide +kernel), by decide, by decide +kernel⟩
theorem zc_X7_host : zCl yX7_host cX7_host 3 (some .int) 2 := ⟨zin_at 167 (by decide +kernel) (by decide +kernel), zin_at 1005 (by decide +kernel) (by decide +kernel), by decide, by decide +kernel⟩
theorem zc_X7_letterOf : zCl yX7_letterOf cX7_letterOf 3 (some .int) 2 := ⟨zin_at 167 (by decide +kernel) (by decide +kernel), zin_at 1020 (by decide +kernel) (by decide +kernel), by decide, by decide +kernel⟩
theorem zc_X7_load : zCl yX7_load cX7_load 3 (some .int) 1 := ⟨zin_at 167 (by decide +kernel) (by decide +kernel), zin_at 738 (by decide +kernel) (by decide +kernel), by decide, by decide +kernel⟩
theorem zc_X7_name : zCl yX7_name cX7_name 4 (some .int) 2 := ⟨zin_at 167 (by decide +kernel) (by decide +kernel), zin_at 1017 (by decide +kernel) (by decide +kernel), by decide, by decide +kernel⟩
theorem zc_X7_needHost : zCl yX7_needHost cX7_needHost 2 none 1 := ⟨zin_at 167 (by decide +kernel) (by decide +kernel), zin_at 1009 (by decide +kernel) (by decide +kernel), by decide, by decide +kernel⟩
theorem zc_X7_needNumber : zCl yX7_needNumber cX7_needNumber 1 none 1 := ⟨zin_at 167 (by decide +kernel) (by decide +kernel), zin_at 1033 (by decide +kernel) (by decide +kernel), by decide, by decide +kernel⟩
theorem zc_X7_needOffice : zCl yX7_needOffice cX7_needOffice 1 none 1 := ⟨zin_at 167 (by decide +kernel) (by decide +kernel), zin_at 1030 (by decide +kernel) (by decide +kernel), by decide, by decide +kernel⟩
theorem zc_X7_needRule : zCl yX7_needRule cX7_needRule 2 none 1 := ⟨zin_at 167 (by decide +kernel) (by decide +kernel), zin_at 1067 (by decide +kernel) (by decide +kernel), by decide, by decide +kernel⟩
theorem zc_X7_needSide : zCl yX7_needSide cX7_needSide 1 none 1 := ⟨zin_at 167 (by decide +kernel) (by decide +kernel), zin_at 1152 (by decide +kernel) (by decide +kernel), by decide, by decide +kernel⟩
theorem zc_X7_needWave : zCl yX7_needWave cX7_needWave 1 none 1 := ⟨zin_at 167 (by decide +kernel) (by decide +kernel), zin_at 1055 (by decide +kernel) (by decide +kernel), by decide, by decide +kernel⟩
theorem zc_X7_plan : zCl yX7_plan cX7_plan 5 (some .int) 3 := ⟨zin_at 167 (by decide +kernel) (by decide +kernel), zin_at 1135 (by decide +kernel) (by decide +kernel), by decide, by decide +kernel⟩
theorem zc_X7_plans : zCl yX7_plans cX7_plans 2 (some .int) 1 := ⟨zin_at 167 (by decide +kernel) (by decide +kernel), zin_at 1052 (by decide +kernel) (by decide +kernel), by decide, by decide +kernel⟩
theorem zc_X7_query : zCl yX7_query cX7_query 5 (some .int) 1 := ⟨zin_at 167 (by decide +kernel) (by decide +kernel), zin_at 1210 (by decide +kernel) (by decide +kernel), by decide, by decide +kernel⟩
theorem zc_X7_reach : zCl yX7_reach cX7_reach 2 (some .int) 1 := ⟨zin_at 167 (by decide +kernel) (by decide +kernel), zin_at 1101 (by decide +kernel) (by decide +kernel), by decide, by decide +kernel⟩
theorem zc_X7_removeHost : zCl yX7_removeHost cX7_removeHost 2 (some .int) 1 := ⟨zin_at 167 (by decide +kernel) (by decide +kernel), zin_at 1124 (by decide +kernel) (by decide +kernel), by decide, by decide +kernel⟩
theorem zc_X7_removeRule : zCl yX7_removeRule cX7_removeRule 2 (some .int) 1 := ⟨zin_at 167 (by decide +kernel) (by decide +kernel), zin_at 1160 (by decide +kernel) (by decide +kernel), by decide, by decide +kernel⟩
theorem zc_X7_rule : zCl yX7_rule cX7_rule 3 (some .int) 2 := ⟨zin_at 167 (by decide +kernel) (by decide +kernel), zin_at 1063 (by decide +kernel) (by decide +kernel), by decide, by decide +kernel⟩
theorem zc_X7_setKeep : zCl yX7_setKeep cX7_setKeep 3 (some .int) 1 := ⟨zin_at 167 (by decide +kernel) (by decide +kernel), zin_at 1171 (by decide +kernel) (by decide +kernel), by decide, by decide +kernel⟩
theorem zc_X7_setPinned : zCl yX7_setPinned cX7_setPinned 4 (some .int) 2 := ⟨zin_at 167 (by decide +kernel) (by decide +kernel), zin_at 1178 (by decide +kernel) (by decide +kernel), by decide, by decide +kernel⟩
theorem zc_X7_size : zCl yX7_size cX7_size 2 (some .int) 1 := ⟨zin_at 167 (by decide +kernel) (by decide +kernel), zin_at 975 (by decide +kernel) (by decide +kernel), by decide, by decide +kernel⟩
theorem zc_X7_smallestOf : zCl yX7_smallestOf cX7_smallestOf 3 (some .int) 1 := ⟨zin_at 167 (by decide +kernel) (by decide +kernel), zin_at 1293 (by decide +kernel) (by decide +kernel), by decide, by decide +kernel⟩
theorem zc_X7_tryWave : zCl yX7_tryWave cX7_tryWave 2 (some .int) 0 := ⟨zin_at 167 (by decide +kernel) (by decide +kernel), zin_at 539 (by decide +kernel) (by decide +kernel), by decide, by decide +kernel⟩
theorem zc_X7_unplan : zCl yX7_unplan cX7_unplan 3 (some .int) 1 := ⟨zin_at 167 (by decide +kernel) (by decide +kernel), zin_at 1142 (by decide +kernel) (by decide +kernel), by decide, by decide +kernel⟩
theorem zc_X8_adds : zCl yX8_adds cX8_adds 2 none 1 := ⟨zin_at 175 (by decide +kernel) (by decide +kernel), zin_at 1882 (by decide +kernel) (by decide +kernel), by decide, by decide +kernel⟩
theorem zc_X8_allowsFor : zCl yX8_allowsFor cX8_allowsFor 5 (some .boolean) 3 := ⟨zin_at 175 (by decide +kernel) (by decide +kernel), zin_at 1649 (by decide +kernel) (by decide +kernel), by decide, by decide +kernel⟩
theorem zc_X8_areOfNet : zCl yX8_areOfNet cX8_areOfNet 3 (some .boolean) 2 := ⟨zin_at 175 (by decide +kernel) (by decide +kernel), zin_at 1661 (by decide +kernel) (by decide +kernel), by decide, by decide +kernel⟩
theorem zc_X8_begins : zCl yX8_begins cX8_begins 2 none 0 := ⟨zin_at 175 (by decide +kernel) (by decide +kernel), zin_at 1307 (by decide +kernel) (by decide +kernel), by decide, by decide +kernel⟩
theorem zc_X8_byteAt : zCl yX8_byteAt cX8_byteAt 2 (some .int) 1 := ⟨zin_at 175 (by decide +kernel) (by decide +kernel), zin_at 1433 (by decide +kernel) (by decide +kernel), by decide, by decide +kernel⟩
theorem zc_X8_cell : zCl yX8_cell cX8_cell 2 (some .int) 2 := ⟨zin_at 175 (by decide +kernel) (by decide +kernel), zin_at 1506 (by decide +kernel) (by decide +kernel), by decide, by decide +kernel⟩
theorem zc_X8_choosen : zCl yX8_choosen cX8_choosen 4 (some .int) 2 := ⟨zin_at 175 (by decide +kernel) (by decide +kernel), zin_at 1777 (by decide +kernel) (by decide +kernel), by decide, by decide +kernel⟩
theorem zc_X8_clashes : zCl yX8_clashes cX8_clashes 3 (some .int) 0 := ⟨zin_at 175 (by decide +kernel) (by decide +kernel), zin_at 1554 (by decide +kernel) (by decide +kernel), by decide, by decide +kernel⟩
theorem zc_X8_closes : zCl yX8_closes cX8_closes 1 none 0 := ⟨zin_at 175 (by decide +kernel) (by decide +kernel), zin_at 1897 (by decide +kernel) (by decide +kernel), by decide, by decide +kernel⟩
theorem zc_X8_comparisonRead : zCl yX8_comparisonRead cX8_comparisonRead 2 none 0 := ⟨zin_at 175 (by decide +kernel) (by decide +kernel), zin_at 1869 (by decide +kernel) (by decide +kernel), by decide, by decide +kernel⟩
theorem zc_X8_copies : zCl yX8_copies cX8_copies 5 none 4 := ⟨zin_at 175 (by decide +kernel) (by decide +kernel), zin_at 1310 (by decide +kernel) (by decide +kernel), by decide, by decide +kernel⟩
theorem zc_X8_decidesOf : zCl yX8_decidesOf cX8_decidesOf 5 (some .int) 3 := ⟨zin_at 175 (by decide +kernel) (by decide +kernel), zin_at 1633 (by decide +kernel) (by decide +kernel), by decide, by decide +kernel⟩
theorem zc_X8_drops : zCl yX8_drops cX8_drops 2 none 1 := ⟨zin_at 175 (by decide +kernel) (by decide +kernel), zin_at 1769 (by decide +kernel) (by decide +kernel), by decide, by decide +kernel⟩
theorem zc_X8_fails : zCl yX8_fails cX8_fails 3 (some .boolean) 2 := ⟨zin_at 175 (by decide +kernel) (by decide +kernel), zin_at 1421 (by decide +kernel) (by decide +kernel), by decide, by decide +kernel⟩
theorem zc_X8_firstFree : zCl yX8_firstFree cX8_firstFree 2 (some .int) 0 := ⟨zin_at 175 (by decide +kernel) (by decide +kernel), zin_at 1669 (by decide +kernel) (by decide +kernel), by decide, by decide +kernel⟩
theorem zc_X8_firstWave : zCl yX8_firstWave cX8_firstWave 2 (some .int) 0 := ⟨zin_at 175 (by decide +kernel) (by decide +kernel), zin_at 1781 (by decide +kernel) (by decide +kernel), by decide, by decide +kernel⟩
theorem zc_X8_goesBack : zCl yX8_goesBack cX8_goesBack 5 none 0 := ⟨zin_at 175 (by decide +kernel) (by decide +kernel), zin_at 1793 (by decide +kernel) (by decide +kernel), by decide, by decide +kernel⟩
theorem zc_X8_goesIn : zCl yX8_goesIn cX8_goesIn 2 (some .boolean) 1 := ⟨zin_at 175 (by decide +kernel) (by decide +kernel), zin_at 1874 (by decide +kernel) (by decide +kernel), by decide, by decide +kernel⟩
theorem zc_X8_hasClash : zCl yX8_hasClash cX8_hasClash 2 (some .boolean) 1 := ⟨zin_at 175 (by decide +kernel) (by decide +kernel), zin_at 1928 (by decide +kernel) (by decide +kernel), by decide, by decide +kernel⟩
theorem zc_X8_holderOf : zCl yX8_holderOf cX8_holderOf 4 (some .int) 2 := ⟨zin_at 175 (by decide +kernel) (by decide +kernel), zin_at 1562 (by decide +kernel) (by decide +kernel), by decide, by decide +kernel⟩
theorem zc_X8_holds : zCl yX8_holds cX8_holds 3 (some .boolean) 2 := ⟨zin_at 175 (by decide +kernel) (by decide +kernel), zin_at 1566 (by decide +kernel) (by decide +kernel), by decide, by decide +kernel⟩
theorem zc_X8_holds_ : zCl yX8_holds_ cX8_holds_ 5 (some .boolean) 1 := ⟨zin_at 175 (by decide +kernel) (by decide +kernel), zin_at 1915 (by decide +kernel) (by decide +kernel), by decide, by decide +kernel⟩
theorem zc_X8_in : zCl yX8_in cX8_in 6 (some .boolean) 3 := ⟨zin_at 175 (by decide +kernel) (by decide +kernel), zin_at 1417 (by decide +kernel) (by decide +kernel), by decide, by decide +kernel⟩
theorem zc_X8_isBound : zCl yX8_isBound cX8_isBound 2 (some .boolean) 0 := ⟨zin_at 175 (by decide +kernel) (by decide +kernel), zin_at 1689 (by decide +kernel) (by decide +kernel), by decide, by decide +kernel⟩
theorem zc_X8_isByte : zCl yX8_isByte cX8_isByte 2 (some .boolean) 1 := ⟨zin_at 175 (by decide +kernel) (by decide +kernel), zin_at 1490 (by decide +kernel) (by decide +kernel), by decide, by decide +kernel⟩
theorem zc_X8_isClash : zCl yX8_isClash cX8_isClash 2 (some .boolean) 1 := ⟨zin_at 175 (by decide +kernel) (by decide +kernel), zin_at 1558 (by decide +kernel) (by decide +kernel), by decide, by decide +kernel⟩
theorem zc_X8_isFigure : zCl yX8_isFigure cX8_isFigure 1 (some .boolean) 1 := ⟨zin_at 175 (by decide +kernel) (by decide +kernel), zin_at 1445 (by decide +kernel) (by decide +kernel), by decide, by decide +kernel⟩
theorem zc_X8_isFree : zCl yX8_isFree cX8_isFree 3 (some .boolean) 1 := ⟨zin_at 175 (by decide +kernel) (by decide +kernel), zin_at 1673 (by decide +kernel) (by decide +kernel), by decide, by decide +kernel⟩
theorem zc_X8_isGood : zCl yX8_isGood cX8_isGood 1 (some .boolean) 0 := ⟨zin_at 175 (by decide +kernel) (by decide +kernel), zin_at 1471 (by decide +kernel) (by decide +kernel), by decide, by decide +kernel⟩
theorem zc_X8_isHeldIn : zCl yX8_isHeldIn cX8_isHeldIn 4 (some .boolean) 2 := ⟨zin_at 175 (by decide +kernel) (by decide +kernel), zin_at 1749 (by decide +kernel) (by decide +kernel), by decide, by decide +kernel⟩
theorem zc_X8_isHost : zCl yX8_isHost cX8_isHost 2 (some .boolean) 1 := ⟨zin_at 175 (by decide +kernel) (by decide +kernel), zin_at 1590 (by decide +kernel) (by decide +kernel), by decide, by decide +kernel⟩
theorem zc_X8_isInside : zCl yX8_isInside cX8_isInside 2 (some .boolean) 0 := ⟨zin_at 175 (by decide +kernel) (by decide +kernel), zin_at 1908 (by decide +kernel) (by decide +kernel), by decide, by decide +kernel⟩
theorem zc_X8_isLetter : zCl yX8_isLetter cX8_isLetter 1 (some .boolean) 1 := ⟨zin_at 175 (by decide +kernel) (by decide +kernel), zin_at 1436 (by decide +kernel) (by decide +kernel), by decide, by decide +kernel⟩
theorem zc_X8_isMoving : zCl yX8_isMoving cX8_isMoving 2 (some .boolean) 1 := ⟨zin_at 175 (by decide +kernel) (by decide +kernel), zin_at 1693 (by decide +kernel) (by decide +kernel), by decide, by decide +kernel⟩
theorem zc_X8_isNumber : zCl yX8_isNumber cX8_isNumber 1 (some .boolean) 1 := ⟨zin_at 175 (by decide +kernel) (by decide +kernel), zin_at 1605 (by decide +kernel) (by decide +kernel), by decide, by decide +kernel⟩
theorem zc_X8_isOfNet : zCl yX8_isOfNet cX8_isOfNet 3 (some .boolean) 2 := ⟨zin_at 175 (by decide +kernel) (by decide +kernel), zin_at 1641 (by decide +kernel) (by decide +kernel), by decide, by decide +kernel⟩
theorem zc_X8_isOffice : zCl yX8_isOffice cX8_isOffice 1 (some .boolean) 1 := ⟨zin_at 175 (by decide +kernel) (by decide +kernel), zin_at 1602 (by decide +kernel) (by decide +kernel), by decide, by decide +kernel⟩
theorem zc_X8_isRule : zCl yX8_isRule cX8_isRule 2 (some .boolean) 1 := ⟨zin_at 175 (by decide +kernel) (by decide +kernel), zin_at 1624 (by decide +kernel) (by decide +kernel), by decide, by decide +kernel⟩
theorem zc_X8_isSide : zCl yX8_isSide cX8_isSide 1 (some .boolean) 1 := ⟨zin_at 175 (by decide +kernel) (by decide +kernel), zin_at 1808 (by decide +kernel) (by decide +kernel), by decide, by decide +kernel⟩
theorem zc_X8_isTold : zCl yX8_isTold cX8_isTold 4 (some .boolean) 2 := ⟨zin_at 175 (by decide +kernel) (by decide +kernel), zin_at 1511 (by decide +kernel) (by decide +kernel), by decide, by decide +kernel⟩
theorem zc_X8_isWave : zCl yX8_isWave cX8_isWave 1 (some .boolean) 1 := ⟨zin_at 175 (by decide +kernel) (by decide +kernel), zin_at 1616 (by decide +kernel) (by decide +kernel), by decide, by decide +kernel⟩
theorem zc_X8_isWord : zCl yX8_isWord cX8_isWord 3 (some .boolean) 1 := ⟨zin_at 175 (by decide +kernel) (by decide +kernel), zin_at 1467 (by decide +kernel) (by decide +kernel), by decide, by decide +kernel⟩
theorem zc_X8_joined : zCl yX8_joined cX8_joined 3 (some .boolean) 3 := ⟨zin_at 175 (by decide +kernel) (by decide +kernel), zin_at 1920 (by decide +kernel) (by decide +kernel), by decide, by decide +kernel⟩
theorem zc_X8_keeping : zCl yX8_keeping cX8_keeping 3 (some .int) 0 := ⟨zin_at 175 (by decide +kernel) (by decide +kernel), zin_at 1582 (by decide +kernel) (by decide +kernel), by decide, by decide +kernel⟩
theorem zc_X8_keeps : zCl yX8_keeps cX8_keeps 3 none 1 := ⟨zin_at 175 (by decide +kernel) (by decide +kernel), zin_at 1753 (by decide +kernel) (by decide +kernel), by decide, by decide +kernel⟩
theorem zc_X8_kept : zCl yX8_kept cX8_kept 2 (some .int) 1 := ⟨zin_at 175 (by decide +kernel) (by decide +kernel), zin_at 1570 (by decide +kernel) (by decide +kernel), by decide, by decide +kernel⟩
theorem zc_X8_keptAt : zCl yX8_keptAt cX8_keptAt 4 (some .int) 2 := ⟨zin_at 175 (by decide +kernel) (by decide +kernel), zin_at 1574 (by decide +kernel) (by decide +kernel), by decide, by decide +kernel⟩
theorem zc_X8_latest : zCl yX8_latest cX8_latest 3 (some .int) 1 := ⟨zin_at 175 (by decide +kernel) (by decide +kernel), zin_at 1578 (by decide +kernel) (by decide +kernel), by decide, by decide +kernel⟩
theorem zc_X8_lays : zCl yX8_lays cX8_lays 3 none 1 := ⟨zin_at 175 (by decide +kernel) (by decide +kernel), zin_at 1406 (by decide +kernel) (by decide +kernel), by decide, by decide +kernel⟩
theorem zc_X8_laysAside : zCl yX8_laysAside cX8_laysAside 1 none 0 := ⟨zin_at 175 (by decide +kernel) (by decide +kernel), zin_at 1681 (by decide +kernel) (by decide +kernel), by decide, by decide +kernel⟩
theorem zc_X8_laysBack : zCl yX8_laysBack cX8_laysBack 1 none 0 := ⟨zin_at 175 (by decide +kernel) (by decide +kernel), zin_at 1717 (by decide +kernel) (by decide +kernel), by decide, by decide +kernel⟩
theorem zc_X8_laysLeads : zCl yX8_laysLeads cX8_laysLeads 2 none 0 := ⟨zin_at 175 (by decide +kernel) (by decide +kernel), zin_at 1701 (by decide +kernel) (by decide +kernel), by decide, by decide +kernel⟩
theorem zc_X8_leadsTo : zCl yX8_leadsTo cX8_leadsTo 5 none 3 := ⟨zin_at 175 (by decide +kernel) (by decide +kernel), zin_at 1705 (by decide +kernel) (by decide +kernel), by decide, by decide +kernel⟩
theorem zc_X8_lesser : zCl yX8_lesser cX8_lesser 2 (some .int) 2 := ⟨zin_at 175 (by decide +kernel) (by decide +kernel), zin_at 1859 (by decide +kernel) (by decide +kernel), by decide, by decide +kernel⟩
theorem zc_X8_matches : zCl yX8_matches cX8_matches 5 (some .boolean) 3 := ⟨zin_at 175 (by decide +kernel) (by decide +kernel), zin_at 1637 (by decide +kernel) (by decide +kernel), by decide, by decide +kernel⟩
theorem zc_X8_moves : zCl yX8_moves cX8_moves 3 none 0 := ⟨zin_at 175 (by decide +kernel) (by decide +kernel), zin_at 1697 (by decide +kernel) (by decide +kernel), by decide, by decide +kernel⟩
theorem zc_X8_movesIf : zCl yX8_movesIf cX8_movesIf 1 (some .int) 0 := ⟨zin_at 175 (by decide +kernel) (by decide +kernel), zin_at 1685 (by decide +kernel) (by decide +kernel), by decide, by decide +kernel⟩
theorem zc_X8_must : zCl yX8_must cX8_must 2 none 1 := ⟨zin_at 175 (by decide +kernel) (by decide +kernel), zin_at 1486 (by decide +kernel) (by decide +kernel), by decide, by decide +kernel⟩
theorem zc_X8_next : zCl yX8_next cX8_next 1 none 0 := ⟨zin_at 175 (by decide +kernel) (by decide +kernel), zin_at 1429 (by decide +kernel) (by decide +kernel), by decide, by decide +kernel⟩
theorem zc_X8_number : zCl yX8_number cX8_number 4 (some .int) 2 := ⟨zin_at 175 (by decide +kernel) (by decide +kernel), zin_at 1480 (by decide +kernel) (by decide +kernel), by decide, by decide +kernel⟩
theorem zc_X8_of : zCl yX8_of cX8_of 3 (some .int) 2 := ⟨zin_at 175 (by decide +kernel) (by decide +kernel), zin_at 1550 (by decide +kernel) (by decide +kernel), by decide, by decide +kernel⟩
theorem zc_X8_passes : zCl yX8_passes cX8_passes 3 (some .boolean) 1 := ⟨zin_at 175 (by decide +kernel) (by decide +kernel), zin_at 1463 (by decide +kernel) (by decide +kernel), by decide, by decide +kernel⟩
theorem zc_X8_plansIn : zCl yX8_plansIn cX8_plansIn 5 (some .int) 2 := ⟨zin_at 175 (by decide +kernel) (by decide +kernel), zin_at 1537 (by decide +kernel) (by decide +kernel), by decide, by decide +kernel⟩
theorem zc_X8_plansNow : zCl yX8_plansNow cX8_plansNow 3 (some .int) 0 := ⟨zin_at 175 (by decide +kernel) (by decide +kernel), zin_at 1546 (by decide +kernel) (by decide +kernel), by decide, by decide +kernel⟩
theorem zc_X8_propertyHere : zCl yX8_propertyHere cX8_propertyHere 1 (some .int) 0 := ⟨zin_at 175 (by decide +kernel) (by decide +kernel), zin_at 1886 (by decide +kernel) (by decide +kernel), by decide, by decide +kernel⟩
theorem zc_X8_propertyOf : zCl yX8_propertyOf cX8_propertyOf 3 (some .int) 2 := ⟨zin_at 175 (by decide +kernel) (by decide +kernel), zin_at 1924 (by decide +kernel) (by decide +kernel), by decide, by decide +kernel⟩
theorem zc_X8_reachOf : zCl yX8_reachOf cX8_reachOf 4 (some .int) 1 := ⟨zin_at 175 (by decide +kernel) (by decide +kernel), zin_at 1657 (by decide +kernel) (by decide +kernel), by decide, by decide +kernel⟩
theorem zc_X8_reads : zCl yX8_reads cX8_reads 3 none 0 := ⟨zin_at 175 (by decide +kernel) (by decide +kernel), zin_at 1865 (by decide +kernel) (by decide +kernel), by decide, by decide +kernel⟩
theorem zc_X8_readsAll : zCl yX8_readsAll cX8_readsAll 1 none 0 := ⟨zin_at 175 (by decide +kernel) (by decide +kernel), zin_at 1454 (by decide +kernel) (by decide +kernel), by decide, by decide +kernel⟩
theorem zc_X8_readsHead : zCl yX8_readsHead cX8_readsHead 1 none 0 := ⟨zin_at 175 (by decide +kernel) (by decide +kernel), zin_at 1458 (by decide +kernel) (by decide +kernel), by decide, by decide +kernel⟩
theorem zc_X8_readsHost : zCl yX8_readsHost cX8_readsHost 3 none 0 := ⟨zin_at 175 (by decide +kernel) (by decide +kernel), zin_at 1495 (by decide +kernel) (by decide +kernel), by decide, by decide +kernel⟩
theorem zc_X8_readsMove : zCl yX8_readsMove cX8_readsMove 3 none 0 := ⟨zin_at 175 (by decide +kernel) (by decide +kernel), zin_at 1532 (by decide +kernel) (by decide +kernel), by decide, by decide +kernel⟩
theorem zc_X8_readsName : zCl yX8_readsName cX8_readsName 4 none 1 := ⟨zin_at 175 (by decide +kernel) (by decide +kernel), zin_at 1499 (by decide +kernel) (by decide +kernel), by decide, by decide +kernel⟩
theorem zc_X8_readsNumber : zCl yX8_readsNumber cX8_readsNumber 1 none 0 := ⟨zin_at 175 (by decide +kernel) (by decide +kernel), zin_at 1449 (by decide +kernel) (by decide +kernel), by decide, by decide +kernel⟩
theorem zc_X8_readsRule : zCl yX8_readsRule cX8_readsRule 2 none 0 := ⟨zin_at 175 (by decide +kernel) (by decide +kernel), zin_at 1517 (by decide +kernel) (by decide +kernel), by decide, by decide +kernel⟩
theorem zc_X8_readsWord : zCl yX8_readsWord cX8_readsWord 1 none 0 := ⟨zin_at 175 (by decide +kernel) (by decide +kernel), zin_at 1440 (by decide +kernel) (by decide +kernel), by decide, by decide +kernel⟩
theorem zc_X8_rewrites0 : zCl yX8_rewrites0 cX8_rewrites0 6 (some .int) 0 := ⟨zin_at 175 (by decide +kernel) (by decide +kernel), zin_at 1709 (by decide +kernel) (by decide +kernel), by decide, by decide +kernel⟩
theorem zc_X8_ruleCell : zCl yX8_ruleCell cX8_ruleCell 2 (some .int) 2 := ⟨zin_at 175 (by decide +kernel) (by decide +kernel), zin_at 1520 (by decide +kernel) (by decide +kernel), by decide, by decide +kernel⟩
theorem zc_X8_settles : zCl yX8_settles cX8_settles 2 none 1 := ⟨zin_at 175 (by decide +kernel) (by decide +kernel), zin_at 1901 (by decide +kernel) (by decide +kernel), by decide, by decide +kernel⟩
theorem zc_X8_side : zCl yX8_side cX8_side 1 (some .int) 0 := ⟨zin_at 175 (by decide +kernel) (by decide +kernel), zin_at 1526 (by decide +kernel) (by decide +kernel), by decide, by decide +kernel⟩
theorem zc_X8_starts : zCl yX8_starts cX8_starts 2 none 1 := ⟨zin_at 175 (by decide +kernel) (by decide +kernel), zin_at 1425 (by decide +kernel) (by decide +kernel), by decide, by decide +kernel⟩
theorem zc_X8_strength : zCl yX8_strength cX8_strength 1 (some .int) 1 := ⟨zin_at 175 (by decide +kernel) (by decide +kernel), zin_at 1904 (by decide +kernel) (by decide +kernel), by decide, by decide +kernel⟩
theorem zc_X8_toldHost : zCl yX8_toldHost cX8_toldHost 4 (some .int) 0 := ⟨zin_at 175 (by decide +kernel) (by decide +kernel), zin_at 1503 (by decide +kernel) (by decide +kernel), by decide, by decide +kernel⟩
theorem zc_X8_twice : zCl yX8_twice cX8_twice 4 (some .int) 0 := ⟨zin_at 175 (by decide +kernel) (by decide +kernel), zin_at 1713 (by decide +kernel) (by decide +kernel), by decide, by decide +kernel⟩
theorem zc_X8_valueRead : zCl yX8_valueRead cX8_valueRead 2 none 0 := ⟨zin_at 175 (by decide +kernel) (by decide +kernel), zin_at 1878 (by decide +kernel) (by decide +kernel), by decide, by decide +kernel⟩
theorem zc_X8_writes : zCl yX8_writes cX8_writes 2 none 1 := ⟨zin_at 175 (by decide +kernel) (by decide +kernel), zin_at 1844 (by decide +kernel) (by decide +kernel), by decide, by decide +kernel⟩
theorem zc_X8_writesNumber : zCl yX8_writesNumber cX8_writesNumber 3 none 1 := ⟨zin_at 175 (by decide +kernel) (by decide +kernel), zin_at 1848 (by decide +kernel) (by decide +kernel), by decide, by decide +kernel⟩
theorem zc_X8_wrongs : zCl yX8_wrongs cX8_wrongs 2 (some .boolean) 1 := ⟨zin_at 175 (by decide +kernel) (by decide +kernel), zin_at 1475 (by decide +kernel) (by decide +kernel), by decide, by decide +kernel⟩
theorem zth_RX7_82 : zIn (.classLink RX7 82 (zen 0)) ∧ zIn (.initialized (zen 0)) ∧ (∀ w ∈ vx_at0 RX7 84 (zen 0) ["java/lang/RuntimeException", "java/lang/Exception"], zIn w) ∧ (∀ w ∈ Cond.classLink RX7 82 (zen 0) :: Cond.initialized (zen 0) :: vx_at0 RX7 84 (zen 0) ["java/lang/RuntimeException", "java/lang/Exception"], vx_ot w = true) := by
  have h : (vx_at0 RX7 84 (zen 0) ["java/lang/RuntimeException", "java/lang/Exception"]).all (fun w => decide (w ∈ lw_tbl) && zok w) = true := by decide +kernel
  have h2 : (Cond.classLink RX7 82 (zen 0) :: Cond.initialized (zen 0) :: vx_at0 RX7 84 (zen 0) ["java/lang/RuntimeException", "java/lang/Exception"]).all vx_ot = true := by decide +kernel
  refine ⟨zin_at 739 (by decide +kernel) (by decide +kernel), zin_at 179 (by decide +kernel) (by decide +kernel), fun w hw => ?_, fun w hw => List.all_eq_true.mp h2 w hw⟩
  have := List.all_eq_true.mp h w hw
  rw [Bool.and_eq_true, decide_eq_true_eq] at this
  exact this
theorem zth_RX7_138 : zIn (.classLink RX7 138 (zen 1)) ∧ zIn (.initialized (zen 1)) ∧ (∀ w ∈ vx_at0 RX7 140 (zen 1) ["java/lang/RuntimeException", "java/lang/Exception"], zIn w) ∧ (∀ w ∈ Cond.classLink RX7 138 (zen 1) :: Cond.initialized (zen 1) :: vx_at0 RX7 140 (zen 1) ["java/lang/RuntimeException", "java/lang/Exception"], vx_ot w = true) := by
  have h : (vx_at0 RX7 140 (zen 1) ["java/lang/RuntimeException", "java/lang/Exception"]).all (fun w => decide (w ∈ lw_tbl) && zok w) = true := by decide +kernel
  have h2 : (Cond.classLink RX7 138 (zen 1) :: Cond.initialized (zen 1) :: vx_at0 RX7 140 (zen 1) ["java/lang/RuntimeException", "java/lang/Exception"]).all vx_ot = true := by decide +kernel
  refine ⟨zin_at 984 (by decide +kernel) (by decide +kernel), zin_at 187 (by decide +kernel) (by decide +kernel), fun w hw => ?_, fun w hw => List.all_eq_true.mp h2 w hw⟩
  have := List.all_eq_true.mp h w hw
  rw [Bool.and_eq_true, decide_eq_true_eq] at this
  exact this
theorem zca_RL_13 : zIn (.classLink RL 13 (zen 0)) ∧ zIn (.castable (zen 0) (zen 0)) := ⟨zin_at 734 (by decide +kernel) (by decide +kernel), zin_at 741 (by decide +kernel) (by decide +kernel)⟩
theorem zca_RL_18 : zIn (.classLink RL 18 (zen 1)) ∧ zIn (.castable (zen 1) (zen 1)) := ⟨zin_at 971 (by decide +kernel) (by decide +kernel), zin_at 986 (by decide +kernel) (by decide +kernel)⟩
theorem zt_1 : zT[1]? = some (.inl (2, 40)) := rfl
theorem zt_2 : zT[2]? = some (.inl (0, 40)) := rfl
theorem zt_3 : zT[3]? = some (.inl (0, 40)) := rfl
theorem zt_4 : zT[4]? = some (.inl (0, 40)) := rfl
theorem zt_5 : zT[5]? = some (.inl (0, 40)) := rfl
theorem zt_6 : zT[6]? = some (.inl (0, 40)) := rfl
theorem zt_7 : zT[7]? = some (.inl (0, 40)) := rfl
theorem zt_9 : zT[9]? = some (.inl (0, 30)) := rfl
theorem zt_10 : zT[10]? = some (.inl (0, 30)) := rfl
theorem zt_11 : zT[11]? = some (.inl (0, 30)) := rfl
theorem zt_12 : zT[12]? = some (.inl (0, 30)) := rfl
theorem zt_17 : zT[17]? = some (.inl (0, 40)) := rfl
theorem zt_19 : zT[19]? = some (.inl (0, 40)) := rfl
theorem zt_169 : zT[169]? = some (.inr (7, [3, 16, 29, 2, 173, 175, 179, 181, 182, 186, 0])) := rfl
theorem zt_170 : zT[170]? = some (.inr (0, [174, 0, 0])) := rfl
theorem zt_171 : zT[171]? = some (.inl (3, 10)) := rfl
theorem zt_172 : zT[172]? = some (.inr (5, [176, 177, 178])) := rfl
theorem zt_173 : zT[173]? = some (.inl (0, 251)) := rfl
theorem zt_174 : zT[174]? = some (.inl (0, 251)) := rfl
theorem zt_175 : zT[175]? = some (.inl (0, 251)) := rfl
theorem zt_176 : zT[176]? = some (.inr (6, [180, 0, 0, 0, 0, 0, 0])) := rfl
theorem zt_177 : zT[177]? = some (.inl (1, 900)) := rfl
theorem zt_178 : zT[178]? = some (.inr (2, [179, 16, 0, 0])) := rfl
theorem zt_179 : zT[179]? = some (.inr (4, [179, 183, 0, 2, 0, 184, 0, 185, 2])) := rfl
theorem zt_180 : zT[180]? = some (.inl (0, 203)) := rfl
theorem zt_181 : zT[181]? = some (.inl (2, 203)) := rfl
theorem zt_182 : zT[182]? = some (.inl (0, 40)) := rfl
theorem zt_183 : zT[183]? = some (.inr (1, [187, 0])) := rfl
theorem zt_184 : zT[184]? = some (.inl (1, 32)) := rfl
theorem zt_185 : zT[185]? = some (.inr (8, [0, 189, 190, 191, 192, 193, 0, 2, 194, 0, 0, 0, 0, 0, 0, 1, 0, 0, 195, 0, 0, 196, 0, 197, 198, 199, 0, 0, 0])) := rfl
theorem zt_186 : zT[186]? = some (.inl (0, 1096)) := rfl
theorem zt_187 : zT[187]? = some (.inl (0, 1096)) := rfl
theorem zt_188 : zT[188]? = some (.inl (0, 1096)) := rfl
theorem zt_189 : zT[189]? = some (.inl (0, 1096)) := rfl
theorem zt_190 : zT[190]? = some (.inl (0, 10960)) := rfl
theorem zt_191 : zT[191]? = some (.inl (0, 900)) := rfl
theorem zt_192 : zT[192]? = some (.inl (0, 502)) := rfl
theorem zt_193 : zT[193]? = some (.inl (0, 40)) := rfl
theorem zt_194 : zT[194]? = some (.inl (0, 200)) := rfl
theorem zt_195 : zT[195]? = some (.inl (0, 200)) := rfl
theorem zt_196 : zT[196]? = some (.inl (0, 200)) := rfl
theorem zt_197 : zT[197]? = some (.inl (2, 1)) := rfl
theorem zpn_RJ13 : plainName RJ13 = true := by decide
theorem zpn_RJ7 : plainName RJ7 = true := by decide
theorem zpn_RL : plainName RL = true := by decide
theorem zpn_RX0 : plainName RX0 = true := by decide
theorem zpn_RX1 : plainName RX1 = true := by decide
theorem zpn_RX2 : plainName RX2 = true := by decide
theorem zpn_RX3 : plainName RX3 = true := by decide
theorem zpn_RX4 : plainName RX4 = true := by decide
theorem zpn_RX5 : plainName RX5 = true := by decide
theorem zpn_RX6 : plainName RX6 = true := by decide
theorem zpn_RX7 : plainName RX7 = true := by decide
theorem zpn_RX8 : plainName RX8 = true := by decide
