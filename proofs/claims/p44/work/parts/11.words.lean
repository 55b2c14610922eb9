/-! what the tables say of fields, calls, constants: a row each -/
theorem zi_0 : zIn (.selects yX3_clear.cls yX3_clear yX3_clear) := zin_at 0 (by decide +kernel) (by decide +kernel)
theorem zi_2 : zIn (.selects yL_writes.cls yL_writes yL_writes) := zin_at 2 (by decide +kernel) (by decide +kernel)
theorem zi_3 : zIn (.selects yL_spaced.cls yL_spaced yL_spaced) := zin_at 3 (by decide +kernel) (by decide +kernel)
theorem zi_4 : zIn (.selects yL_letter.cls yL_letter yL_letter) := zin_at 4 (by decide +kernel) (by decide +kernel)
theorem zi_5 : zIn (.selects yL_feeds.cls yL_feeds yL_feeds) := zin_at 5 (by decide +kernel) (by decide +kernel)
theorem zi_6 : zIn (.selects yX6_append.cls yX6_append yX6_append) := zin_at 6 (by decide +kernel) (by decide +kernel)
theorem zi_8 : zIn (.selects yX6_begin.cls yX6_begin yX6_begin) := zin_at 8 (by decide +kernel) (by decide +kernel)
theorem zi_9 : zIn (.selects yX6_advance.cls yX6_advance yX6_advance) := zin_at 9 (by decide +kernel) (by decide +kernel)
theorem zi_10 : zIn (.selects yX2_readText.cls yX2_readText yX2_readText) := zin_at 10 (by decide +kernel) (by decide +kernel)
theorem zi_11 : zIn (.selects yX2_readHead.cls yX2_readHead yX2_readHead) := zin_at 11 (by decide +kernel) (by decide +kernel)
theorem zi_12 : zIn (.selects yX2_takeWord.cls yX2_takeWord yX2_takeWord) := zin_at 12 (by decide +kernel) (by decide +kernel)
theorem zi_13 : zIn (.selects yX6_isWord.cls yX6_isWord yX6_isWord) := zin_at 13 (by decide +kernel) (by decide +kernel)
theorem zi_14 : zIn (.selects yX2_fail.cls yX2_fail yX2_fail) := zin_at 14 (by decide +kernel) (by decide +kernel)
theorem zi_15 : zIn (.selects yX2_readKeep.cls yX2_readKeep yX2_readKeep) := zin_at 15 (by decide +kernel) (by decide +kernel)
theorem zi_16 : zIn (.selects yX2_takeNumber.cls yX2_takeNumber yX2_takeNumber) := zin_at 16 (by decide +kernel) (by decide +kernel)
theorem zi_17 : zIn (.selects yX2_isNumber.cls yX2_isNumber yX2_isNumber) := zin_at 17 (by decide +kernel) (by decide +kernel)
theorem zi_18 : zIn (.selects yX2_readPer.cls yX2_readPer yX2_readPer) := zin_at 18 (by decide +kernel) (by decide +kernel)
theorem zi_19 : zIn (.selects yX2_readPool.cls yX2_readPool yX2_readPool) := zin_at 19 (by decide +kernel) (by decide +kernel)
theorem zi_20 : zIn (.selects yX2_takeSemicolon.cls yX2_takeSemicolon yX2_takeSemicolon) := zin_at 20 (by decide +kernel) (by decide +kernel)
theorem zi_21 : zIn (.selects yX6_isSign.cls yX6_isSign yX6_isSign) := zin_at 21 (by decide +kernel) (by decide +kernel)
theorem zi_22 : zIn (.selects yX2_readHost.cls yX2_readHost yX2_readHost) := zin_at 22 (by decide +kernel) (by decide +kernel)
theorem zi_23 : zIn (.selects yX6_letters.cls yX6_letters yX6_letters) := zin_at 23 (by decide +kernel) (by decide +kernel)
theorem zi_24 : zIn (.selects yX6_asName.cls yX6_asName yX6_asName) := zin_at 24 (by decide +kernel) (by decide +kernel)
theorem zi_25 : zIn (.selects yX3_hostNamed.cls yX3_hostNamed yX3_hostNamed) := zin_at 25 (by decide +kernel) (by decide +kernel)
theorem zi_26 : zIn (.selects yX3_holderInOffice.cls yX3_holderInOffice yX3_holderInOffice) := zin_at 26 (by decide +kernel) (by decide +kernel)
theorem zi_27 : zIn (.selects yX3_keptBy.cls yX3_keptBy yX3_keptBy) := zin_at 27 (by decide +kernel) (by decide +kernel)
theorem zi_28 : zIn (.selects yX3_keepsAt.cls yX3_keepsAt yX3_keepsAt) := zin_at 28 (by decide +kernel) (by decide +kernel)
theorem zi_29 : zIn (.selects yX3_numberAhead.cls yX3_numberAhead yX3_numberAhead) := zin_at 29 (by decide +kernel) (by decide +kernel)
theorem zi_30 : zIn (.selects yX3_appendHost.cls yX3_appendHost yX3_appendHost) := zin_at 30 (by decide +kernel) (by decide +kernel)
theorem zi_31 : zIn (.selects yX2_readRule.cls yX2_readRule yX2_readRule) := zin_at 31 (by decide +kernel) (by decide +kernel)
theorem zi_32 : zIn (.selects yX2_takeSide.cls yX2_takeSide yX2_takeSide) := zin_at 32 (by decide +kernel) (by decide +kernel)
theorem zi_33 : zIn (.selects yX3_appendRule.cls yX3_appendRule yX3_appendRule) := zin_at 33 (by decide +kernel) (by decide +kernel)
theorem zi_34 : zIn (.selects yX2_readMove.cls yX2_readMove yX2_readMove) := zin_at 34 (by decide +kernel) (by decide +kernel)
theorem zi_35 : zIn (.selects yX3_plansIn.cls yX3_plansIn yX3_plansIn) := zin_at 35 (by decide +kernel) (by decide +kernel)
theorem zi_36 : zIn (.selects yX3_setPlan.cls yX3_setPlan yX3_setPlan) := zin_at 36 (by decide +kernel) (by decide +kernel)
theorem zi_37 : zIn (.selects yX3_copyFrom.cls yX3_copyFrom yX3_copyFrom) := zin_at 37 (by decide +kernel) (by decide +kernel)
theorem zi_38 : zIn (.selects yX0_clear.cls yX0_clear yX0_clear) := zin_at 38 (by decide +kernel) (by decide +kernel)
theorem zi_39 : zIn (.selects yX3_planCount.cls yX3_planCount yX3_planCount) := zin_at 39 (by decide +kernel) (by decide +kernel)
theorem zi_40 : zIn (.selects yX7_clashCount.cls yX7_clashCount yX7_clashCount) := zin_at 40 (by decide +kernel) (by decide +kernel)
theorem zi_41 : zIn (.selects yX5_count.cls yX5_count yX5_count) := zin_at 41 (by decide +kernel) (by decide +kernel)
theorem zi_42 : zIn (.selects yX5_clashes.cls yX5_clashes yX5_clashes) := zin_at 42 (by decide +kernel) (by decide +kernel)
theorem zi_43 : zIn (.selects yX5_isClash.cls yX5_isClash yX5_isClash) := zin_at 43 (by decide +kernel) (by decide +kernel)
theorem zi_44 : zIn (.selects yX3_keeperCount.cls yX3_keeperCount yX3_keeperCount) := zin_at 44 (by decide +kernel) (by decide +kernel)
theorem zi_45 : zIn (.selects yX7_needHost.cls yX7_needHost yX7_needHost) := zin_at 45 (by decide +kernel) (by decide +kernel)
theorem zi_46 : zIn (.selects yX5_clashAt.cls yX5_clashAt yX5_clashAt) := zin_at 46 (by decide +kernel) (by decide +kernel)
theorem zi_47 : zIn (.selects yX7_tryWave.cls yX7_tryWave yX7_tryWave) := zin_at 47 (by decide +kernel) (by decide +kernel)
theorem zi_48 : zIn (.selects yX3_keeperWouldMove.cls yX3_keeperWouldMove yX3_keeperWouldMove) := zin_at 48 (by decide +kernel) (by decide +kernel)
theorem zi_49 : zIn (.selects yX3_doWave.cls yX3_doWave yX3_doWave) := zin_at 49 (by decide +kernel) (by decide +kernel)
theorem zi_50 : zIn (.selects yX3_sideBehindWave.cls yX3_sideBehindWave yX3_sideBehindWave) := zin_at 50 (by decide +kernel) (by decide +kernel)
theorem zi_51 : zIn (.selects yX3_numberedInNet.cls yX3_numberedInNet yX3_numberedInNet) := zin_at 51 (by decide +kernel) (by decide +kernel)
theorem zi_52 : zIn (.selects yX3_inNet.cls yX3_inNet yX3_inNet) := zin_at 52 (by decide +kernel) (by decide +kernel)
theorem zi_53 : zIn (.selects yX7_heldTwice.cls yX7_heldTwice yX7_heldTwice) := zin_at 53 (by decide +kernel) (by decide +kernel)
theorem zi_54 : zIn (.selects yX5_smallestTwice.cls yX5_smallestTwice yX5_smallestTwice) := zin_at 54 (by decide +kernel) (by decide +kernel)
theorem zi_55 : zIn (.selects yX7_adoptTrial.cls yX7_adoptTrial yX7_adoptTrial) := zin_at 55 (by decide +kernel) (by decide +kernel)
theorem zi_56 : zIn (.selects yX0_add.cls yX0_add yX0_add) := zin_at 56 (by decide +kernel) (by decide +kernel)
theorem zi_57 : zIn (.selects yX0_takeNewest.cls yX0_takeNewest yX0_takeNewest) := zin_at 57 (by decide +kernel) (by decide +kernel)
theorem zi_58 : zIn (.selects yX3_holderInNet.cls yX3_holderInNet yX3_holderInNet) := zin_at 58 (by decide +kernel) (by decide +kernel)
theorem zi_59 : zIn (.selects yX3_dropHost.cls yX3_dropHost yX3_dropHost) := zin_at 59 (by decide +kernel) (by decide +kernel)
theorem zi_60 : zIn (.selects yX3_chosenToMove.cls yX3_chosenToMove yX3_chosenToMove) := zin_at 60 (by decide +kernel) (by decide +kernel)
theorem zi_61 : zIn (.selects yX3_movableWith.cls yX3_movableWith yX3_movableWith) := zin_at 61 (by decide +kernel) (by decide +kernel)
theorem zi_62 : zIn (.selects yX5_smallestFree.cls yX5_smallestFree yX5_smallestFree) := zin_at 62 (by decide +kernel) (by decide +kernel)
theorem zi_63 : zIn (.selects yX3_firstWaveWithRoom.cls yX3_firstWaveWithRoom yX3_firstWaveWithRoom) := zin_at 63 (by decide +kernel) (by decide +kernel)
theorem zi_64 : zIn (.selects yX5_countPlan.cls yX5_countPlan yX5_countPlan) := zin_at 64 (by decide +kernel) (by decide +kernel)
theorem zi_65 : zIn (.selects yX3_undoWave.cls yX3_undoWave yX3_undoWave) := zin_at 65 (by decide +kernel) (by decide +kernel)
theorem zi_66 : zIn (.selects yX3_sideAheadOfWave.cls yX3_sideAheadOfWave yX3_sideAheadOfWave) := zin_at 66 (by decide +kernel) (by decide +kernel)
theorem zi_67 : zIn (.selects yX3_undoMove.cls yX3_undoMove yX3_undoMove) := zin_at 67 (by decide +kernel) (by decide +kernel)
theorem zi_68 : zIn (.selects yX3_hostsOfOffice.cls yX3_hostsOfOffice yX3_hostsOfOffice) := zin_at 68 (by decide +kernel) (by decide +kernel)
theorem zi_69 : zIn (.selects yX7_needRule.cls yX7_needRule yX7_needRule) := zin_at 69 (by decide +kernel) (by decide +kernel)
theorem zi_70 : zIn (.selects yX3_dropRule.cls yX3_dropRule yX3_dropRule) := zin_at 70 (by decide +kernel) (by decide +kernel)
theorem zi_88 : zIn (.initialized "java/lang/Math") := zin_at 88 (by decide +kernel) (by decide +kernel)
theorem zi_89 : zIn (.initialized "java/lang/System") := zin_at 89 (by decide +kernel) (by decide +kernel)
theorem zi_326 : zIn (.instanceMethod yX3_clear) := zin_at 326 (by decide +kernel) (by decide +kernel)
theorem zi_380 : zIn (.static yL_cell) := zin_at 380 (by decide +kernel) (by decide +kernel)
theorem zi_382 : zIn (.constant RL 33 (Int32.ofInt (1073741823))) := zin_at 382 (by decide +kernel) (by decide +kernel)
theorem zi_386 : zIn (.instanceMethod yL_writes) := zin_at 386 (by decide +kernel) (by decide +kernel)
theorem zi_438 : zIn (.instanceMethod yL_spaced) := zin_at 438 (by decide +kernel) (by decide +kernel)
theorem zi_447 : zIn (.instanceMethod yL_letter) := zin_at 447 (by decide +kernel) (by decide +kernel)
theorem zi_456 : zIn (.instanceMethod yL_feeds) := zin_at 456 (by decide +kernel) (by decide +kernel)
theorem zi_459 : zIn (.instanceMethod yX7_feed) := zin_at 459 (by decide +kernel) (by decide +kernel)
theorem zi_460 : zIn (.selects yX7_feed.cls yX7_feed yX7_feed) := zin_at 460 (by decide +kernel) (by decide +kernel)
theorem zi_464 : zIn (.instanceMethod yX6_append) := zin_at 464 (by decide +kernel) (by decide +kernel)
theorem zi_467 : zIn (.instanceMethod yX7_load) := zin_at 467 (by decide +kernel) (by decide +kernel)
theorem zi_468 : zIn (.selects yX7_load.cls yX7_load yX7_load) := zin_at 468 (by decide +kernel) (by decide +kernel)
theorem zi_535 : zIn (.instanceMethod yX6_begin) := zin_at 535 (by decide +kernel) (by decide +kernel)
theorem zi_537 : zIn (.methodLink RX6 19 Lib.Math.min.name) := zin_at 537 (by decide +kernel) (by decide +kernel)
theorem zi_538 : zIn (.static Lib.Math.min.name) := zin_at 538 (by decide +kernel) (by decide +kernel)
theorem zi_539 : zIn (.code Lib.Math.min.name Lib.Math.min.code 2 (some .int)) := zin_at 539 (by decide +kernel) (by decide +kernel)
theorem zi_542 : zIn (.instanceMethod yX6_advance) := zin_at 542 (by decide +kernel) (by decide +kernel)
theorem zi_545 : zIn (.static yX6_isLetter) := zin_at 545 (by decide +kernel) (by decide +kernel)
theorem zi_548 : zIn (.static yX6_isDigit) := zin_at 548 (by decide +kernel) (by decide +kernel)
theorem zi_552 : zIn (.instanceMethod yX2_readText) := zin_at 552 (by decide +kernel) (by decide +kernel)
theorem zi_557 : zIn (.instanceMethod yX2_readHead) := zin_at 557 (by decide +kernel) (by decide +kernel)
theorem zi_562 : zIn (.instanceMethod yX2_takeWord) := zin_at 562 (by decide +kernel) (by decide +kernel)
theorem zi_566 : zIn (.instanceMethod yX6_isWord) := zin_at 566 (by decide +kernel) (by decide +kernel)
theorem zi_572 : zIn (.instanceMethod yX2_fail) := zin_at 572 (by decide +kernel) (by decide +kernel)
theorem zi_577 : zIn (.instanceMethod yX2_readKeep) := zin_at 577 (by decide +kernel) (by decide +kernel)
theorem zi_582 : zIn (.instanceMethod yX2_takeNumber) := zin_at 582 (by decide +kernel) (by decide +kernel)
theorem zi_586 : zIn (.instanceMethod yX2_isNumber) := zin_at 586 (by decide +kernel) (by decide +kernel)
theorem zi_590 : zIn (.instanceMethod yX2_readPer) := zin_at 590 (by decide +kernel) (by decide +kernel)
theorem zi_595 : zIn (.instanceMethod yX2_readPool) := zin_at 595 (by decide +kernel) (by decide +kernel)
theorem zi_600 : zIn (.instanceMethod yX2_takeSemicolon) := zin_at 600 (by decide +kernel) (by decide +kernel)
theorem zi_604 : zIn (.instanceMethod yX6_isSign) := zin_at 604 (by decide +kernel) (by decide +kernel)
theorem zi_609 : zIn (.instanceMethod yX2_readHost) := zin_at 609 (by decide +kernel) (by decide +kernel)
theorem zi_613 : zIn (.instanceMethod yX6_letters) := zin_at 613 (by decide +kernel) (by decide +kernel)
theorem zi_617 : zIn (.instanceMethod yX6_asName) := zin_at 617 (by decide +kernel) (by decide +kernel)
theorem zi_622 : zIn (.instanceMethod yX3_hostNamed) := zin_at 622 (by decide +kernel) (by decide +kernel)
theorem zi_626 : zIn (.instanceMethod yX3_holderInOffice) := zin_at 626 (by decide +kernel) (by decide +kernel)
theorem zi_630 : zIn (.instanceMethod yX3_keptBy) := zin_at 630 (by decide +kernel) (by decide +kernel)
theorem zi_634 : zIn (.instanceMethod yX3_keepsAt) := zin_at 634 (by decide +kernel) (by decide +kernel)
theorem zi_638 : zIn (.instanceMethod yX3_numberAhead) := zin_at 638 (by decide +kernel) (by decide +kernel)
theorem zi_642 : zIn (.instanceMethod yX3_appendHost) := zin_at 642 (by decide +kernel) (by decide +kernel)
theorem zi_648 : zIn (.instanceMethod yX2_readRule) := zin_at 648 (by decide +kernel) (by decide +kernel)
theorem zi_654 : zIn (.instanceMethod yX2_takeSide) := zin_at 654 (by decide +kernel) (by decide +kernel)
theorem zi_659 : zIn (.instanceMethod yX3_appendRule) := zin_at 659 (by decide +kernel) (by decide +kernel)
theorem zi_664 : zIn (.instanceMethod yX2_readMove) := zin_at 664 (by decide +kernel) (by decide +kernel)
theorem zi_668 : zIn (.instanceMethod yX3_plansIn) := zin_at 668 (by decide +kernel) (by decide +kernel)
theorem zi_672 : zIn (.instanceMethod yX3_setPlan) := zin_at 672 (by decide +kernel) (by decide +kernel)
theorem zi_676 : zIn (.instanceMethod yX3_copyFrom) := zin_at 676 (by decide +kernel) (by decide +kernel)
theorem zi_678 : zIn (.methodLink RX3 75 arraycopyName) := zin_at 678 (by decide +kernel) (by decide +kernel)
theorem zi_679 : zIn (.static arraycopyName) := zin_at 679 (by decide +kernel) (by decide +kernel)
theorem zi_680 : zIn (.native arraycopyName) := zin_at 680 (by decide +kernel) (by decide +kernel)
theorem zi_683 : zIn (.instanceMethod yX0_clear) := zin_at 683 (by decide +kernel) (by decide +kernel)
theorem zi_686 : zIn (.instanceMethod yX7_errorPosition) := zin_at 686 (by decide +kernel) (by decide +kernel)
theorem zi_687 : zIn (.selects yX7_errorPosition.cls yX7_errorPosition yX7_errorPosition) := zin_at 687 (by decide +kernel) (by decide +kernel)
theorem zi_690 : zIn (.instanceMethod yX7_size) := zin_at 690 (by decide +kernel) (by decide +kernel)
theorem zi_691 : zIn (.selects yX7_size.cls yX7_size yX7_size) := zin_at 691 (by decide +kernel) (by decide +kernel)
theorem zi_695 : zIn (.instanceMethod yX3_planCount) := zin_at 695 (by decide +kernel) (by decide +kernel)
theorem zi_699 : zIn (.instanceMethod yX7_clashCount) := zin_at 699 (by decide +kernel) (by decide +kernel)
theorem zi_703 : zIn (.instanceMethod yX5_count) := zin_at 703 (by decide +kernel) (by decide +kernel)
theorem zi_706 : zIn (.static yJ7_fill_53178) := zin_at 706 (by decide +kernel) (by decide +kernel)
theorem zi_710 : zIn (.static yX5_addOne) := zin_at 710 (by decide +kernel) (by decide +kernel)
theorem zi_714 : zIn (.instanceMethod yX5_clashes) := zin_at 714 (by decide +kernel) (by decide +kernel)
theorem zi_718 : zIn (.instanceMethod yX5_isClash) := zin_at 718 (by decide +kernel) (by decide +kernel)
theorem zi_722 : zIn (.instanceMethod yX3_keeperCount) := zin_at 722 (by decide +kernel) (by decide +kernel)
theorem zi_743 : zIn (.static yL_isRight) := zin_at 743 (by decide +kernel) (by decide +kernel)
theorem zi_746 : zIn (.instanceMethod yX7_host) := zin_at 746 (by decide +kernel) (by decide +kernel)
theorem zi_747 : zIn (.selects yX7_host.cls yX7_host yX7_host) := zin_at 747 (by decide +kernel) (by decide +kernel)
theorem zi_751 : zIn (.instanceMethod yX7_needHost) := zin_at 751 (by decide +kernel) (by decide +kernel)
theorem zi_755 : zIn (.static yL_areOfNet) := zin_at 755 (by decide +kernel) (by decide +kernel)
theorem zi_758 : zIn (.static yL_holds) := zin_at 758 (by decide +kernel) (by decide +kernel)
theorem zi_761 : zIn (.static yL_isClashes) := zin_at 761 (by decide +kernel) (by decide +kernel)
theorem zi_764 : zIn (.instanceMethod yX7_holder) := zin_at 764 (by decide +kernel) (by decide +kernel)
theorem zi_765 : zIn (.selects yX7_holder.cls yX7_holder yX7_holder) := zin_at 765 (by decide +kernel) (by decide +kernel)
theorem zi_768 : zIn (.static yX7_needOffice) := zin_at 768 (by decide +kernel) (by decide +kernel)
theorem zi_771 : zIn (.static yX7_needNumber) := zin_at 771 (by decide +kernel) (by decide +kernel)
theorem zi_775 : zIn (.instanceMethod yX7_clash) := zin_at 775 (by decide +kernel) (by decide +kernel)
theorem zi_776 : zIn (.selects yX7_clash.cls yX7_clash yX7_clash) := zin_at 776 (by decide +kernel) (by decide +kernel)
theorem zi_780 : zIn (.instanceMethod yX5_clashAt) := zin_at 780 (by decide +kernel) (by decide +kernel)
theorem zi_783 : zIn (.static yL_isWave) := zin_at 783 (by decide +kernel) (by decide +kernel)
theorem zi_786 : zIn (.instanceMethod yX7_plans) := zin_at 786 (by decide +kernel) (by decide +kernel)
theorem zi_787 : zIn (.selects yX7_plans.cls yX7_plans yX7_plans) := zin_at 787 (by decide +kernel) (by decide +kernel)
theorem zi_790 : zIn (.static yX7_needWave) := zin_at 790 (by decide +kernel) (by decide +kernel)
theorem zi_794 : zIn (.instanceMethod yX7_whyNot) := zin_at 794 (by decide +kernel) (by decide +kernel)
theorem zi_795 : zIn (.selects yX7_whyNot.cls yX7_whyNot yX7_whyNot) := zin_at 795 (by decide +kernel) (by decide +kernel)
theorem zi_799 : zIn (.instanceMethod yX7_tryWave) := zin_at 799 (by decide +kernel) (by decide +kernel)
theorem zi_803 : zIn (.instanceMethod yX3_keeperWouldMove) := zin_at 803 (by decide +kernel) (by decide +kernel)
theorem zi_807 : zIn (.instanceMethod yX3_doWave) := zin_at 807 (by decide +kernel) (by decide +kernel)
theorem zi_811 : zIn (.instanceMethod yX3_sideBehindWave) := zin_at 811 (by decide +kernel) (by decide +kernel)
theorem zi_815 : zIn (.instanceMethod yX3_numberedInNet) := zin_at 815 (by decide +kernel) (by decide +kernel)
theorem zi_819 : zIn (.instanceMethod yX3_inNet) := zin_at 819 (by decide +kernel) (by decide +kernel)
theorem zi_824 : zIn (.instanceMethod yX7_heldTwice) := zin_at 824 (by decide +kernel) (by decide +kernel)
theorem zi_828 : zIn (.instanceMethod yX5_smallestTwice) := zin_at 828 (by decide +kernel) (by decide +kernel)
theorem zi_830 : zIn (.methodLink RX7 229 Lib.Math.min.name) := zin_at 830 (by decide +kernel) (by decide +kernel)
theorem zi_832 : zIn (.instanceMethod yX7_wave) := zin_at 832 (by decide +kernel) (by decide +kernel)
theorem zi_833 : zIn (.selects yX7_wave.cls yX7_wave yX7_wave) := zin_at 833 (by decide +kernel) (by decide +kernel)
theorem zi_837 : zIn (.instanceMethod yX7_adoptTrial) := zin_at 837 (by decide +kernel) (by decide +kernel)
theorem zi_841 : zIn (.instanceMethod yX0_add) := zin_at 841 (by decide +kernel) (by decide +kernel)
theorem zi_844 : zIn (.methodLink RX0 29 Lib.Math.min.name) := zin_at 844 (by decide +kernel) (by decide +kernel)
theorem zi_846 : zIn (.instanceMethod yX7_undo) := zin_at 846 (by decide +kernel) (by decide +kernel)
theorem zi_847 : zIn (.selects yX7_undo.cls yX7_undo yX7_undo) := zin_at 847 (by decide +kernel) (by decide +kernel)
theorem zi_851 : zIn (.instanceMethod yX0_takeNewest) := zin_at 851 (by decide +kernel) (by decide +kernel)
theorem zi_854 : zIn (.static yL_acts) := zin_at 854 (by decide +kernel) (by decide +kernel)
theorem zi_857 : zIn (.instanceMethod yX7_addHost) := zin_at 857 (by decide +kernel) (by decide +kernel)
theorem zi_858 : zIn (.selects yX7_addHost.cls yX7_addHost yX7_addHost) := zin_at 858 (by decide +kernel) (by decide +kernel)
theorem zi_862 : zIn (.instanceMethod yX3_holderInNet) := zin_at 862 (by decide +kernel) (by decide +kernel)
theorem zi_866 : zIn (.instanceMethod yX7_removeHost) := zin_at 866 (by decide +kernel) (by decide +kernel)
theorem zi_867 : zIn (.selects yX7_removeHost.cls yX7_removeHost yX7_removeHost) := zin_at 867 (by decide +kernel) (by decide +kernel)
theorem zi_871 : zIn (.instanceMethod yX3_dropHost) := zin_at 871 (by decide +kernel) (by decide +kernel)
theorem zi_873 : zIn (.methodLink RL 91 Lib.Math.min.name) := zin_at 873 (by decide +kernel) (by decide +kernel)
theorem zi_875 : zIn (.instanceMethod yX7_plan) := zin_at 875 (by decide +kernel) (by decide +kernel)
theorem zi_876 : zIn (.selects yX7_plan.cls yX7_plan yX7_plan) := zin_at 876 (by decide +kernel) (by decide +kernel)
theorem zi_880 : zIn (.instanceMethod yX7_settle) := zin_at 880 (by decide +kernel) (by decide +kernel)
theorem zi_881 : zIn (.selects yX7_settle.cls yX7_settle yX7_settle) := zin_at 881 (by decide +kernel) (by decide +kernel)
theorem zi_886 : zIn (.instanceMethod yX3_chosenToMove) := zin_at 886 (by decide +kernel) (by decide +kernel)
theorem zi_890 : zIn (.instanceMethod yX3_movableWith) := zin_at 890 (by decide +kernel) (by decide +kernel)
theorem zi_894 : zIn (.instanceMethod yX5_smallestFree) := zin_at 894 (by decide +kernel) (by decide +kernel)
theorem zi_896 : zIn (.methodLink RX5 53 Lib.Math.max.name) := zin_at 896 (by decide +kernel) (by decide +kernel)
theorem zi_897 : zIn (.static Lib.Math.max.name) := zin_at 897 (by decide +kernel) (by decide +kernel)
theorem zi_898 : zIn (.code Lib.Math.max.name Lib.Math.max.code 2 (some .int)) := zin_at 898 (by decide +kernel) (by decide +kernel)
theorem zi_901 : zIn (.instanceMethod yX3_firstWaveWithRoom) := zin_at 901 (by decide +kernel) (by decide +kernel)
theorem zi_906 : zIn (.instanceMethod yX5_countPlan) := zin_at 906 (by decide +kernel) (by decide +kernel)
theorem zi_909 : zIn (.instanceMethod yX7_back) := zin_at 909 (by decide +kernel) (by decide +kernel)
theorem zi_910 : zIn (.selects yX7_back.cls yX7_back yX7_back) := zin_at 910 (by decide +kernel) (by decide +kernel)
theorem zi_914 : zIn (.instanceMethod yX3_undoWave) := zin_at 914 (by decide +kernel) (by decide +kernel)
theorem zi_918 : zIn (.instanceMethod yX3_sideAheadOfWave) := zin_at 918 (by decide +kernel) (by decide +kernel)
theorem zi_922 : zIn (.instanceMethod yX3_undoMove) := zin_at 922 (by decide +kernel) (by decide +kernel)
theorem zi_925 : zIn (.instanceMethod yX7_open) := zin_at 925 (by decide +kernel) (by decide +kernel)
theorem zi_926 : zIn (.selects yX7_open.cls yX7_open yX7_open) := zin_at 926 (by decide +kernel) (by decide +kernel)
theorem zi_929 : zIn (.instanceMethod yX7_close) := zin_at 929 (by decide +kernel) (by decide +kernel)
theorem zi_930 : zIn (.selects yX7_close.cls yX7_close yX7_close) := zin_at 930 (by decide +kernel) (by decide +kernel)
theorem zi_934 : zIn (.instanceMethod yX3_hostsOfOffice) := zin_at 934 (by decide +kernel) (by decide +kernel)
theorem zi_937 : zIn (.instanceMethod yX7_addRule) := zin_at 937 (by decide +kernel) (by decide +kernel)
theorem zi_938 : zIn (.selects yX7_addRule.cls yX7_addRule yX7_addRule) := zin_at 938 (by decide +kernel) (by decide +kernel)
theorem zi_941 : zIn (.static yX7_needSide) := zin_at 941 (by decide +kernel) (by decide +kernel)
theorem zi_945 : zIn (.instanceMethod yX7_removeRule) := zin_at 945 (by decide +kernel) (by decide +kernel)
theorem zi_946 : zIn (.selects yX7_removeRule.cls yX7_removeRule yX7_removeRule) := zin_at 946 (by decide +kernel) (by decide +kernel)
theorem zi_950 : zIn (.instanceMethod yX7_needRule) := zin_at 950 (by decide +kernel) (by decide +kernel)
theorem zi_954 : zIn (.instanceMethod yX3_dropRule) := zin_at 954 (by decide +kernel) (by decide +kernel)
theorem zi_957 : zIn (.instanceMethod yX7_setKeep) := zin_at 957 (by decide +kernel) (by decide +kernel)
theorem zi_958 : zIn (.selects yX7_setKeep.cls yX7_setKeep yX7_setKeep) := zin_at 958 (by decide +kernel) (by decide +kernel)
theorem zi_961 : zIn (.instanceMethod yX7_setPinned) := zin_at 961 (by decide +kernel) (by decide +kernel)
theorem zi_962 : zIn (.selects yX7_setPinned.cls yX7_setPinned yX7_setPinned) := zin_at 962 (by decide +kernel) (by decide +kernel)
theorem zi_965 : zIn (.instanceMethod yX7_unplan) := zin_at 965 (by decide +kernel) (by decide +kernel)
theorem zi_966 : zIn (.selects yX7_unplan.cls yX7_unplan yX7_unplan) := zin_at 966 (by decide +kernel) (by decide +kernel)
theorem zu_0 : ∀ w ∈ u_ws RX0 TX0 3, zIn w := by
  have h : (u_ws RX0 TX0 3).all (fun w => decide (w ∈ lw_tbl) && zok w) = true := by decide +kernel
  intro w hw
  have := List.all_eq_true.mp h w hw
  rw [Bool.and_eq_true, decide_eq_true_eq] at this
  exact this
theorem zu_1 : ∀ w ∈ u_ws RX1 TX1 2, zIn w := by
  have h : (u_ws RX1 TX1 2).all (fun w => decide (w ∈ lw_tbl) && zok w) = true := by decide +kernel
  intro w hw
  have := List.all_eq_true.mp h w hw
  rw [Bool.and_eq_true, decide_eq_true_eq] at this
  exact this
theorem zu_2 : ∀ w ∈ u_ws RX2 TX2 4, zIn w := by
  have h : (u_ws RX2 TX2 4).all (fun w => decide (w ∈ lw_tbl) && zok w) = true := by decide +kernel
  intro w hw
  have := List.all_eq_true.mp h w hw
  rw [Bool.and_eq_true, decide_eq_true_eq] at this
  exact this
theorem zu_3 : ∀ w ∈ u_ws RX3 TX3 20, zIn w := by
  have h : (u_ws RX3 TX3 20).all (fun w => decide (w ∈ lw_tbl) && zok w) = true := by decide +kernel
  intro w hw
  have := List.all_eq_true.mp h w hw
  rw [Bool.and_eq_true, decide_eq_true_eq] at this
  exact this
theorem zu_4 : ∀ w ∈ u_ws RX4 TX4 9, zIn w := by
  have h : (u_ws RX4 TX4 9).all (fun w => decide (w ∈ lw_tbl) && zok w) = true := by decide +kernel
  intro w hw
  have := List.all_eq_true.mp h w hw
  rw [Bool.and_eq_true, decide_eq_true_eq] at this
  exact this
theorem zu_5 : ∀ w ∈ u_ws RX5 TX5 3, zIn w := by
  have h : (u_ws RX5 TX5 3).all (fun w => decide (w ∈ lw_tbl) && zok w) = true := by decide +kernel
  intro w hw
  have := List.all_eq_true.mp h w hw
  rw [Bool.and_eq_true, decide_eq_true_eq] at this
  exact this
theorem zu_6 : ∀ w ∈ u_ws RX6 TX6 7, zIn w := by
  have h : (u_ws RX6 TX6 7).all (fun w => decide (w ∈ lw_tbl) && zok w) = true := by decide +kernel
  intro w hw
  have := List.all_eq_true.mp h w hw
  rw [Bool.and_eq_true, decide_eq_true_eq] at this
  exact this
theorem zu_7 : ∀ w ∈ u_ws RX7 TX7 11, zIn w := by
  have h : (u_ws RX7 TX7 11).all (fun w => decide (w ∈ lw_tbl) && zok w) = true := by decide +kernel
  intro w hw
  have := List.all_eq_true.mp h w hw
  rw [Bool.and_eq_true, decide_eq_true_eq] at this
  exact this
theorem zu_8 : ∀ w ∈ u_ws RL TL 2, zIn w := by
  have h : (u_ws RL TL 2).all (fun w => decide (w ∈ lw_tbl) && zok w) = true := by decide +kernel
  intro w hw
  have := List.all_eq_true.mp h w hw
  rw [Bool.and_eq_true, decide_eq_true_eq] at this
  exact this
theorem zf_RX7_10 : zFl RX7 10 7 0 (.object "NetMerge$Nets") true := ⟨RX7, TX7, 11, tyX7, rfl, by decide, zu_7, tyX7_ok, nmX7, rfl, rfl, Or.inl (zin_at (w := (.fieldLink RX7 10 (TX7 0).1 (TX7 0).2.1 (TX7 0).2.2.1)) 328 (by decide +kernel) (by decide +kernel))⟩
theorem zf_RX7_16 : zFl RX7 16 7 1 (.object "NetMerge$Nets") true := ⟨RX7, TX7, 11, tyX7, rfl, by decide, zu_7, tyX7_ok, nmX7, rfl, rfl, Or.inl (zin_at (w := (.fieldLink RX7 16 (TX7 1).1 (TX7 1).2.1 (TX7 1).2.2.1)) 329 (by decide +kernel) (by decide +kernel))⟩
theorem zf_RX7_25 : zFl RX7 25 7 4 (.object "NetMerge$History") true := ⟨RX7, TX7, 11, tyX7, rfl, by decide, zu_7, tyX7_ok, nmX7, rfl, rfl, Or.inl (zin_at (w := (.fieldLink RX7 25 (TX7 4).1 (TX7 4).2.1 (TX7 4).2.2.1)) 332 (by decide +kernel) (by decide +kernel))⟩
theorem zf_RX7_32 : zFl RX7 32 7 5 (.object "NetMerge$Tally") true := ⟨RX7, TX7, 11, tyX7, rfl, by decide, zu_7, tyX7_ok, nmX7, rfl, rfl, Or.inl (zin_at (w := (.fieldLink RX7 32 (TX7 5).1 (TX7 5).2.1 (TX7 5).2.2.1)) 333 (by decide +kernel) (by decide +kernel))⟩
theorem zf_RX7_39 : zFl RX7 39 7 6 (.object "NetMerge$Text") true := ⟨RX7, TX7, 11, tyX7, rfl, by decide, zu_7, tyX7_ok, nmX7, rfl, rfl, Or.inl (zin_at (w := (.fieldLink RX7 39 (TX7 6).1 (TX7 6).2.1 (TX7 6).2.2.1)) 334 (by decide +kernel) (by decide +kernel))⟩
theorem zf_RX7_48 : zFl RX7 48 7 7 (.object "NetMerge$Loader") true := ⟨RX7, TX7, 11, tyX7, rfl, by decide, zu_7, tyX7_ok, nmX7, rfl, rfl, Or.inl (zin_at (w := (.fieldLink RX7 48 (TX7 7).1 (TX7 7).2.1 (TX7 7).2.2.1)) 335 (by decide +kernel) (by decide +kernel))⟩
theorem zf_RX7_68 : zFl RX7 68 7 10 (.int) false := ⟨RX7, TX7, 11, tyX7, rfl, by decide, zu_7, tyX7_ok, nmX7, rfl, rfl, Or.inl (zin_at (w := (.fieldLink RX7 68 (TX7 10).1 (TX7 10).2.1 (TX7 10).2.2.1)) 338 (by decide +kernel) (by decide +kernel))⟩
theorem zf_RX7_75 : zFl RX7 75 6 1 (.int) false := ⟨RX6, TX6, 7, tyX6, rfl, by decide, zu_6, tyX6_ok, nmX6, rfl, rfl, Or.inr ⟨_, zin_at (w := (.fieldLinkNest RX7 75 (TX6 1).1 (TX6 1).2.1 (TX6 1).2.2.1 "NetMerge")) 238 (by decide +kernel) (by decide +kernel)⟩⟩
theorem zf_RX7_92 : zFl RX7 92 6 5 (.int) false := ⟨RX6, TX6, 7, tyX6, rfl, by decide, zu_6, tyX6_ok, nmX6, rfl, rfl, Or.inr ⟨_, zin_at (w := (.fieldLinkNest RX7 92 (TX6 5).1 (TX6 5).2.1 (TX6 5).2.2.1 "NetMerge")) 244 (by decide +kernel) (by decide +kernel)⟩⟩
theorem zf_RX7_100 : zFl RX7 100 7 3 (.boolean) false := ⟨RX7, TX7, 11, tyX7, rfl, by decide, zu_7, tyX7_ok, nmX7, rfl, rfl, Or.inl (zin_at (w := (.fieldLink RX7 100 (TX7 3).1 (TX7 3).2.1 (TX7 3).2.2.1)) 331 (by decide +kernel) (by decide +kernel))⟩
theorem zf_RX7_104 : zFl RX7 104 3 0 (.int) false := ⟨RX3, TX3, 20, tyX3, rfl, by decide, zu_3, tyX3_ok, nmX3, rfl, rfl, Or.inr ⟨_, zin_at (w := (.fieldLinkNest RX7 104 (TX3 0).1 (TX3 0).2.1 (TX3 0).2.2.1 "NetMerge")) 108 (by decide +kernel) (by decide +kernel)⟩⟩
theorem zf_RX7_107 : zFl RX7 107 3 1 (.int) false := ⟨RX3, TX3, 20, tyX3, rfl, by decide, zu_3, tyX3_ok, nmX3, rfl, rfl, Or.inr ⟨_, zin_at (w := (.fieldLinkNest RX7 107 (TX3 1).1 (TX3 1).2.1 (TX3 1).2.2.1 "NetMerge")) 111 (by decide +kernel) (by decide +kernel)⟩⟩
theorem zf_RX7_113 : zFl RX7 113 3 2 (.int) false := ⟨RX3, TX3, 20, tyX3, rfl, by decide, zu_3, tyX3_ok, nmX3, rfl, rfl, Or.inr ⟨_, zin_at (w := (.fieldLinkNest RX7 113 (TX3 2).1 (TX3 2).2.1 (TX3 2).2.2.1 "NetMerge")) 114 (by decide +kernel) (by decide +kernel)⟩⟩
theorem zf_RX7_116 : zFl RX7 116 3 3 (.int) false := ⟨RX3, TX3, 20, tyX3, rfl, by decide, zu_3, tyX3_ok, nmX3, rfl, rfl, Or.inr ⟨_, zin_at (w := (.fieldLinkNest RX7 116 (TX3 3).1 (TX3 3).2.1 (TX3 3).2.2.1 "NetMerge")) 117 (by decide +kernel) (by decide +kernel)⟩⟩
theorem zf_RX7_119 : zFl RX7 119 3 4 (.int) false := ⟨RX3, TX3, 20, tyX3, rfl, by decide, zu_3, tyX3_ok, nmX3, rfl, rfl, Or.inr ⟨_, zin_at (w := (.fieldLinkNest RX7 119 (TX3 4).1 (TX3 4).2.1 (TX3 4).2.2.1 "NetMerge")) 120 (by decide +kernel) (by decide +kernel)⟩⟩
theorem zf_RX7_122 : zFl RX7 122 3 5 (.int) false := ⟨RX3, TX3, 20, tyX3, rfl, by decide, zu_3, tyX3_ok, nmX3, rfl, rfl, Or.inr ⟨_, zin_at (w := (.fieldLinkNest RX7 122 (TX3 5).1 (TX3 5).2.1 (TX3 5).2.2.1 "NetMerge")) 122 (by decide +kernel) (by decide +kernel)⟩⟩
theorem zf_RX7_125 : zFl RX7 125 3 6 (.int) false := ⟨RX3, TX3, 20, tyX3, rfl, by decide, zu_3, tyX3_ok, nmX3, rfl, rfl, Or.inr ⟨_, zin_at (w := (.fieldLinkNest RX7 125 (TX3 6).1 (TX3 6).2.1 (TX3 6).2.2.1 "NetMerge")) 125 (by decide +kernel) (by decide +kernel)⟩⟩
theorem zf_RX7_128 : zFl RX7 128 3 7 (.boolean) false := ⟨RX3, TX3, 20, tyX3, rfl, by decide, zu_3, tyX3_ok, nmX3, rfl, rfl, Or.inr ⟨_, zin_at (w := (.fieldLinkNest RX7 128 (TX3 7).1 (TX3 7).2.1 (TX3 7).2.2.1 "NetMerge")) 128 (by decide +kernel) (by decide +kernel)⟩⟩
theorem zf_RX7_144 : zFl RX7 144 3 9 (.array .int) true := ⟨RX3, TX3, 20, tyX3, rfl, by decide, zu_3, tyX3_ok, nmX3, rfl, rfl, Or.inr ⟨_, zin_at (w := (.fieldLinkNest RX7 144 (TX3 9).1 (TX3 9).2.1 (TX3 9).2.2.1 "NetMerge")) 132 (by decide +kernel) (by decide +kernel)⟩⟩
theorem zf_RX7_148 : zFl RX7 148 3 10 (.array .int) true := ⟨RX3, TX3, 20, tyX3, rfl, by decide, zu_3, tyX3_ok, nmX3, rfl, rfl, Or.inr ⟨_, zin_at (w := (.fieldLinkNest RX7 148 (TX3 10).1 (TX3 10).2.1 (TX3 10).2.2.1 "NetMerge")) 135 (by decide +kernel) (by decide +kernel)⟩⟩
theorem zf_RX7_155 : zFl RX7 155 3 11 (.array .int) true := ⟨RX3, TX3, 20, tyX3, rfl, by decide, zu_3, tyX3_ok, nmX3, rfl, rfl, Or.inr ⟨_, zin_at (w := (.fieldLinkNest RX7 155 (TX3 11).1 (TX3 11).2.1 (TX3 11).2.2.1 "NetMerge")) 137 (by decide +kernel) (by decide +kernel)⟩⟩
theorem zf_RX7_158 : zFl RX7 158 3 12 (.array .int) true := ⟨RX3, TX3, 20, tyX3, rfl, by decide, zu_3, tyX3_ok, nmX3, rfl, rfl, Or.inr ⟨_, zin_at (w := (.fieldLinkNest RX7 158 (TX3 12).1 (TX3 12).2.1 (TX3 12).2.2.1 "NetMerge")) 141 (by decide +kernel) (by decide +kernel)⟩⟩
theorem zf_RX7_161 : zFl RX7 161 3 13 (.array .int) true := ⟨RX3, TX3, 20, tyX3, rfl, by decide, zu_3, tyX3_ok, nmX3, rfl, rfl, Or.inr ⟨_, zin_at (w := (.fieldLinkNest RX7 161 (TX3 13).1 (TX3 13).2.1 (TX3 13).2.2.1 "NetMerge")) 143 (by decide +kernel) (by decide +kernel)⟩⟩
theorem zf_RX7_164 : zFl RX7 164 3 14 (.array .int) true := ⟨RX3, TX3, 20, tyX3, rfl, by decide, zu_3, tyX3_ok, nmX3, rfl, rfl, Or.inr ⟨_, zin_at (w := (.fieldLinkNest RX7 164 (TX3 14).1 (TX3 14).2.1 (TX3 14).2.2.1 "NetMerge")) 146 (by decide +kernel) (by decide +kernel)⟩⟩
theorem zf_RX7_311 : zFl RX7 311 0 2 (.int) false := ⟨RX0, TX0, 3, tyX0, rfl, by decide, zu_0, tyX0_ok, nmX0, rfl, rfl, Or.inr ⟨_, zin_at (w := (.fieldLinkNest RX7 311 (TX0 2).1 (TX0 2).2.1 (TX0 2).2.2.1 "NetMerge")) 207 (by decide +kernel) (by decide +kernel)⟩⟩
theorem zf_RX0_11 : zFl RX0 11 0 0 (.array (.object "NetMerge$Nets")) true := ⟨RX0, TX0, 3, tyX0, rfl, by decide, zu_0, tyX0_ok, nmX0, rfl, rfl, Or.inl (zin_at (w := (.fieldLink RX0 11 (TX0 0).1 (TX0 0).2.1 (TX0 0).2.2.1)) 204 (by decide +kernel) (by decide +kernel))⟩
theorem zf_RX0_18 : zFl RX0 18 0 2 (.int) false := ⟨RX0, TX0, 3, tyX0, rfl, by decide, zu_0, tyX0_ok, nmX0, rfl, rfl, Or.inl (zin_at (w := (.fieldLink RX0 18 (TX0 2).1 (TX0 2).2.1 (TX0 2).2.2.1)) 206 (by decide +kernel) (by decide +kernel))⟩
theorem zf_RX0_22 : zFl RX0 22 0 1 (.int) false := ⟨RX0, TX0, 3, tyX0, rfl, by decide, zu_0, tyX0_ok, nmX0, rfl, rfl, Or.inl (zin_at (w := (.fieldLink RX0 22 (TX0 1).1 (TX0 1).2.1 (TX0 1).2.2.1)) 205 (by decide +kernel) (by decide +kernel))⟩
theorem zf_RX2_9 : zFl RX2 9 2 0 (.object "NetMerge$Text") true := ⟨RX2, TX2, 4, tyX2, rfl, by decide, zu_2, tyX2_ok, nmX2, rfl, rfl, Or.inl (zin_at (w := (.fieldLink RX2 9 (TX2 0).1 (TX2 0).2.1 (TX2 0).2.2.1)) 270 (by decide +kernel) (by decide +kernel))⟩
theorem zf_RX2_15 : zFl RX2 15 2 1 (.object "NetMerge$Nets") true := ⟨RX2, TX2, 4, tyX2, rfl, by decide, zu_2, tyX2_ok, nmX2, rfl, rfl, Or.inl (zin_at (w := (.fieldLink RX2 15 (TX2 1).1 (TX2 1).2.1 (TX2 1).2.2.1)) 271 (by decide +kernel) (by decide +kernel))⟩
theorem zf_RX2_19 : zFl RX2 19 2 2 (.int) false := ⟨RX2, TX2, 4, tyX2, rfl, by decide, zu_2, tyX2_ok, nmX2, rfl, rfl, Or.inl (zin_at (w := (.fieldLink RX2 19 (TX2 2).1 (TX2 2).2.1 (TX2 2).2.2.1)) 272 (by decide +kernel) (by decide +kernel))⟩
theorem zf_RX2_32 : zFl RX2 32 6 4 (.int) false := ⟨RX6, TX6, 7, tyX6, rfl, by decide, zu_6, tyX6_ok, nmX6, rfl, rfl, Or.inr ⟨_, zin_at (w := (.fieldLinkNest RX2 32 (TX6 4).1 (TX6 4).2.1 (TX6 4).2.2.1 "NetMerge")) 242 (by decide +kernel) (by decide +kernel)⟩⟩
theorem zf_RX2_85 : zFl RX2 85 2 3 (.int) false := ⟨RX2, TX2, 4, tyX2, rfl, by decide, zu_2, tyX2_ok, nmX2, rfl, rfl, Or.inl (zin_at (w := (.fieldLink RX2 85 (TX2 3).1 (TX2 3).2.1 (TX2 3).2.2.1)) 273 (by decide +kernel) (by decide +kernel))⟩
theorem zf_RX2_88 : zFl RX2 88 3 3 (.int) false := ⟨RX3, TX3, 20, tyX3, rfl, by decide, zu_3, tyX3_ok, nmX3, rfl, rfl, Or.inr ⟨_, zin_at (w := (.fieldLinkNest RX2 88 (TX3 3).1 (TX3 3).2.1 (TX3 3).2.2.1 "NetMerge")) 116 (by decide +kernel) (by decide +kernel)⟩⟩
theorem zf_RX2_92 : zFl RX2 92 3 4 (.int) false := ⟨RX3, TX3, 20, tyX3, rfl, by decide, zu_3, tyX3_ok, nmX3, rfl, rfl, Or.inr ⟨_, zin_at (w := (.fieldLinkNest RX2 92 (TX3 4).1 (TX3 4).2.1 (TX3 4).2.2.1 "NetMerge")) 119 (by decide +kernel) (by decide +kernel)⟩⟩
theorem zf_RX2_96 : zFl RX2 96 3 5 (.int) false := ⟨RX3, TX3, 20, tyX3, rfl, by decide, zu_3, tyX3_ok, nmX3, rfl, rfl, Or.inr ⟨_, zin_at (w := (.fieldLinkNest RX2 96 (TX3 5).1 (TX3 5).2.1 (TX3 5).2.2.1 "NetMerge")) 123 (by decide +kernel) (by decide +kernel)⟩⟩
theorem zf_RX2_99 : zFl RX2 99 3 6 (.int) false := ⟨RX3, TX3, 20, tyX3, rfl, by decide, zu_3, tyX3_ok, nmX3, rfl, rfl, Or.inr ⟨_, zin_at (w := (.fieldLinkNest RX2 99 (TX3 6).1 (TX3 6).2.1 (TX3 6).2.2.1 "NetMerge")) 126 (by decide +kernel) (by decide +kernel)⟩⟩
theorem zf_RX2_102 : zFl RX2 102 3 0 (.int) false := ⟨RX3, TX3, 20, tyX3, rfl, by decide, zu_3, tyX3_ok, nmX3, rfl, rfl, Or.inr ⟨_, zin_at (w := (.fieldLinkNest RX2 102 (TX3 0).1 (TX3 0).2.1 (TX3 0).2.2.1 "NetMerge")) 109 (by decide +kernel) (by decide +kernel)⟩⟩
theorem zf_RX2_120 : zFl RX2 120 6 6 (.int) false := ⟨RX6, TX6, 7, tyX6, rfl, by decide, zu_6, tyX6_ok, nmX6, rfl, rfl, Or.inr ⟨_, zin_at (w := (.fieldLinkNest RX2 120 (TX6 6).1 (TX6 6).2.1 (TX6 6).2.2.1 "NetMerge")) 247 (by decide +kernel) (by decide +kernel)⟩⟩
theorem zf_RX2_133 : zFl RX2 133 3 11 (.array .int) true := ⟨RX3, TX3, 20, tyX3, rfl, by decide, zu_3, tyX3_ok, nmX3, rfl, rfl, Or.inr ⟨_, zin_at (w := (.fieldLinkNest RX2 133 (TX3 11).1 (TX3 11).2.1 (TX3 11).2.2.1 "NetMerge")) 138 (by decide +kernel) (by decide +kernel)⟩⟩
theorem zf_RX2_136 : zFl RX2 136 3 1 (.int) false := ⟨RX3, TX3, 20, tyX3, rfl, by decide, zu_3, tyX3_ok, nmX3, rfl, rfl, Or.inr ⟨_, zin_at (w := (.fieldLinkNest RX2 136 (TX3 1).1 (TX3 1).2.1 (TX3 1).2.2.1 "NetMerge")) 112 (by decide +kernel) (by decide +kernel)⟩⟩
theorem zf_RX2_152 : zFl RX2 152 3 13 (.array .int) true := ⟨RX3, TX3, 20, tyX3, rfl, by decide, zu_3, tyX3_ok, nmX3, rfl, rfl, Or.inr ⟨_, zin_at (w := (.fieldLinkNest RX2 152 (TX3 13).1 (TX3 13).2.1 (TX3 13).2.2.1 "NetMerge")) 144 (by decide +kernel) (by decide +kernel)⟩⟩
theorem zf_RX3_9 : zFl RX3 9 3 8 (.array .long) true := ⟨RX3, TX3, 20, tyX3, rfl, by decide, zu_3, tyX3_ok, nmX3, rfl, rfl, Or.inl (zin_at (w := (.fieldLink RX3 9 (TX3 8).1 (TX3 8).2.1 (TX3 8).2.2.1)) 129 (by decide +kernel) (by decide +kernel))⟩
theorem zf_RX3_15 : zFl RX3 15 3 9 (.array .int) true := ⟨RX3, TX3, 20, tyX3, rfl, by decide, zu_3, tyX3_ok, nmX3, rfl, rfl, Or.inl (zin_at (w := (.fieldLink RX3 15 (TX3 9).1 (TX3 9).2.1 (TX3 9).2.2.1)) 130 (by decide +kernel) (by decide +kernel))⟩
theorem zf_RX3_19 : zFl RX3 19 3 10 (.array .int) true := ⟨RX3, TX3, 20, tyX3, rfl, by decide, zu_3, tyX3_ok, nmX3, rfl, rfl, Or.inl (zin_at (w := (.fieldLink RX3 19 (TX3 10).1 (TX3 10).2.1 (TX3 10).2.2.1)) 133 (by decide +kernel) (by decide +kernel))⟩
theorem zf_RX3_22 : zFl RX3 22 3 11 (.array .int) true := ⟨RX3, TX3, 20, tyX3, rfl, by decide, zu_3, tyX3_ok, nmX3, rfl, rfl, Or.inl (zin_at (w := (.fieldLink RX3 22 (TX3 11).1 (TX3 11).2.1 (TX3 11).2.2.1)) 136 (by decide +kernel) (by decide +kernel))⟩
theorem zf_RX3_25 : zFl RX3 25 3 12 (.array .int) true := ⟨RX3, TX3, 20, tyX3, rfl, by decide, zu_3, tyX3_ok, nmX3, rfl, rfl, Or.inl (zin_at (w := (.fieldLink RX3 25 (TX3 12).1 (TX3 12).2.1 (TX3 12).2.2.1)) 139 (by decide +kernel) (by decide +kernel))⟩
theorem zf_RX3_28 : zFl RX3 28 3 13 (.array .int) true := ⟨RX3, TX3, 20, tyX3, rfl, by decide, zu_3, tyX3_ok, nmX3, rfl, rfl, Or.inl (zin_at (w := (.fieldLink RX3 28 (TX3 13).1 (TX3 13).2.1 (TX3 13).2.2.1)) 142 (by decide +kernel) (by decide +kernel))⟩
theorem zf_RX3_31 : zFl RX3 31 3 14 (.array .int) true := ⟨RX3, TX3, 20, tyX3, rfl, by decide, zu_3, tyX3_ok, nmX3, rfl, rfl, Or.inl (zin_at (w := (.fieldLink RX3 31 (TX3 14).1 (TX3 14).2.1 (TX3 14).2.2.1)) 145 (by decide +kernel) (by decide +kernel))⟩
theorem zf_RX3_34 : zFl RX3 34 3 15 (.array .int) true := ⟨RX3, TX3, 20, tyX3, rfl, by decide, zu_3, tyX3_ok, nmX3, rfl, rfl, Or.inl (zin_at (w := (.fieldLink RX3 34 (TX3 15).1 (TX3 15).2.1 (TX3 15).2.2.1)) 147 (by decide +kernel) (by decide +kernel))⟩
theorem zf_RX3_37 : zFl RX3 37 3 16 (.array .int) true := ⟨RX3, TX3, 20, tyX3, rfl, by decide, zu_3, tyX3_ok, nmX3, rfl, rfl, Or.inl (zin_at (w := (.fieldLink RX3 37 (TX3 16).1 (TX3 16).2.1 (TX3 16).2.2.1)) 148 (by decide +kernel) (by decide +kernel))⟩
theorem zf_RX3_40 : zFl RX3 40 3 17 (.array .int) true := ⟨RX3, TX3, 20, tyX3, rfl, by decide, zu_3, tyX3_ok, nmX3, rfl, rfl, Or.inl (zin_at (w := (.fieldLink RX3 40 (TX3 17).1 (TX3 17).2.1 (TX3 17).2.2.1)) 149 (by decide +kernel) (by decide +kernel))⟩
theorem zf_RX3_43 : zFl RX3 43 3 18 (.array .int) true := ⟨RX3, TX3, 20, tyX3, rfl, by decide, zu_3, tyX3_ok, nmX3, rfl, rfl, Or.inl (zin_at (w := (.fieldLink RX3 43 (TX3 18).1 (TX3 18).2.1 (TX3 18).2.2.1)) 150 (by decide +kernel) (by decide +kernel))⟩
theorem zf_RX3_46 : zFl RX3 46 3 19 (.array .int) true := ⟨RX3, TX3, 20, tyX3, rfl, by decide, zu_3, tyX3_ok, nmX3, rfl, rfl, Or.inl (zin_at (w := (.fieldLink RX3 46 (TX3 19).1 (TX3 19).2.1 (TX3 19).2.2.1)) 151 (by decide +kernel) (by decide +kernel))⟩
theorem zf_RX3_49 : zFl RX3 49 3 0 (.int) false := ⟨RX3, TX3, 20, tyX3, rfl, by decide, zu_3, tyX3_ok, nmX3, rfl, rfl, Or.inl (zin_at (w := (.fieldLink RX3 49 (TX3 0).1 (TX3 0).2.1 (TX3 0).2.2.1)) 106 (by decide +kernel) (by decide +kernel))⟩
theorem zf_RX3_53 : zFl RX3 53 3 1 (.int) false := ⟨RX3, TX3, 20, tyX3, rfl, by decide, zu_3, tyX3_ok, nmX3, rfl, rfl, Or.inl (zin_at (w := (.fieldLink RX3 53 (TX3 1).1 (TX3 1).2.1 (TX3 1).2.2.1)) 110 (by decide +kernel) (by decide +kernel))⟩
theorem zf_RX3_56 : zFl RX3 56 3 2 (.int) false := ⟨RX3, TX3, 20, tyX3, rfl, by decide, zu_3, tyX3_ok, nmX3, rfl, rfl, Or.inl (zin_at (w := (.fieldLink RX3 56 (TX3 2).1 (TX3 2).2.1 (TX3 2).2.2.1)) 113 (by decide +kernel) (by decide +kernel))⟩
theorem zf_RX3_59 : zFl RX3 59 3 3 (.int) false := ⟨RX3, TX3, 20, tyX3, rfl, by decide, zu_3, tyX3_ok, nmX3, rfl, rfl, Or.inl (zin_at (w := (.fieldLink RX3 59 (TX3 3).1 (TX3 3).2.1 (TX3 3).2.2.1)) 115 (by decide +kernel) (by decide +kernel))⟩
theorem zf_RX3_62 : zFl RX3 62 3 4 (.int) false := ⟨RX3, TX3, 20, tyX3, rfl, by decide, zu_3, tyX3_ok, nmX3, rfl, rfl, Or.inl (zin_at (w := (.fieldLink RX3 62 (TX3 4).1 (TX3 4).2.1 (TX3 4).2.2.1)) 118 (by decide +kernel) (by decide +kernel))⟩
theorem zf_RX3_65 : zFl RX3 65 3 5 (.int) false := ⟨RX3, TX3, 20, tyX3, rfl, by decide, zu_3, tyX3_ok, nmX3, rfl, rfl, Or.inl (zin_at (w := (.fieldLink RX3 65 (TX3 5).1 (TX3 5).2.1 (TX3 5).2.2.1)) 121 (by decide +kernel) (by decide +kernel))⟩
theorem zf_RX3_68 : zFl RX3 68 3 6 (.int) false := ⟨RX3, TX3, 20, tyX3, rfl, by decide, zu_3, tyX3_ok, nmX3, rfl, rfl, Or.inl (zin_at (w := (.fieldLink RX3 68 (TX3 6).1 (TX3 6).2.1 (TX3 6).2.2.1)) 124 (by decide +kernel) (by decide +kernel))⟩
theorem zf_RX3_71 : zFl RX3 71 3 7 (.boolean) false := ⟨RX3, TX3, 20, tyX3, rfl, by decide, zu_3, tyX3_ok, nmX3, rfl, rfl, Or.inl (zin_at (w := (.fieldLink RX3 71 (TX3 7).1 (TX3 7).2.1 (TX3 7).2.2.1)) 127 (by decide +kernel) (by decide +kernel))⟩
theorem zf_RX5_9 : zFl RX5 9 5 0 (.array .int) true := ⟨RX5, TX5, 3, tyX5, rfl, by decide, zu_5, tyX5_ok, nmX5, rfl, rfl, Or.inl (zin_at (w := (.fieldLink RX5 9 (TX5 0).1 (TX5 0).2.1 (TX5 0).2.2.1)) 221 (by decide +kernel) (by decide +kernel))⟩
theorem zf_RX5_15 : zFl RX5 15 5 1 (.array .int) true := ⟨RX5, TX5, 3, tyX5, rfl, by decide, zu_5, tyX5_ok, nmX5, rfl, rfl, Or.inl (zin_at (w := (.fieldLink RX5 15 (TX5 1).1 (TX5 1).2.1 (TX5 1).2.2.1)) 222 (by decide +kernel) (by decide +kernel))⟩
theorem zf_RX5_18 : zFl RX5 18 5 2 (.array .int) true := ⟨RX5, TX5, 3, tyX5, rfl, by decide, zu_5, tyX5_ok, nmX5, rfl, rfl, Or.inl (zin_at (w := (.fieldLink RX5 18 (TX5 2).1 (TX5 2).2.1 (TX5 2).2.2.1)) 223 (by decide +kernel) (by decide +kernel))⟩
theorem zf_RX5_27 : zFl RX5 27 3 0 (.int) false := ⟨RX3, TX3, 20, tyX3, rfl, by decide, zu_3, tyX3_ok, nmX3, rfl, rfl, Or.inr ⟨_, zin_at (w := (.fieldLinkNest RX5 27 (TX3 0).1 (TX3 0).2.1 (TX3 0).2.2.1 "NetMerge")) 107 (by decide +kernel) (by decide +kernel)⟩⟩
theorem zf_RX5_33 : zFl RX5 33 3 9 (.array .int) true := ⟨RX3, TX3, 20, tyX3, rfl, by decide, zu_3, tyX3_ok, nmX3, rfl, rfl, Or.inr ⟨_, zin_at (w := (.fieldLinkNest RX5 33 (TX3 9).1 (TX3 9).2.1 (TX3 9).2.2.1 "NetMerge")) 131 (by decide +kernel) (by decide +kernel)⟩⟩
theorem zf_RX5_40 : zFl RX5 40 3 10 (.array .int) true := ⟨RX3, TX3, 20, tyX3, rfl, by decide, zu_3, tyX3_ok, nmX3, rfl, rfl, Or.inr ⟨_, zin_at (w := (.fieldLinkNest RX5 40 (TX3 10).1 (TX3 10).2.1 (TX3 10).2.2.1 "NetMerge")) 134 (by decide +kernel) (by decide +kernel)⟩⟩
theorem zf_RX5_46 : zFl RX5 46 3 12 (.array .int) true := ⟨RX3, TX3, 20, tyX3, rfl, by decide, zu_3, tyX3_ok, nmX3, rfl, rfl, Or.inr ⟨_, zin_at (w := (.fieldLinkNest RX5 46 (TX3 12).1 (TX3 12).2.1 (TX3 12).2.2.1 "NetMerge")) 140 (by decide +kernel) (by decide +kernel)⟩⟩
theorem zf_RX6_9 : zFl RX6 9 6 0 (.array .byte) true := ⟨RX6, TX6, 7, tyX6, rfl, by decide, zu_6, tyX6_ok, nmX6, rfl, rfl, Or.inl (zin_at (w := (.fieldLink RX6 9 (TX6 0).1 (TX6 0).2.1 (TX6 0).2.2.1)) 237 (by decide +kernel) (by decide +kernel))⟩
theorem zf_RX6_15 : zFl RX6 15 6 1 (.int) false := ⟨RX6, TX6, 7, tyX6, rfl, by decide, zu_6, tyX6_ok, nmX6, rfl, rfl, Or.inl (zin_at (w := (.fieldLink RX6 15 (TX6 1).1 (TX6 1).2.1 (TX6 1).2.2.1)) 239 (by decide +kernel) (by decide +kernel))⟩
theorem zf_RX6_25 : zFl RX6 25 6 2 (.int) false := ⟨RX6, TX6, 7, tyX6, rfl, by decide, zu_6, tyX6_ok, nmX6, rfl, rfl, Or.inl (zin_at (w := (.fieldLink RX6 25 (TX6 2).1 (TX6 2).2.1 (TX6 2).2.2.1)) 240 (by decide +kernel) (by decide +kernel))⟩
theorem zf_RX6_28 : zFl RX6 28 6 3 (.int) false := ⟨RX6, TX6, 7, tyX6, rfl, by decide, zu_6, tyX6_ok, nmX6, rfl, rfl, Or.inl (zin_at (w := (.fieldLink RX6 28 (TX6 3).1 (TX6 3).2.1 (TX6 3).2.2.1)) 241 (by decide +kernel) (by decide +kernel))⟩
theorem zf_RX6_34 : zFl RX6 34 6 5 (.int) false := ⟨RX6, TX6, 7, tyX6, rfl, by decide, zu_6, tyX6_ok, nmX6, rfl, rfl, Or.inl (zin_at (w := (.fieldLink RX6 34 (TX6 5).1 (TX6 5).2.1 (TX6 5).2.2.1)) 245 (by decide +kernel) (by decide +kernel))⟩
theorem zf_RX6_37 : zFl RX6 37 6 6 (.int) false := ⟨RX6, TX6, 7, tyX6, rfl, by decide, zu_6, tyX6_ok, nmX6, rfl, rfl, Or.inl (zin_at (w := (.fieldLink RX6 37 (TX6 6).1 (TX6 6).2.1 (TX6 6).2.2.1)) 246 (by decide +kernel) (by decide +kernel))⟩
theorem zf_RX6_40 : zFl RX6 40 6 4 (.int) false := ⟨RX6, TX6, 7, tyX6, rfl, by decide, zu_6, tyX6_ok, nmX6, rfl, rfl, Or.inl (zin_at (w := (.fieldLink RX6 40 (TX6 4).1 (TX6 4).2.1 (TX6 4).2.2.1)) 243 (by decide +kernel) (by decide +kernel))⟩
theorem zf_RL_7 : zFl RL 7 8 0 (.array .int) true := ⟨RL, TL, 2, tyL, rfl, by decide, zu_8, tyL_ok, nmL, rfl, rfl, Or.inl (zin_at (w := (.fieldLink RL 7 (TL 0).1 (TL 0).2.1 (TL 0).2.2.1)) 368 (by decide +kernel) (by decide +kernel))⟩
theorem zf_RL_19 : zFl RL 19 8 1 (.int) false := ⟨RL, TL, 2, tyL, rfl, by decide, zu_8, tyL_ok, nmL, rfl, rfl, Or.inl (zin_at (w := (.fieldLink RL 19 (TL 1).1 (TL 1).2.1 (TL 1).2.2.1)) 369 (by decide +kernel) (by decide +kernel))⟩
theorem zl_RX7_78 : zIn (.methodLinkNest RX7 78 yX6_append "NetMerge") := zin_at 462 (by decide +kernel) (by decide +kernel)
theorem zl_RX7_85 : zIn (.methodLinkNest RX7 85 yX6_begin "NetMerge") := zin_at 533 (by decide +kernel) (by decide +kernel)
theorem zl_RX7_88 : zIn (.methodLinkNest RX7 88 yX2_readText "NetMerge") := zin_at 550 (by decide +kernel) (by decide +kernel)
theorem zl_RX7_95 : zIn (.methodLinkNest RX7 95 yX3_copyFrom "NetMerge") := zin_at 674 (by decide +kernel) (by decide +kernel)
theorem zl_RX7_99 : zIn (.methodLinkNest RX7 99 yX0_clear "NetMerge") := zin_at 681 (by decide +kernel) (by decide +kernel)
theorem zl_RX7_110 : zIn (.methodLinkNest RX7 110 yX3_planCount "NetMerge") := zin_at 693 (by decide +kernel) (by decide +kernel)
theorem zl_RX7_131 : zIn (.methodLink RX7 131 yX7_clashCount) := zin_at 697 (by decide +kernel) (by decide +kernel)
theorem zl_RX7_135 : zIn (.methodLinkNest RX7 135 yX3_keeperCount "NetMerge") := zin_at 720 (by decide +kernel) (by decide +kernel)
theorem zl_RX7_141 : zIn (.methodLink RX7 141 yX7_needHost) := zin_at 749 (by decide +kernel) (by decide +kernel)
theorem zl_RX7_151 : zIn (.methodLinkNest RX7 151 yX3_keptBy "NetMerge") := zin_at 753 (by decide +kernel) (by decide +kernel)
theorem zl_RX7_175 : zIn (.methodLink RX7 175 yX7_needOffice) := zin_at 767 (by decide +kernel) (by decide +kernel)
theorem zl_RX7_178 : zIn (.methodLink RX7 178 yX7_needNumber) := zin_at 770 (by decide +kernel) (by decide +kernel)
theorem zl_RX7_181 : zIn (.methodLinkNest RX7 181 yX3_holderInOffice "NetMerge") := zin_at 773 (by decide +kernel) (by decide +kernel)
theorem zl_RX7_185 : zIn (.methodLinkNest RX7 185 yX5_count "NetMerge") := zin_at 701 (by decide +kernel) (by decide +kernel)
theorem zl_RX7_188 : zIn (.methodLinkNest RX7 188 yX5_clashAt "NetMerge") := zin_at 778 (by decide +kernel) (by decide +kernel)
theorem zl_RX7_191 : zIn (.methodLink RX7 191 yX7_needWave) := zin_at 789 (by decide +kernel) (by decide +kernel)
theorem zl_RX7_194 : zIn (.methodLinkNest RX7 194 yX3_plansIn "NetMerge") := zin_at 792 (by decide +kernel) (by decide +kernel)
theorem zl_RX7_197 : zIn (.methodLink RX7 197 yX7_needRule) := zin_at 948 (by decide +kernel) (by decide +kernel)
theorem zl_RX7_223 : zIn (.methodLinkNest RX7 223 yX5_smallestFree "NetMerge") := zin_at 892 (by decide +kernel) (by decide +kernel)
theorem zl_RX7_226 : zIn (.methodLink RX7 226 yX7_tryWave) := zin_at 797 (by decide +kernel) (by decide +kernel)
theorem zl_RX7_234 : zIn (.methodLinkNest RX7 234 yX3_doWave "NetMerge") := zin_at 805 (by decide +kernel) (by decide +kernel)
theorem zl_RX7_237 : zIn (.methodLink RX7 237 yX7_heldTwice) := zin_at 822 (by decide +kernel) (by decide +kernel)
theorem zl_RX7_246 : zIn (.methodLinkNest RX7 246 yX3_holderInNet "NetMerge") := zin_at 860 (by decide +kernel) (by decide +kernel)
theorem zl_RX7_249 : zIn (.methodLinkNest RX7 249 yX0_add "NetMerge") := zin_at 839 (by decide +kernel) (by decide +kernel)
theorem zl_RX7_252 : zIn (.methodLinkNest RX7 252 yX3_appendHost "NetMerge") := zin_at 864 (by decide +kernel) (by decide +kernel)
theorem zl_RX7_256 : zIn (.methodLinkNest RX7 256 yX3_dropHost "NetMerge") := zin_at 869 (by decide +kernel) (by decide +kernel)
theorem zl_RX7_259 : zIn (.methodLinkNest RX7 259 yX3_setPlan "NetMerge") := zin_at 878 (by decide +kernel) (by decide +kernel)
theorem zl_RX7_263 : zIn (.methodLinkNest RX7 263 yX5_isClash "NetMerge") := zin_at 883 (by decide +kernel) (by decide +kernel)
theorem zl_RX7_266 : zIn (.methodLinkNest RX7 266 yX3_chosenToMove "NetMerge") := zin_at 884 (by decide +kernel) (by decide +kernel)
theorem zl_RX7_269 : zIn (.methodLinkNest RX7 269 yX3_firstWaveWithRoom "NetMerge") := zin_at 899 (by decide +kernel) (by decide +kernel)
theorem zl_RX7_272 : zIn (.methodLinkNest RX7 272 yX5_countPlan "NetMerge") := zin_at 904 (by decide +kernel) (by decide +kernel)
theorem zl_RX7_275 : zIn (.methodLink RX7 275 yX7_adoptTrial) := zin_at 835 (by decide +kernel) (by decide +kernel)
theorem zl_RX7_278 : zIn (.methodLinkNest RX7 278 yX3_undoWave "NetMerge") := zin_at 912 (by decide +kernel) (by decide +kernel)
theorem zl_RX7_281 : zIn (.methodLinkNest RX7 281 yX3_hostsOfOffice "NetMerge") := zin_at 932 (by decide +kernel) (by decide +kernel)
theorem zl_RX7_284 : zIn (.methodLink RX7 284 yX7_needSide) := zin_at 940 (by decide +kernel) (by decide +kernel)
theorem zl_RX7_287 : zIn (.methodLinkNest RX7 287 yX3_appendRule "NetMerge") := zin_at 943 (by decide +kernel) (by decide +kernel)
theorem zl_RX7_291 : zIn (.methodLinkNest RX7 291 yX3_dropRule "NetMerge") := zin_at 952 (by decide +kernel) (by decide +kernel)
theorem zl_RX7_313 : zIn (.methodLinkNest RX7 313 yX0_takeNewest "NetMerge") := zin_at 849 (by decide +kernel) (by decide +kernel)
theorem zl_RX7_336 : zIn (.methodLinkNest RX7 336 yX5_clashes "NetMerge") := zin_at 712 (by decide +kernel) (by decide +kernel)
theorem zl_RX7_339 : zIn (.methodLinkNest RX7 339 yX5_smallestTwice "NetMerge") := zin_at 826 (by decide +kernel) (by decide +kernel)
theorem zl_RX7_343 : zIn (.methodLinkNest RX7 343 yX3_keeperWouldMove "NetMerge") := zin_at 801 (by decide +kernel) (by decide +kernel)
theorem zl_RX0_25 : zIn (.methodLinkNest RX0 25 yX3_copyFrom "NetMerge") := zin_at 843 (by decide +kernel) (by decide +kernel)
theorem zl_RX2_23 : zIn (.methodLinkNest RX2 23 yX3_clear "NetMerge") := zin_at 554 (by decide +kernel) (by decide +kernel)
theorem zl_RX2_28 : zIn (.methodLink RX2 28 yX2_readHead) := zin_at 555 (by decide +kernel) (by decide +kernel)
theorem zl_RX2_39 : zIn (.methodLinkNest RX2 39 yX6_isWord "NetMerge") := zin_at 564 (by decide +kernel) (by decide +kernel)
theorem zl_RX2_43 : zIn (.methodLink RX2 43 yX2_readHost) := zin_at 607 (by decide +kernel) (by decide +kernel)
theorem zl_RX2_48 : zIn (.methodLink RX2 48 yX2_readRule) := zin_at 646 (by decide +kernel) (by decide +kernel)
theorem zl_RX2_53 : zIn (.methodLink RX2 53 yX2_readMove) := zin_at 662 (by decide +kernel) (by decide +kernel)
theorem zl_RX2_56 : zIn (.methodLink RX2 56 yX2_fail) := zin_at 570 (by decide +kernel) (by decide +kernel)
theorem zl_RX2_60 : zIn (.methodLink RX2 60 yX2_takeSemicolon) := zin_at 598 (by decide +kernel) (by decide +kernel)
theorem zl_RX2_64 : zIn (.methodLink RX2 64 yX2_takeWord) := zin_at 560 (by decide +kernel) (by decide +kernel)
theorem zl_RX2_67 : zIn (.methodLink RX2 67 yX2_readKeep) := zin_at 575 (by decide +kernel) (by decide +kernel)
theorem zl_RX2_70 : zIn (.methodLink RX2 70 yX2_readPer) := zin_at 588 (by decide +kernel) (by decide +kernel)
theorem zl_RX2_73 : zIn (.methodLink RX2 73 yX2_readPool) := zin_at 593 (by decide +kernel) (by decide +kernel)
theorem zl_RX2_78 : zIn (.methodLinkNest RX2 78 yX6_advance "NetMerge") := zin_at 574 (by decide +kernel) (by decide +kernel)
theorem zl_RX2_81 : zIn (.methodLink RX2 81 yX2_takeNumber) := zin_at 580 (by decide +kernel) (by decide +kernel)
theorem zl_RX2_105 : zIn (.methodLinkNest RX2 105 yX6_letters "NetMerge") := zin_at 611 (by decide +kernel) (by decide +kernel)
theorem zl_RX2_109 : zIn (.methodLinkNest RX2 109 yX6_asName "NetMerge") := zin_at 615 (by decide +kernel) (by decide +kernel)
theorem zl_RX2_113 : zIn (.methodLinkNest RX2 113 yX3_hostNamed "NetMerge") := zin_at 620 (by decide +kernel) (by decide +kernel)
theorem zl_RX2_117 : zIn (.methodLink RX2 117 yX2_isNumber) := zin_at 584 (by decide +kernel) (by decide +kernel)
theorem zl_RX2_123 : zIn (.methodLinkNest RX2 123 yX3_holderInOffice "NetMerge") := zin_at 624 (by decide +kernel) (by decide +kernel)
theorem zl_RX2_127 : zIn (.methodLinkNest RX2 127 yX3_appendHost "NetMerge") := zin_at 640 (by decide +kernel) (by decide +kernel)
theorem zl_RX2_143 : zIn (.methodLink RX2 143 yX2_takeSide) := zin_at 652 (by decide +kernel) (by decide +kernel)
theorem zl_RX2_146 : zIn (.methodLinkNest RX2 146 yX3_appendRule "NetMerge") := zin_at 657 (by decide +kernel) (by decide +kernel)
theorem zl_RX2_155 : zIn (.methodLinkNest RX2 155 yX3_plansIn "NetMerge") := zin_at 666 (by decide +kernel) (by decide +kernel)
theorem zl_RX2_159 : zIn (.methodLinkNest RX2 159 yX3_setPlan "NetMerge") := zin_at 670 (by decide +kernel) (by decide +kernel)
theorem zl_RX2_163 : zIn (.methodLinkNest RX2 163 yX6_isSign "NetMerge") := zin_at 602 (by decide +kernel) (by decide +kernel)
theorem zl_RX3_81 : zIn (.methodLink RX3 81 yX3_keptBy) := zin_at 628 (by decide +kernel) (by decide +kernel)
theorem zl_RX3_85 : zIn (.methodLink RX3 85 yX3_plansIn) := zin_at 903 (by decide +kernel) (by decide +kernel)
theorem zl_RX3_88 : zIn (.methodLink RX3 88 yX3_keepsAt) := zin_at 632 (by decide +kernel) (by decide +kernel)
theorem zl_RX3_92 : zIn (.methodLink RX3 92 yX3_numberAhead) := zin_at 636 (by decide +kernel) (by decide +kernel)
theorem zl_RX3_96 : zIn (.methodLink RX3 96 yX3_inNet) := zin_at 817 (by decide +kernel) (by decide +kernel)
theorem zl_RX3_99 : zIn (.methodLink RX3 99 yX3_movableWith) := zin_at 888 (by decide +kernel) (by decide +kernel)
theorem zl_RX3_120 : zIn (.methodLink RX3 120 yX3_sideBehindWave) := zin_at 809 (by decide +kernel) (by decide +kernel)
theorem zl_RX3_123 : zIn (.methodLink RX3 123 yX3_setPlan) := zin_at 821 (by decide +kernel) (by decide +kernel)
theorem zl_RX3_127 : zIn (.methodLink RX3 127 yX3_numberedInNet) := zin_at 813 (by decide +kernel) (by decide +kernel)
theorem zl_RX3_130 : zIn (.methodLink RX3 130 yX3_sideAheadOfWave) := zin_at 916 (by decide +kernel) (by decide +kernel)
theorem zl_RX3_133 : zIn (.methodLink RX3 133 yX3_undoMove) := zin_at 920 (by decide +kernel) (by decide +kernel)
theorem zl_RX5_21 : zIn (.methodLink RX5 21 yJ7_fill_53178) := zin_at 705 (by decide +kernel) (by decide +kernel)
theorem zl_RX5_36 : zIn (.methodLinkNest RX5 36 yX3_keptBy "NetMerge") := zin_at 708 (by decide +kernel) (by decide +kernel)
theorem zl_RX5_43 : zIn (.methodLink RX5 43 yX5_addOne) := zin_at 709 (by decide +kernel) (by decide +kernel)
theorem zl_RX5_49 : zIn (.methodLink RX5 49 yX5_isClash) := zin_at 716 (by decide +kernel) (by decide +kernel)
theorem zl_RX6_31 : zIn (.methodLink RX6 31 yX6_advance) := zin_at 540 (by decide +kernel) (by decide +kernel)
theorem zl_RX6_43 : zIn (.methodLink RX6 43 yX6_isLetter) := zin_at 544 (by decide +kernel) (by decide +kernel)
theorem zl_RX6_47 : zIn (.methodLink RX6 47 yX6_isDigit) := zin_at 547 (by decide +kernel) (by decide +kernel)
theorem zl_RX6_50 : zIn (.methodLink RX6 50 yJ0_length_8abf5) := zin_at 568 (by decide +kernel) (by decide +kernel)
theorem zl_RX6_55 : zIn (.methodLink RX6 55 yJ0_charAt_5068e) := zin_at 569 (by decide +kernel) (by decide +kernel)
theorem zl_RX6_59 : zIn (.methodLink RX6 59 yX6_letters) := zin_at 619 (by decide +kernel) (by decide +kernel)
theorem zl_RL_13 : zIn (.methodLink RL 13 yJ0_length_8abf5) := zin_at 388 (by decide +kernel) (by decide +kernel)
theorem zl_RL_23 : zIn (.methodLink RL 23 yJ0_charAt_5068e) := zin_at 398 (by decide +kernel) (by decide +kernel)
theorem zl_RL_29 : zIn (.methodLink RL 29 yL_writes) := zin_at 384 (by decide +kernel) (by decide +kernel)
theorem zl_RL_34 : zIn (.methodLink RL 34 yX7_feed) := zin_at 458 (by decide +kernel) (by decide +kernel)
theorem zl_RL_40 : zIn (.methodLink RL 40 yL_cell) := zin_at 379 (by decide +kernel) (by decide +kernel)
theorem zl_RL_46 : zIn (.methodLink RL 46 yL_spaced) := zin_at 436 (by decide +kernel) (by decide +kernel)
theorem zl_RL_58 : zIn (.methodLink RL 58 yL_letter) := zin_at 445 (by decide +kernel) (by decide +kernel)
theorem zl_RL_71 : zIn (.methodLink RL 71 yL_feeds) := zin_at 454 (by decide +kernel) (by decide +kernel)
theorem zl_RL_75 : zIn (.methodLink RL 75 yX7_load) := zin_at 466 (by decide +kernel) (by decide +kernel)
theorem zl_RL_79 : zIn (.methodLink RL 79 yX7_errorPosition) := zin_at 685 (by decide +kernel) (by decide +kernel)
theorem zl_RL_82 : zIn (.methodLink RL 82 yX7_size) := zin_at 689 (by decide +kernel) (by decide +kernel)
theorem zl_RL_84 : zIn (.methodLink RL 84 yX7_addHost) := zin_at 856 (by decide +kernel) (by decide +kernel)
theorem zl_RL_88 : zIn (.methodLink RL 88 yX7_removeHost) := zin_at 865 (by decide +kernel) (by decide +kernel)
theorem zl_RL_96 : zIn (.methodLink RL 96 yX7_plan) := zin_at 874 (by decide +kernel) (by decide +kernel)
theorem zl_RL_100 : zIn (.methodLink RL 100 yX7_settle) := zin_at 879 (by decide +kernel) (by decide +kernel)
theorem zl_RL_103 : zIn (.methodLink RL 103 yX7_wave) := zin_at 831 (by decide +kernel) (by decide +kernel)
theorem zl_RL_106 : zIn (.methodLink RL 106 yX7_back) := zin_at 908 (by decide +kernel) (by decide +kernel)
theorem zl_RL_109 : zIn (.methodLink RL 109 yX7_open) := zin_at 924 (by decide +kernel) (by decide +kernel)
theorem zl_RL_112 : zIn (.methodLink RL 112 yX7_close) := zin_at 928 (by decide +kernel) (by decide +kernel)
theorem zl_RL_115 : zIn (.methodLink RL 115 yX7_addRule) := zin_at 936 (by decide +kernel) (by decide +kernel)
theorem zl_RL_119 : zIn (.methodLink RL 119 yX7_removeRule) := zin_at 944 (by decide +kernel) (by decide +kernel)
theorem zl_RL_122 : zIn (.methodLink RL 122 yX7_setKeep) := zin_at 956 (by decide +kernel) (by decide +kernel)
theorem zl_RL_125 : zIn (.methodLink RL 125 yX7_setPinned) := zin_at 960 (by decide +kernel) (by decide +kernel)
theorem zl_RL_129 : zIn (.methodLink RL 129 yX7_unplan) := zin_at 964 (by decide +kernel) (by decide +kernel)
theorem zl_RL_132 : zIn (.methodLink RL 132 yX7_host) := zin_at 745 (by decide +kernel) (by decide +kernel)
theorem zl_RL_144 : zIn (.methodLink RL 144 yL_isRight) := zin_at 742 (by decide +kernel) (by decide +kernel)
theorem zl_RL_148 : zIn (.methodLink RL 148 yL_isClashes) := zin_at 760 (by decide +kernel) (by decide +kernel)
theorem zl_RL_151 : zIn (.methodLink RL 151 yL_isWave) := zin_at 782 (by decide +kernel) (by decide +kernel)
theorem zl_RL_154 : zIn (.methodLink RL 154 yL_acts) := zin_at 853 (by decide +kernel) (by decide +kernel)
theorem zl_RL_158 : zIn (.methodLink RL 158 yL_areOfNet) := zin_at 754 (by decide +kernel) (by decide +kernel)
theorem zl_RL_162 : zIn (.methodLink RL 162 yL_holds) := zin_at 757 (by decide +kernel) (by decide +kernel)
theorem zl_RL_164 : zIn (.methodLink RL 164 yX7_holder) := zin_at 763 (by decide +kernel) (by decide +kernel)
theorem zl_RL_167 : zIn (.methodLink RL 167 yX7_clash) := zin_at 774 (by decide +kernel) (by decide +kernel)
theorem zl_RL_170 : zIn (.methodLink RL 170 yX7_plans) := zin_at 785 (by decide +kernel) (by decide +kernel)
theorem zl_RL_173 : zIn (.methodLink RL 173 yX7_whyNot) := zin_at 793 (by decide +kernel) (by decide +kernel)
theorem zl_RL_176 : zIn (.methodLink RL 176 yX7_undo) := zin_at 845 (by decide +kernel) (by decide +kernel)
theorem zc_J7_fill_53178 : zCl yJ7_fill_53178 cJ7_fill_53178 4 none 2 := ⟨zin_at 90 (by decide +kernel) (by decide +kernel), zin_at 707 (by decide +kernel) (by decide +kernel), by decide, by decide +kernel⟩
theorem zc_L_acts : zCl yL_acts cL_acts 4 (some .int) 2 := ⟨zin_at 71 (by decide +kernel) (by decide +kernel), zin_at 855 (by decide +kernel) (by decide +kernel), by decide, by decide +kernel⟩
theorem zc_L_areOfNet : zCl yL_areOfNet cL_areOfNet 3 (some .boolean) 3 := ⟨zin_at 71 (by decide +kernel) (by decide +kernel), zin_at 756 (by decide +kernel) (by decide +kernel), by decide, by decide +kernel⟩
theorem zc_L_cell : zCl yL_cell cL_cell 2 (some .int) 2 := ⟨zin_at 71 (by decide +kernel) (by decide +kernel), zin_at 381 (by decide +kernel) (by decide +kernel), by decide, by decide +kernel⟩
theorem zc_L_feeds : zCl yL_feeds cL_feeds 5 (some .int) 1 := ⟨zin_at 71 (by decide +kernel) (by decide +kernel), zin_at 457 (by decide +kernel) (by decide +kernel), by decide, by decide +kernel⟩
theorem zc_L_holds : zCl yL_holds cL_holds 3 (some .boolean) 3 := ⟨zin_at 71 (by decide +kernel) (by decide +kernel), zin_at 759 (by decide +kernel) (by decide +kernel), by decide, by decide +kernel⟩
theorem zc_L_isClashes : zCl yL_isClashes cL_isClashes 6 (some .boolean) 1 := ⟨zin_at 71 (by decide +kernel) (by decide +kernel), zin_at 762 (by decide +kernel) (by decide +kernel), by decide, by decide +kernel⟩
theorem zc_L_isRight : zCl yL_isRight cL_isRight 7 (some .boolean) 1 := ⟨zin_at 71 (by decide +kernel) (by decide +kernel), zin_at 744 (by decide +kernel) (by decide +kernel), by decide, by decide +kernel⟩
theorem zc_L_isWave : zCl yL_isWave cL_isWave 13 (some .boolean) 1 := ⟨zin_at 71 (by decide +kernel) (by decide +kernel), zin_at 784 (by decide +kernel) (by decide +kernel), by decide, by decide +kernel⟩
theorem zc_L_letter : zCl yL_letter cL_letter 2 none 1 := ⟨zin_at 71 (by decide +kernel) (by decide +kernel), zin_at 448 (by decide +kernel) (by decide +kernel), by decide, by decide +kernel⟩
theorem zc_L_spaced : zCl yL_spaced cL_spaced 3 none 1 := ⟨zin_at 71 (by decide +kernel) (by decide +kernel), zin_at 439 (by decide +kernel) (by decide +kernel), by decide, by decide +kernel⟩
theorem zc_L_writes : zCl yL_writes cL_writes 3 none 1 := ⟨zin_at 71 (by decide +kernel) (by decide +kernel), zin_at 387 (by decide +kernel) (by decide +kernel), by decide, by decide +kernel⟩
theorem zc_X0_add : zCl yX0_add cX0_add 3 none 1 := ⟨zin_at 74 (by decide +kernel) (by decide +kernel), zin_at 842 (by decide +kernel) (by decide +kernel), by decide, by decide +kernel⟩
theorem zc_X0_clear : zCl yX0_clear cX0_clear 1 none 0 := ⟨zin_at 74 (by decide +kernel) (by decide +kernel), zin_at 684 (by decide +kernel) (by decide +kernel), by decide, by decide +kernel⟩
theorem zc_X0_takeNewest : zCl yX0_takeNewest cX0_takeNewest 3 none 1 := ⟨zin_at 74 (by decide +kernel) (by decide +kernel), zin_at 852 (by decide +kernel) (by decide +kernel), by decide, by decide +kernel⟩
theorem zc_X2_fail : zCl yX2_fail cX2_fail 2 (some .boolean) 1 := ⟨zin_at 77 (by decide +kernel) (by decide +kernel), zin_at 573 (by decide +kernel) (by decide +kernel), by decide, by decide +kernel⟩
theorem zc_X2_isNumber : zCl yX2_isNumber cX2_isNumber 4 (some .boolean) 2 := ⟨zin_at 77 (by decide +kernel) (by decide +kernel), zin_at 587 (by decide +kernel) (by decide +kernel), by decide, by decide +kernel⟩
theorem zc_X2_readHead : zCl yX2_readHead cX2_readHead 1 (some .boolean) 0 := ⟨zin_at 77 (by decide +kernel) (by decide +kernel), zin_at 558 (by decide +kernel) (by decide +kernel), by decide, by decide +kernel⟩
theorem zc_X2_readHost : zCl yX2_readHost cX2_readHost 5 (some .boolean) 0 := ⟨zin_at 77 (by decide +kernel) (by decide +kernel), zin_at 610 (by decide +kernel) (by decide +kernel), by decide, by decide +kernel⟩
theorem zc_X2_readKeep : zCl yX2_readKeep cX2_readKeep 1 (some .boolean) 0 := ⟨zin_at 77 (by decide +kernel) (by decide +kernel), zin_at 578 (by decide +kernel) (by decide +kernel), by decide, by decide +kernel⟩
theorem zc_X2_readMove : zCl yX2_readMove cX2_readMove 3 (some .boolean) 0 := ⟨zin_at 77 (by decide +kernel) (by decide +kernel), zin_at 665 (by decide +kernel) (by decide +kernel), by decide, by decide +kernel⟩
theorem zc_X2_readPer : zCl yX2_readPer cX2_readPer 1 (some .boolean) 0 := ⟨zin_at 77 (by decide +kernel) (by decide +kernel), zin_at 591 (by decide +kernel) (by decide +kernel), by decide, by decide +kernel⟩
theorem zc_X2_readPool : zCl yX2_readPool cX2_readPool 1 (some .boolean) 0 := ⟨zin_at 77 (by decide +kernel) (by decide +kernel), zin_at 596 (by decide +kernel) (by decide +kernel), by decide, by decide +kernel⟩
theorem zc_X2_readRule : zCl yX2_readRule cX2_readRule 4 (some .boolean) 0 := ⟨zin_at 77 (by decide +kernel) (by decide +kernel), zin_at 649 (by decide +kernel) (by decide +kernel), by decide, by decide +kernel⟩
theorem zc_X2_readText : zCl yX2_readText cX2_readText 3 (some .int) 0 := ⟨zin_at 77 (by decide +kernel) (by decide +kernel), zin_at 553 (by decide +kernel) (by decide +kernel), by decide, by decide +kernel⟩
theorem zc_X2_takeNumber : zCl yX2_takeNumber cX2_takeNumber 3 (some .boolean) 2 := ⟨zin_at 77 (by decide +kernel) (by decide +kernel), zin_at 583 (by decide +kernel) (by decide +kernel), by decide, by decide +kernel⟩
theorem zc_X2_takeSemicolon : zCl yX2_takeSemicolon cX2_takeSemicolon 1 (some .boolean) 0 := ⟨zin_at 77 (by decide +kernel) (by decide +kernel), zin_at 601 (by decide +kernel) (by decide +kernel), by decide, by decide +kernel⟩
theorem zc_X2_takeSide : zCl yX2_takeSide cX2_takeSide 1 (some .boolean) 0 := ⟨zin_at 77 (by decide +kernel) (by decide +kernel), zin_at 655 (by decide +kernel) (by decide +kernel), by decide, by decide +kernel⟩
theorem zc_X2_takeWord : zCl yX2_takeWord cX2_takeWord 2 (some .boolean) 1 := ⟨zin_at 77 (by decide +kernel) (by decide +kernel), zin_at 563 (by decide +kernel) (by decide +kernel), by decide, by decide +kernel⟩
theorem zc_X3_appendHost : zCl yX3_appendHost cX3_appendHost 7 (some .int) 3 := ⟨zin_at 73 (by decide +kernel) (by decide +kernel), zin_at 643 (by decide +kernel) (by decide +kernel), by decide, by decide +kernel⟩
theorem zc_X3_appendRule : zCl yX3_appendRule cX3_appendRule 6 (some .int) 4 := ⟨zin_at 73 (by decide +kernel) (by decide +kernel), zin_at 660 (by decide +kernel) (by decide +kernel), by decide, by decide +kernel⟩
theorem zc_X3_chosenToMove : zCl yX3_chosenToMove cX3_chosenToMove 3 (some .int) 1 := ⟨zin_at 73 (by decide +kernel) (by decide +kernel), zin_at 887 (by decide +kernel) (by decide +kernel), by decide, by decide +kernel⟩
theorem zc_X3_clear : zCl yX3_clear cX3_clear 1 none 0 := ⟨zin_at 73 (by decide +kernel) (by decide +kernel), zin_at 327 (by decide +kernel) (by decide +kernel), by decide, by decide +kernel⟩
theorem zc_X3_copyFrom : zCl yX3_copyFrom cX3_copyFrom 2 none 1 := ⟨zin_at 73 (by decide +kernel) (by decide +kernel), zin_at 677 (by decide +kernel) (by decide +kernel), by decide, by decide +kernel⟩
theorem zc_X3_doWave : zCl yX3_doWave cX3_doWave 3 (some .int) 0 := ⟨zin_at 73 (by decide +kernel) (by decide +kernel), zin_at 808 (by decide +kernel) (by decide +kernel), by decide, by decide +kernel⟩
theorem zc_X3_dropHost : zCl yX3_dropHost cX3_dropHost 3 none 1 := ⟨zin_at 73 (by decide +kernel) (by decide +kernel), zin_at 872 (by decide +kernel) (by decide +kernel), by decide, by decide +kernel⟩
theorem zc_X3_dropRule : zCl yX3_dropRule cX3_dropRule 3 none 1 := ⟨zin_at 73 (by decide +kernel) (by decide +kernel), zin_at 955 (by decide +kernel) (by decide +kernel), by decide, by decide +kernel⟩
theorem zc_X3_firstWaveWithRoom : zCl yX3_firstWaveWithRoom cX3_firstWaveWithRoom 2 (some .int) 0 := ⟨zin_at 73 (by decide +kernel) (by decide +kernel), zin_at 902 (by decide +kernel) (by decide +kernel), by decide, by decide +kernel⟩
theorem zc_X3_holderInNet : zCl yX3_holderInNet cX3_holderInNet 4 (some .int) 2 := ⟨zin_at 73 (by decide +kernel) (by decide +kernel), zin_at 863 (by decide +kernel) (by decide +kernel), by decide, by decide +kernel⟩
theorem zc_X3_holderInOffice : zCl yX3_holderInOffice cX3_holderInOffice 4 (some .int) 2 := ⟨zin_at 73 (by decide +kernel) (by decide +kernel), zin_at 627 (by decide +kernel) (by decide +kernel), by decide, by decide +kernel⟩
theorem zc_X3_hostNamed : zCl yX3_hostNamed cX3_hostNamed 4 (some .int) 1 := ⟨zin_at 73 (by decide +kernel) (by decide +kernel), zin_at 623 (by decide +kernel) (by decide +kernel), by decide, by decide +kernel⟩
theorem zc_X3_hostsOfOffice : zCl yX3_hostsOfOffice cX3_hostsOfOffice 4 (some .int) 1 := ⟨zin_at 73 (by decide +kernel) (by decide +kernel), zin_at 935 (by decide +kernel) (by decide +kernel), by decide, by decide +kernel⟩
theorem zc_X3_inNet : zCl yX3_inNet cX3_inNet 3 (some .boolean) 2 := ⟨zin_at 73 (by decide +kernel) (by decide +kernel), zin_at 820 (by decide +kernel) (by decide +kernel), by decide, by decide +kernel⟩
theorem zc_X3_keeperCount : zCl yX3_keeperCount cX3_keeperCount 3 (some .int) 0 := ⟨zin_at 73 (by decide +kernel) (by decide +kernel), zin_at 723 (by decide +kernel) (by decide +kernel), by decide, by decide +kernel⟩
theorem zc_X3_keeperWouldMove : zCl yX3_keeperWouldMove cX3_keeperWouldMove 2 (some .boolean) 0 := ⟨zin_at 73 (by decide +kernel) (by decide +kernel), zin_at 804 (by decide +kernel) (by decide +kernel), by decide, by decide +kernel⟩
theorem zc_X3_keepsAt : zCl yX3_keepsAt cX3_keepsAt 4 (some .boolean) 2 := ⟨zin_at 73 (by decide +kernel) (by decide +kernel), zin_at 635 (by decide +kernel) (by decide +kernel), by decide, by decide +kernel⟩
theorem zc_X3_keptBy : zCl yX3_keptBy cX3_keptBy 2 (some .int) 1 := ⟨zin_at 73 (by decide +kernel) (by decide +kernel), zin_at 631 (by decide +kernel) (by decide +kernel), by decide, by decide +kernel⟩
theorem zc_X3_movableWith : zCl yX3_movableWith cX3_movableWith 4 (some .int) 2 := ⟨zin_at 73 (by decide +kernel) (by decide +kernel), zin_at 891 (by decide +kernel) (by decide +kernel), by decide, by decide +kernel⟩
theorem zc_X3_numberAhead : zCl yX3_numberAhead cX3_numberAhead 3 (some .int) 2 := ⟨zin_at 73 (by decide +kernel) (by decide +kernel), zin_at 639 (by decide +kernel) (by decide +kernel), by decide, by decide +kernel⟩
theorem zc_X3_numberedInNet : zCl yX3_numberedInNet cX3_numberedInNet 4 (some .int) 2 := ⟨zin_at 73 (by decide +kernel) (by decide +kernel), zin_at 816 (by decide +kernel) (by decide +kernel), by decide, by decide +kernel⟩
theorem zc_X3_planCount : zCl yX3_planCount cX3_planCount 3 (some .int) 0 := ⟨zin_at 73 (by decide +kernel) (by decide +kernel), zin_at 696 (by decide +kernel) (by decide +kernel), by decide, by decide +kernel⟩
theorem zc_X3_plansIn : zCl yX3_plansIn cX3_plansIn 4 (some .int) 1 := ⟨zin_at 73 (by decide +kernel) (by decide +kernel), zin_at 669 (by decide +kernel) (by decide +kernel), by decide, by decide +kernel⟩
theorem zc_X3_setPlan : zCl yX3_setPlan cX3_setPlan 4 none 3 := ⟨zin_at 73 (by decide +kernel) (by decide +kernel), zin_at 673 (by decide +kernel) (by decide +kernel), by decide, by decide +kernel⟩
theorem zc_X3_sideAheadOfWave : zCl yX3_sideAheadOfWave cX3_sideAheadOfWave 4 (some .int) 2 := ⟨zin_at 73 (by decide +kernel) (by decide +kernel), zin_at 919 (by decide +kernel) (by decide +kernel), by decide, by decide +kernel⟩
theorem zc_X3_sideBehindWave : zCl yX3_sideBehindWave cX3_sideBehindWave 4 (some .int) 2 := ⟨zin_at 73 (by decide +kernel) (by decide +kernel), zin_at 812 (by decide +kernel) (by decide +kernel), by decide, by decide +kernel⟩
theorem zc_X3_undoMove : zCl yX3_undoMove cX3_undoMove 3 none 1 := ⟨zin_at 73 (by decide +kernel) (by decide +kernel), zin_at 923 (by decide +kernel) (by decide +kernel), by decide, by decide +kernel⟩
theorem zc_X3_undoWave : zCl yX3_undoWave cX3_undoWave 2 none 0 := ⟨zin_at 73 (by decide +kernel) (by decide +kernel), zin_at 915 (by decide +kernel) (by decide +kernel), by decide, by decide +kernel⟩
theorem zc_X5_addOne : zCl yX5_addOne cX5_addOne 2 none 2 := ⟨zin_at 75 (by decide +kernel) (by decide +kernel), zin_at 711 (by decide +kernel) (by decide +kernel), by decide, by decide +kernel⟩
theorem zc_X5_clashAt : zCl yX5_clashAt cX5_clashAt 4 (some .int) 1 := ⟨zin_at 75 (by decide +kernel) (by decide +kernel), zin_at 781 (by decide +kernel) (by decide +kernel), by decide, by decide +kernel⟩
theorem zc_X5_clashes : zCl yX5_clashes cX5_clashes 3 (some .int) 0 := ⟨zin_at 75 (by decide +kernel) (by decide +kernel), zin_at 715 (by decide +kernel) (by decide +kernel), by decide, by decide +kernel⟩
theorem zc_X5_count : zCl yX5_count cX5_count 5 none 1 := ⟨zin_at 75 (by decide +kernel) (by decide +kernel), zin_at 704 (by decide +kernel) (by decide +kernel), by decide, by decide +kernel⟩
theorem zc_X5_countPlan : zCl yX5_countPlan cX5_countPlan 2 none 1 := ⟨zin_at 75 (by decide +kernel) (by decide +kernel), zin_at 907 (by decide +kernel) (by decide +kernel), by decide, by decide +kernel⟩
theorem zc_X5_isClash : zCl yX5_isClash cX5_isClash 2 (some .boolean) 1 := ⟨zin_at 75 (by decide +kernel) (by decide +kernel), zin_at 719 (by decide +kernel) (by decide +kernel), by decide, by decide +kernel⟩
theorem zc_X5_smallestFree : zCl yX5_smallestFree cX5_smallestFree 4 (some .int) 2 := ⟨zin_at 75 (by decide +kernel) (by decide +kernel), zin_at 895 (by decide +kernel) (by decide +kernel), by decide, by decide +kernel⟩
theorem zc_X5_smallestTwice : zCl yX5_smallestTwice cX5_smallestTwice 3 (some .int) 1 := ⟨zin_at 75 (by decide +kernel) (by decide +kernel), zin_at 829 (by decide +kernel) (by decide +kernel), by decide, by decide +kernel⟩
theorem zc_X6_advance : zCl yX6_advance cX6_advance 1 none 0 := ⟨zin_at 76 (by decide +kernel) (by decide +kernel), zin_at 543 (by decide +kernel) (by decide +kernel), by decide, by decide +kernel⟩
theorem zc_X6_append : zCl yX6_append cX6_append 3 none 1 := ⟨zin_at 76 (by decide +kernel) (by decide +kernel), zin_at 465 (by decide +kernel) (by decide +kernel), by decide, by decide +kernel⟩
theorem zc_X6_asName : zCl yX6_asName cX6_asName 4 (some .long) 0 := ⟨zin_at 76 (by decide +kernel) (by decide +kernel), zin_at 618 (by decide +kernel) (by decide +kernel), by decide, by decide +kernel⟩
theorem zc_X6_begin : zCl yX6_begin cX6_begin 2 none 1 := ⟨zin_at 76 (by decide +kernel) (by decide +kernel), zin_at 536 (by decide +kernel) (by decide +kernel), by decide, by decide +kernel⟩
theorem zc_X6_isDigit : zCl yX6_isDigit cX6_isDigit 1 (some .boolean) 1 := ⟨zin_at 76 (by decide +kernel) (by decide +kernel), zin_at 549 (by decide +kernel) (by decide +kernel), by decide, by decide +kernel⟩
theorem zc_X6_isLetter : zCl yX6_isLetter cX6_isLetter 1 (some .boolean) 1 := ⟨zin_at 76 (by decide +kernel) (by decide +kernel), zin_at 546 (by decide +kernel) (by decide +kernel), by decide, by decide +kernel⟩
theorem zc_X6_isSign : zCl yX6_isSign cX6_isSign 2 (some .boolean) 1 := ⟨zin_at 76 (by decide +kernel) (by decide +kernel), zin_at 605 (by decide +kernel) (by decide +kernel), by decide, by decide +kernel⟩
theorem zc_X6_isWord : zCl yX6_isWord cX6_isWord 3 (some .boolean) 1 := ⟨zin_at 76 (by decide +kernel) (by decide +kernel), zin_at 567 (by decide +kernel) (by decide +kernel), by decide, by decide +kernel⟩
theorem zc_X6_letters : zCl yX6_letters cX6_letters 1 (some .int) 0 := ⟨zin_at 76 (by decide +kernel) (by decide +kernel), zin_at 614 (by decide +kernel) (by decide +kernel), by decide, by decide +kernel⟩
theorem zc_X7_addHost : zCl yX7_addHost cX7_addHost 3 (some .int) 2 := ⟨zin_at 72 (by decide +kernel) (by decide +kernel), zin_at 859 (by decide +kernel) (by decide +kernel), by decide, by decide +kernel⟩
theorem zc_X7_addRule : zCl yX7_addRule cX7_addRule 5 (some .int) 4 := ⟨zin_at 72 (by decide +kernel) (by decide +kernel), zin_at 939 (by decide +kernel) (by decide +kernel), by decide, by decide +kernel⟩
theorem zc_X7_adoptTrial : zCl yX7_adoptTrial cX7_adoptTrial 1 none 0 := ⟨zin_at 72 (by decide +kernel) (by decide +kernel), zin_at 838 (by decide +kernel) (by decide +kernel), by decide, by decide +kernel⟩
theorem zc_X7_back : zCl yX7_back cX7_back 1 (some .int) 0 := ⟨zin_at 72 (by decide +kernel) (by decide +kernel), zin_at 911 (by decide +kernel) (by decide +kernel), by decide, by decide +kernel⟩
theorem zc_X7_clash : zCl yX7_clash cX7_clash 3 (some .int) 1 := ⟨zin_at 72 (by decide +kernel) (by decide +kernel), zin_at 777 (by decide +kernel) (by decide +kernel), by decide, by decide +kernel⟩
theorem zc_X7_clashCount : zCl yX7_clashCount cX7_clashCount 2 (some .int) 1 := ⟨zin_at 72 (by decide +kernel) (by decide +kernel), zin_at 700 (by decide +kernel) (by decide +kernel), by decide, by decide +kernel⟩
theorem zc_X7_close : zCl yX7_close cX7_close 1 (some .int) 0 := ⟨zin_at 72 (by decide +kernel) (by decide +kernel), zin_at 931 (by decide +kernel) (by decide +kernel), by decide, by decide +kernel⟩
theorem zc_X7_errorPosition : zCl yX7_errorPosition cX7_errorPosition 1 (some .int) 0 := ⟨zin_at 72 (by decide +kernel) (by decide +kernel), zin_at 688 (by decide +kernel) (by decide +kernel), by decide, by decide +kernel⟩
theorem zc_X7_feed : zCl yX7_feed cX7_feed 6 (some .int) 5 := ⟨zin_at 72 (by decide +kernel) (by decide +kernel), zin_at 461 (by decide +kernel) (by decide +kernel), by decide, by decide +kernel⟩
theorem zc_X7_heldTwice : zCl yX7_heldTwice cX7_heldTwice 2 (some .int) 1 := ⟨zin_at 72 (by decide +kernel) (by decide +kernel), zin_at 825 (by decide +kernel) (by decide +kernel), by decide, by decide +kernel⟩
theorem zc_X7_holder : zCl yX7_holder cX7_holder 3 (some .int) 2 := ⟨zin_at 72 (by decide +kernel) (by decide +kernel), zin_at 766 (by decide +kernel) (by decide +kernel), by decide, by decide +kernel⟩
theorem zc_X7_host : zCl yX7_host cX7_host 3 (some .int) 2 := ⟨zin_at 72 (by decide +kernel) (by decide +kernel), zin_at 748 (by decide +kernel) (by decide +kernel), by decide, by decide +kernel⟩
theorem zc_X7_load : zCl yX7_load cX7_load 3 (some .int) 1 := ⟨zin_at 72 (by decide +kernel) (by decide +kernel), zin_at 469 (by decide +kernel) (by decide +kernel), by decide, by decide +kernel⟩
theorem zc_X7_needHost : zCl yX7_needHost cX7_needHost 2 none 1 := ⟨zin_at 72 (by decide +kernel) (by decide +kernel), zin_at 752 (by decide +kernel) (by decide +kernel), by decide, by decide +kernel⟩
theorem zc_X7_needNumber : zCl yX7_needNumber cX7_needNumber 1 none 1 := ⟨zin_at 72 (by decide +kernel) (by decide +kernel), zin_at 772 (by decide +kernel) (by decide +kernel), by decide, by decide +kernel⟩
theorem zc_X7_needOffice : zCl yX7_needOffice cX7_needOffice 1 none 1 := ⟨zin_at 72 (by decide +kernel) (by decide +kernel), zin_at 769 (by decide +kernel) (by decide +kernel), by decide, by decide +kernel⟩
theorem zc_X7_needRule : zCl yX7_needRule cX7_needRule 2 none 1 := ⟨zin_at 72 (by decide +kernel) (by decide +kernel), zin_at 951 (by decide +kernel) (by decide +kernel), by decide, by decide +kernel⟩
theorem zc_X7_needSide : zCl yX7_needSide cX7_needSide 1 none 1 := ⟨zin_at 72 (by decide +kernel) (by decide +kernel), zin_at 942 (by decide +kernel) (by decide +kernel), by decide, by decide +kernel⟩
theorem zc_X7_needWave : zCl yX7_needWave cX7_needWave 1 none 1 := ⟨zin_at 72 (by decide +kernel) (by decide +kernel), zin_at 791 (by decide +kernel) (by decide +kernel), by decide, by decide +kernel⟩
theorem zc_X7_open : zCl yX7_open cX7_open 1 (some .int) 0 := ⟨zin_at 72 (by decide +kernel) (by decide +kernel), zin_at 927 (by decide +kernel) (by decide +kernel), by decide, by decide +kernel⟩
theorem zc_X7_plan : zCl yX7_plan cX7_plan 5 (some .int) 3 := ⟨zin_at 72 (by decide +kernel) (by decide +kernel), zin_at 877 (by decide +kernel) (by decide +kernel), by decide, by decide +kernel⟩
theorem zc_X7_plans : zCl yX7_plans cX7_plans 2 (some .int) 1 := ⟨zin_at 72 (by decide +kernel) (by decide +kernel), zin_at 788 (by decide +kernel) (by decide +kernel), by decide, by decide +kernel⟩
theorem zc_X7_removeHost : zCl yX7_removeHost cX7_removeHost 2 (some .int) 1 := ⟨zin_at 72 (by decide +kernel) (by decide +kernel), zin_at 868 (by decide +kernel) (by decide +kernel), by decide, by decide +kernel⟩
theorem zc_X7_removeRule : zCl yX7_removeRule cX7_removeRule 2 (some .int) 1 := ⟨zin_at 72 (by decide +kernel) (by decide +kernel), zin_at 947 (by decide +kernel) (by decide +kernel), by decide, by decide +kernel⟩
theorem zc_X7_setKeep : zCl yX7_setKeep cX7_setKeep 3 (some .int) 1 := ⟨zin_at 72 (by decide +kernel) (by decide +kernel), zin_at 959 (by decide +kernel) (by decide +kernel), by decide, by decide +kernel⟩
theorem zc_X7_setPinned : zCl yX7_setPinned cX7_setPinned 4 (some .int) 2 := ⟨zin_at 72 (by decide +kernel) (by decide +kernel), zin_at 963 (by decide +kernel) (by decide +kernel), by decide, by decide +kernel⟩
theorem zc_X7_settle : zCl yX7_settle cX7_settle 6 (some .int) 0 := ⟨zin_at 72 (by decide +kernel) (by decide +kernel), zin_at 882 (by decide +kernel) (by decide +kernel), by decide, by decide +kernel⟩
theorem zc_X7_size : zCl yX7_size cX7_size 2 (some .int) 1 := ⟨zin_at 72 (by decide +kernel) (by decide +kernel), zin_at 692 (by decide +kernel) (by decide +kernel), by decide, by decide +kernel⟩
theorem zc_X7_tryWave : zCl yX7_tryWave cX7_tryWave 2 (some .int) 0 := ⟨zin_at 72 (by decide +kernel) (by decide +kernel), zin_at 800 (by decide +kernel) (by decide +kernel), by decide, by decide +kernel⟩
theorem zc_X7_undo : zCl yX7_undo cX7_undo 1 (some .int) 0 := ⟨zin_at 72 (by decide +kernel) (by decide +kernel), zin_at 848 (by decide +kernel) (by decide +kernel), by decide, by decide +kernel⟩
theorem zc_X7_unplan : zCl yX7_unplan cX7_unplan 3 (some .int) 1 := ⟨zin_at 72 (by decide +kernel) (by decide +kernel), zin_at 967 (by decide +kernel) (by decide +kernel), by decide, by decide +kernel⟩
theorem zc_X7_wave : zCl yX7_wave cX7_wave 2 (some .int) 0 := ⟨zin_at 72 (by decide +kernel) (by decide +kernel), zin_at 834 (by decide +kernel) (by decide +kernel), by decide, by decide +kernel⟩
theorem zc_X7_whyNot : zCl yX7_whyNot cX7_whyNot 1 (some .int) 0 := ⟨zin_at 72 (by decide +kernel) (by decide +kernel), zin_at 796 (by decide +kernel) (by decide +kernel), by decide, by decide +kernel⟩
theorem zt_2 : zT[2]? = some (.inl (0, 40)) := rfl
theorem zt_3 : zT[3]? = some (.inl (0, 40)) := rfl
theorem zt_4 : zT[4]? = some (.inl (0, 40)) := rfl
theorem zt_5 : zT[5]? = some (.inl (0, 40)) := rfl
theorem zt_6 : zT[6]? = some (.inl (0, 40)) := rfl
theorem zt_7 : zT[7]? = some (.inl (0, 40)) := rfl
theorem zt_17 : zT[17]? = some (.inl (0, 40)) := rfl
theorem zt_19 : zT[19]? = some (.inl (0, 40)) := rfl
theorem zt_169 : zT[169]? = some (.inr (7, [3, 16, 29, 2, 173, 175, 179, 181, 182, 186, 0])) := rfl
theorem zt_170 : zT[170]? = some (.inr (0, [174, 0, 0])) := rfl
theorem zt_171 : zT[171]? = some (.inl (3, 10)) := rfl
theorem zt_172 : zT[172]? = some (.inr (5, [176, 177, 178])) := rfl
theorem zt_173 : zT[173]? = some (.inl (0, 251)) := rfl
theorem zt_174 : zT[174]? = some (.inl (0, 251)) := rfl
theorem zt_175 : zT[175]? = some (.inl (0, 251)) := rfl
theorem zt_176 : zT[176]? = some (.inr (6, [180, 0, 0, 0, 0, 0, 0])) := rfl
theorem zt_177 : zT[177]? = some (.inl (1, 900)) := rfl
theorem zt_178 : zT[178]? = some (.inr (2, [179, 16, 0, 0])) := rfl
theorem zt_185 : zT[185]? = some (.inr (8, [189, 0])) := rfl
theorem zt_186 : zT[186]? = some (.inl (0, 1000)) := rfl
theorem zpn_RJ7 : plainName RJ7 = true := by decide
theorem zpn_RL : plainName RL = true := by decide
theorem zpn_RX0 : plainName RX0 = true := by decide
theorem zpn_RX1 : plainName RX1 = true := by decide
theorem zpn_RX2 : plainName RX2 = true := by decide
theorem zpn_RX3 : plainName RX3 = true := by decide
theorem zpn_RX4 : plainName RX4 = true := by decide
theorem zpn_RX5 : plainName RX5 = true := by decide
theorem zpn_RX6 : plainName RX6 = true := by decide
theorem zpn_RX7 : plainName RX7 = true := by decide
