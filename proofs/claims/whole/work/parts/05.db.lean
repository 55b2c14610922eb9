theorem dX8_thrown_0 : decode cX8_thrown 0 = .ok (.aload_n 0, 1) := by decide +kernel
theorem dX8_thrown_1 : decode cX8_thrown 1 = .ok (.getfield 1, 3) := by decide +kernel
theorem dX8_thrown_4 : decode cX8_thrown 4 = .ok (.ireturn, 1) := by decide +kernel
theorem dX8_in_0 : decode cX8_in 0 = .ok (.lload_n 0, 1) := by decide +kernel
theorem dX8_in_1 : decode cX8_in 1 = .ok (.lload_n 2, 1) := by decide +kernel
theorem dX8_in_2 : decode cX8_in 2 = .ok (.lcmp, 1) := by decide +kernel
theorem dX8_in_3 : decode cX8_in 3 = .ok (.ifCond .lt 14, 3) := by decide +kernel
theorem dX8_in_6 : decode cX8_in 6 = .ok (.lload_n 0, 1) := by decide +kernel
theorem dX8_in_7 : decode cX8_in 7 = .ok (.lload 4, 2) := by decide +kernel
theorem dX8_in_9 : decode cX8_in 9 = .ok (.lcmp, 1) := by decide +kernel
theorem dX8_in_10 : decode cX8_in 10 = .ok (.ifCond .gt 7, 3) := by decide +kernel
theorem dX8_in_13 : decode cX8_in 13 = .ok (.iconst 1, 1) := by decide +kernel
theorem dX8_in_14 : decode cX8_in 14 = .ok (.goto 4, 3) := by decide +kernel
theorem dX8_in_17 : decode cX8_in 17 = .ok (.iconst 0, 1) := by decide +kernel
theorem dX8_in_18 : decode cX8_in 18 = .ok (.ireturn, 1) := by decide +kernel
theorem dX8_lesser_0 : decode cX8_lesser 0 = .ok (.iload_n 0, 1) := by decide +kernel
theorem dX8_lesser_1 : decode cX8_lesser 1 = .ok (.iload_n 1, 1) := by decide +kernel
theorem dX8_lesser_2 : decode cX8_lesser 2 = .ok (.if_icmp .ge 7, 3) := by decide +kernel
theorem dX8_lesser_5 : decode cX8_lesser 5 = .ok (.iload_n 0, 1) := by decide +kernel
theorem dX8_lesser_6 : decode cX8_lesser 6 = .ok (.goto 4, 3) := by decide +kernel
theorem dX8_lesser_9 : decode cX8_lesser 9 = .ok (.iload_n 1, 1) := by decide +kernel
theorem dX8_lesser_10 : decode cX8_lesser 10 = .ok (.ireturn, 1) := by decide +kernel
theorem dX8_fails_0 : decode cX8_fails 0 = .ok (.iload_n 1, 1) := by decide +kernel
theorem dX8_fails_1 : decode cX8_fails 1 = .ok (.ifCond .ne 15, 3) := by decide +kernel
theorem dX8_fails_4 : decode cX8_fails 4 = .ok (.aload_n 0, 1) := by decide +kernel
theorem dX8_fails_5 : decode cX8_fails 5 = .ok (.getfield 1, 3) := by decide +kernel
theorem dX8_fails_8 : decode cX8_fails 8 = .ok (.ifCond .ne 8, 3) := by decide +kernel
theorem dX8_fails_11 : decode cX8_fails 11 = .ok (.aload_n 0, 1) := by decide +kernel
theorem dX8_fails_12 : decode cX8_fails 12 = .ok (.iload_n 2, 1) := by decide +kernel
theorem dX8_fails_13 : decode cX8_fails 13 = .ok (.putfield 1, 3) := by decide +kernel
theorem dX8_fails_16 : decode cX8_fails 16 = .ok (.aload_n 0, 1) := by decide +kernel
theorem dX8_fails_17 : decode cX8_fails 17 = .ok (.getfield 1, 3) := by decide +kernel
theorem dX8_fails_20 : decode cX8_fails 20 = .ok (.ifCond .eq 7, 3) := by decide +kernel
theorem dX8_fails_23 : decode cX8_fails 23 = .ok (.iconst 1, 1) := by decide +kernel
theorem dX8_fails_24 : decode cX8_fails 24 = .ok (.goto 4, 3) := by decide +kernel
theorem dX8_fails_27 : decode cX8_fails 27 = .ok (.iconst 0, 1) := by decide +kernel
theorem dX8_fails_28 : decode cX8_fails 28 = .ok (.ireturn, 1) := by decide +kernel
theorem dX8_init_0 : decode cX8_init 0 = .ok (.aload_n 0, 1) := by decide +kernel
theorem dX8_init_1 : decode cX8_init 1 = .ok (.invokespecial 7, 3) := by decide +kernel
theorem dX8_init_4 : decode cX8_init 4 = .ok (.aload_n 0, 1) := by decide +kernel
theorem dX8_init_5 : decode cX8_init 5 = .ok (.sipush 1096, 3) := by decide +kernel
theorem dX8_init_8 : decode cX8_init 8 = .ok (.newarray .int, 2) := by decide +kernel
theorem dX8_init_10 : decode cX8_init 10 = .ok (.putfield 13, 3) := by decide +kernel
theorem dX8_init_13 : decode cX8_init 13 = .ok (.aload_n 0, 1) := by decide +kernel
theorem dX8_init_14 : decode cX8_init 14 = .ok (.sipush 1096, 3) := by decide +kernel
theorem dX8_init_17 : decode cX8_init 17 = .ok (.newarray .int, 2) := by decide +kernel
theorem dX8_init_19 : decode cX8_init 19 = .ok (.putfield 17, 3) := by decide +kernel
theorem dX8_init_22 : decode cX8_init 22 = .ok (.aload_n 0, 1) := by decide +kernel
theorem dX8_init_23 : decode cX8_init 23 = .ok (.sipush 1096, 3) := by decide +kernel
theorem dX8_init_26 : decode cX8_init 26 = .ok (.newarray .int, 2) := by decide +kernel
theorem dX8_init_28 : decode cX8_init 28 = .ok (.putfield 20, 3) := by decide +kernel
theorem dX8_init_31 : decode cX8_init 31 = .ok (.aload_n 0, 1) := by decide +kernel
theorem dX8_init_32 : decode cX8_init 32 = .ok (.sipush 1096, 3) := by decide +kernel
theorem dX8_init_35 : decode cX8_init 35 = .ok (.newarray .int, 2) := by decide +kernel
theorem dX8_init_37 : decode cX8_init 37 = .ok (.putfield 23, 3) := by decide +kernel
theorem dX8_init_40 : decode cX8_init 40 = .ok (.aload_n 0, 1) := by decide +kernel
theorem dX8_init_41 : decode cX8_init 41 = .ok (.sipush 10960, 3) := by decide +kernel
theorem dX8_init_44 : decode cX8_init 44 = .ok (.newarray .int, 2) := by decide +kernel
theorem dX8_init_46 : decode cX8_init 46 = .ok (.putfield 26, 3) := by decide +kernel
theorem dX8_init_49 : decode cX8_init 49 = .ok (.aload_n 0, 1) := by decide +kernel
theorem dX8_init_50 : decode cX8_init 50 = .ok (.sipush 900, 3) := by decide +kernel
theorem dX8_init_53 : decode cX8_init 53 = .ok (.newarray .int, 2) := by decide +kernel
theorem dX8_init_55 : decode cX8_init 55 = .ok (.putfield 29, 3) := by decide +kernel
theorem dX8_init_58 : decode cX8_init 58 = .ok (.aload_n 0, 1) := by decide +kernel
theorem dX8_init_59 : decode cX8_init 59 = .ok (.iconst (-1), 1) := by decide +kernel
theorem dX8_init_60 : decode cX8_init 60 = .ok (.putfield 32, 3) := by decide +kernel
theorem dX8_init_63 : decode cX8_init 63 = .ok (.aload_n 0, 1) := by decide +kernel
theorem dX8_init_64 : decode cX8_init 64 = .ok (.sipush 502, 3) := by decide +kernel
theorem dX8_init_67 : decode cX8_init 67 = .ok (.newarray .int, 2) := by decide +kernel
theorem dX8_init_69 : decode cX8_init 69 = .ok (.putfield 35, 3) := by decide +kernel
theorem dX8_init_72 : decode cX8_init 72 = .ok (.aload_n 0, 1) := by decide +kernel
theorem dX8_init_73 : decode cX8_init 73 = .ok (.bipush 40, 2) := by decide +kernel
theorem dX8_init_75 : decode cX8_init 75 = .ok (.newarray .int, 2) := by decide +kernel
theorem dX8_init_77 : decode cX8_init 77 = .ok (.putfield 38, 3) := by decide +kernel
theorem dX8_init_80 : decode cX8_init 80 = .ok (.aload_n 0, 1) := by decide +kernel
theorem dX8_init_81 : decode cX8_init 81 = .ok (.sipush 200, 3) := by decide +kernel
theorem dX8_init_84 : decode cX8_init 84 = .ok (.newarray .int, 2) := by decide +kernel
theorem dX8_init_86 : decode cX8_init 86 = .ok (.putfield 41, 3) := by decide +kernel
theorem dX8_init_89 : decode cX8_init 89 = .ok (.aload_n 0, 1) := by decide +kernel
theorem dX8_init_90 : decode cX8_init 90 = .ok (.sipush 200, 3) := by decide +kernel
theorem dX8_init_93 : decode cX8_init 93 = .ok (.newarray .int, 2) := by decide +kernel
theorem dX8_init_95 : decode cX8_init 95 = .ok (.putfield 44, 3) := by decide +kernel
theorem dX8_init_98 : decode cX8_init 98 = .ok (.aload_n 0, 1) := by decide +kernel
theorem dX8_init_99 : decode cX8_init 99 = .ok (.sipush 200, 3) := by decide +kernel
theorem dX8_init_102 : decode cX8_init 102 = .ok (.newarray .int, 2) := by decide +kernel
theorem dX8_init_104 : decode cX8_init 104 = .ok (.putfield 47, 3) := by decide +kernel
theorem dX8_init_107 : decode cX8_init 107 = .ok (.aload_n 0, 1) := by decide +kernel
theorem dX8_init_108 : decode cX8_init 108 = .ok (.invokevirtual 50, 3) := by decide +kernel
theorem dX8_init_111 : decode cX8_init 111 = .ok (.aload_n 0, 1) := by decide +kernel
theorem dX8_init_112 : decode cX8_init 112 = .ok (.getfield 17, 3) := by decide +kernel
theorem dX8_init_115 : decode cX8_init 115 = .ok (.iconst 0, 1) := by decide +kernel
theorem dX8_init_116 : decode cX8_init 116 = .ok (.aload_n 0, 1) := by decide +kernel
theorem dX8_init_117 : decode cX8_init 117 = .ok (.getfield 13, 3) := by decide +kernel
theorem dX8_init_120 : decode cX8_init 120 = .ok (.iconst 0, 1) := by decide +kernel
theorem dX8_init_121 : decode cX8_init 121 = .ok (.invokestatic 53, 3) := by decide +kernel
theorem dX8_init_124 : decode cX8_init 124 = .ok (.return_, 1) := by decide +kernel
theorem dX8_begins_0 : decode cX8_begins 0 = .ok (.iconst 0, 1) := by decide +kernel
theorem dX8_begins_1 : decode cX8_begins 1 = .ok (.istore_n 1, 1) := by decide +kernel
theorem dX8_begins_2 : decode cX8_begins 2 = .ok (.iload_n 1, 1) := by decide +kernel
theorem dX8_begins_3 : decode cX8_begins 3 = .ok (.sipush 1096, 3) := by decide +kernel
theorem dX8_begins_6 : decode cX8_begins 6 = .ok (.if_icmp .ge 16, 3) := by decide +kernel
theorem dX8_begins_9 : decode cX8_begins 9 = .ok (.aload_n 0, 1) := by decide +kernel
theorem dX8_begins_10 : decode cX8_begins 10 = .ok (.getfield 17, 3) := by decide +kernel
theorem dX8_begins_13 : decode cX8_begins 13 = .ok (.iload_n 1, 1) := by decide +kernel
theorem dX8_begins_14 : decode cX8_begins 14 = .ok (.iconst 0, 1) := by decide +kernel
theorem dX8_begins_15 : decode cX8_begins 15 = .ok (.iastore, 1) := by decide +kernel
theorem dX8_begins_16 : decode cX8_begins 16 = .ok (.iinc 1 1, 3) := by decide +kernel
theorem dX8_begins_19 : decode cX8_begins 19 = .ok (.goto (-17), 3) := by decide +kernel
theorem dX8_begins_22 : decode cX8_begins 22 = .ok (.aload_n 0, 1) := by decide +kernel
theorem dX8_begins_23 : decode cX8_begins 23 = .ok (.getfield 17, 3) := by decide +kernel
theorem dX8_begins_26 : decode cX8_begins 26 = .ok (.iconst 3, 1) := by decide +kernel
theorem dX8_begins_27 : decode cX8_begins 27 = .ok (.iconst 1, 1) := by decide +kernel
theorem dX8_begins_28 : decode cX8_begins 28 = .ok (.iastore, 1) := by decide +kernel
theorem dX8_begins_29 : decode cX8_begins 29 = .ok (.aload_n 0, 1) := by decide +kernel
theorem dX8_begins_30 : decode cX8_begins 30 = .ok (.getfield 17, 3) := by decide +kernel
theorem dX8_begins_33 : decode cX8_begins 33 = .ok (.iconst 4, 1) := by decide +kernel
theorem dX8_begins_34 : decode cX8_begins 34 = .ok (.iconst 3, 1) := by decide +kernel
theorem dX8_begins_35 : decode cX8_begins 35 = .ok (.iastore, 1) := by decide +kernel
theorem dX8_begins_36 : decode cX8_begins 36 = .ok (.aload_n 0, 1) := by decide +kernel
theorem dX8_begins_37 : decode cX8_begins 37 = .ok (.getfield 17, 3) := by decide +kernel
theorem dX8_begins_40 : decode cX8_begins 40 = .ok (.iconst 5, 1) := by decide +kernel
theorem dX8_begins_41 : decode cX8_begins 41 = .ok (.sipush 200, 3) := by decide +kernel
theorem dX8_begins_44 : decode cX8_begins 44 = .ok (.iastore, 1) := by decide +kernel
theorem dX8_begins_45 : decode cX8_begins 45 = .ok (.aload_n 0, 1) := by decide +kernel
theorem dX8_begins_46 : decode cX8_begins 46 = .ok (.getfield 17, 3) := by decide +kernel
theorem dX8_begins_49 : decode cX8_begins 49 = .ok (.bipush 6, 2) := by decide +kernel
theorem dX8_begins_51 : decode cX8_begins 51 = .ok (.sipush 250, 3) := by decide +kernel
theorem dX8_begins_54 : decode cX8_begins 54 = .ok (.iastore, 1) := by decide +kernel
theorem dX8_begins_55 : decode cX8_begins 55 = .ok (.return_, 1) := by decide +kernel
theorem dX8_copies_0 : decode cX8_copies 0 = .ok (.iconst 0, 1) := by decide +kernel
theorem dX8_copies_1 : decode cX8_copies 1 = .ok (.istore 4, 2) := by decide +kernel
theorem dX8_copies_3 : decode cX8_copies 3 = .ok (.iload 4, 2) := by decide +kernel
theorem dX8_copies_5 : decode cX8_copies 5 = .ok (.sipush 1096, 3) := by decide +kernel
theorem dX8_copies_8 : decode cX8_copies 8 = .ok (.if_icmp .ge 21, 3) := by decide +kernel
theorem dX8_copies_11 : decode cX8_copies 11 = .ok (.aload_n 2, 1) := by decide +kernel
theorem dX8_copies_12 : decode cX8_copies 12 = .ok (.iload_n 3, 1) := by decide +kernel
theorem dX8_copies_13 : decode cX8_copies 13 = .ok (.iload 4, 2) := by decide +kernel
theorem dX8_copies_15 : decode cX8_copies 15 = .ok (.iadd, 1) := by decide +kernel
theorem dX8_copies_16 : decode cX8_copies 16 = .ok (.aload_n 0, 1) := by decide +kernel
theorem dX8_copies_17 : decode cX8_copies 17 = .ok (.iload_n 1, 1) := by decide +kernel
theorem dX8_copies_18 : decode cX8_copies 18 = .ok (.iload 4, 2) := by decide +kernel
theorem dX8_copies_20 : decode cX8_copies 20 = .ok (.iadd, 1) := by decide +kernel
theorem dX8_copies_21 : decode cX8_copies 21 = .ok (.iaload, 1) := by decide +kernel
theorem dX8_copies_22 : decode cX8_copies 22 = .ok (.iastore, 1) := by decide +kernel
theorem dX8_copies_23 : decode cX8_copies 23 = .ok (.iinc 4 1, 3) := by decide +kernel
theorem dX8_copies_26 : decode cX8_copies 26 = .ok (.goto (-23), 3) := by decide +kernel
theorem dX8_copies_29 : decode cX8_copies 29 = .ok (.return_, 1) := by decide +kernel
theorem dX8_cell_0 : decode cX8_cell 0 = .ok (.bipush 16, 2) := by decide +kernel
theorem dX8_cell_2 : decode cX8_cell 2 = .ok (.bipush 24, 2) := by decide +kernel
theorem dX8_cell_4 : decode cX8_cell 4 = .ok (.iload_n 0, 1) := by decide +kernel
theorem dX8_cell_5 : decode cX8_cell 5 = .ok (.imul, 1) := by decide +kernel
theorem dX8_cell_6 : decode cX8_cell 6 = .ok (.iadd, 1) := by decide +kernel
theorem dX8_cell_7 : decode cX8_cell 7 = .ok (.iload_n 1, 1) := by decide +kernel
theorem dX8_cell_8 : decode cX8_cell 8 = .ok (.iadd, 1) := by decide +kernel
theorem dX8_cell_9 : decode cX8_cell 9 = .ok (.ireturn, 1) := by decide +kernel
theorem dX8_ruleCell_0 : decode cX8_ruleCell 0 = .ok (.sipush 976, 3) := by decide +kernel
theorem dX8_ruleCell_3 : decode cX8_ruleCell 3 = .ok (.iconst 4, 1) := by decide +kernel
theorem dX8_ruleCell_4 : decode cX8_ruleCell 4 = .ok (.iload_n 0, 1) := by decide +kernel
theorem dX8_ruleCell_5 : decode cX8_ruleCell 5 = .ok (.imul, 1) := by decide +kernel
theorem dX8_ruleCell_6 : decode cX8_ruleCell 6 = .ok (.iadd, 1) := by decide +kernel
theorem dX8_ruleCell_7 : decode cX8_ruleCell 7 = .ok (.iload_n 1, 1) := by decide +kernel
theorem dX8_ruleCell_8 : decode cX8_ruleCell 8 = .ok (.iadd, 1) := by decide +kernel
theorem dX8_ruleCell_9 : decode cX8_ruleCell 9 = .ok (.ireturn, 1) := by decide +kernel
theorem dX8_lays_0 : decode cX8_lays 0 = .ok (.bipush 24, 2) := by decide +kernel
theorem dX8_lays_2 : decode cX8_lays 2 = .ok (.istore_n 2, 1) := by decide +kernel
theorem dX8_lays_3 : decode cX8_lays 3 = .ok (.iload_n 2, 1) := by decide +kernel
theorem dX8_lays_4 : decode cX8_lays 4 = .ok (.ifCond .lt 35, 3) := by decide +kernel
theorem dX8_lays_7 : decode cX8_lays 7 = .ok (.aload_n 0, 1) := by decide +kernel
theorem dX8_lays_8 : decode cX8_lays 8 = .ok (.getfield 29, 3) := by decide +kernel
theorem dX8_lays_11 : decode cX8_lays 11 = .ok (.aload_n 0, 1) := by decide +kernel
theorem dX8_lays_12 : decode cX8_lays 12 = .ok (.getfield 57, 3) := by decide +kernel
theorem dX8_lays_15 : decode cX8_lays 15 = .ok (.iload_n 1, 1) := by decide +kernel
theorem dX8_lays_16 : decode cX8_lays 16 = .ok (.iload_n 2, 1) := by decide +kernel
theorem dX8_lays_17 : decode cX8_lays 17 = .ok (.ishr, 1) := by decide +kernel
theorem dX8_lays_18 : decode cX8_lays 18 = .ok (.sipush 255, 3) := by decide +kernel
theorem dX8_lays_21 : decode cX8_lays 21 = .ok (.iand, 1) := by decide +kernel
theorem dX8_lays_22 : decode cX8_lays 22 = .ok (.iastore, 1) := by decide +kernel
theorem dX8_lays_23 : decode cX8_lays 23 = .ok (.aload_n 0, 1) := by decide +kernel
theorem dX8_lays_24 : decode cX8_lays 24 = .ok (.dup, 1) := by decide +kernel
theorem dX8_lays_25 : decode cX8_lays 25 = .ok (.getfield 57, 3) := by decide +kernel
theorem dX8_lays_28 : decode cX8_lays 28 = .ok (.iconst 1, 1) := by decide +kernel
theorem dX8_lays_29 : decode cX8_lays 29 = .ok (.iadd, 1) := by decide +kernel
theorem dX8_lays_30 : decode cX8_lays 30 = .ok (.putfield 57, 3) := by decide +kernel
theorem dX8_lays_33 : decode cX8_lays 33 = .ok (.iinc 2 (-8), 3) := by decide +kernel
theorem dX8_lays_36 : decode cX8_lays 36 = .ok (.goto (-33), 3) := by decide +kernel
theorem dX8_lays_39 : decode cX8_lays 39 = .ok (.return_, 1) := by decide +kernel
theorem dX8_feed_0 : decode cX8_feed 0 = .ok (.aload_n 0, 1) := by decide +kernel
theorem dX8_feed_1 : decode cX8_feed 1 = .ok (.iconst 0, 1) := by decide +kernel
theorem dX8_feed_2 : decode cX8_feed 2 = .ok (.putfield 1, 3) := by decide +kernel
theorem dX8_feed_5 : decode cX8_feed 5 = .ok (.aload_n 0, 1) := by decide +kernel
theorem dX8_feed_6 : decode cX8_feed 6 = .ok (.getfield 57, 3) := by decide +kernel
theorem dX8_feed_9 : decode cX8_feed 9 = .ok (.bipush 20, 2) := by decide +kernel
theorem dX8_feed_11 : decode cX8_feed 11 = .ok (.iadd, 1) := by decide +kernel
theorem dX8_feed_12 : decode cX8_feed 12 = .ok (.sipush 900, 3) := by decide +kernel
theorem dX8_feed_15 : decode cX8_feed 15 = .ok (.if_icmp .le 5, 3) := by decide +kernel
theorem dX8_feed_18 : decode cX8_feed 18 = .ok (.iconst (-1), 1) := by decide +kernel
theorem dX8_feed_19 : decode cX8_feed 19 = .ok (.ireturn, 1) := by decide +kernel
theorem dX8_feed_20 : decode cX8_feed 20 = .ok (.aload_n 0, 1) := by decide +kernel
theorem dX8_feed_21 : decode cX8_feed 21 = .ok (.iload_n 1, 1) := by decide +kernel
theorem dX8_feed_22 : decode cX8_feed 22 = .ok (.invokevirtual 60, 3) := by decide +kernel
theorem dX8_feed_25 : decode cX8_feed 25 = .ok (.aload_n 0, 1) := by decide +kernel
theorem dX8_feed_26 : decode cX8_feed 26 = .ok (.iload_n 2, 1) := by decide +kernel
theorem dX8_feed_27 : decode cX8_feed 27 = .ok (.invokevirtual 60, 3) := by decide +kernel
theorem dX8_feed_30 : decode cX8_feed 30 = .ok (.aload_n 0, 1) := by decide +kernel
theorem dX8_feed_31 : decode cX8_feed 31 = .ok (.iload_n 3, 1) := by decide +kernel
theorem dX8_feed_32 : decode cX8_feed 32 = .ok (.invokevirtual 60, 3) := by decide +kernel
theorem dX8_feed_35 : decode cX8_feed 35 = .ok (.aload_n 0, 1) := by decide +kernel
theorem dX8_feed_36 : decode cX8_feed 36 = .ok (.iload 4, 2) := by decide +kernel
theorem dX8_feed_38 : decode cX8_feed 38 = .ok (.invokevirtual 60, 3) := by decide +kernel
theorem dX8_feed_41 : decode cX8_feed 41 = .ok (.aload_n 0, 1) := by decide +kernel
theorem dX8_feed_42 : decode cX8_feed 42 = .ok (.iload 5, 2) := by decide +kernel
theorem dX8_feed_44 : decode cX8_feed 44 = .ok (.invokevirtual 60, 3) := by decide +kernel
theorem dX8_feed_47 : decode cX8_feed 47 = .ok (.aload_n 0, 1) := by decide +kernel
theorem dX8_feed_48 : decode cX8_feed 48 = .ok (.getfield 57, 3) := by decide +kernel
theorem dX8_feed_51 : decode cX8_feed 51 = .ok (.ireturn, 1) := by decide +kernel
theorem dX8_errorPosition_0 : decode cX8_errorPosition 0 = .ok (.aload_n 0, 1) := by decide +kernel
theorem dX8_errorPosition_1 : decode cX8_errorPosition 1 = .ok (.iconst 0, 1) := by decide +kernel
theorem dX8_errorPosition_2 : decode cX8_errorPosition 2 = .ok (.putfield 1, 3) := by decide +kernel
theorem dX8_errorPosition_5 : decode cX8_errorPosition 5 = .ok (.aload_n 0, 1) := by decide +kernel
theorem dX8_errorPosition_6 : decode cX8_errorPosition 6 = .ok (.getfield 32, 3) := by decide +kernel
theorem dX8_errorPosition_9 : decode cX8_errorPosition 9 = .ok (.ireturn, 1) := by decide +kernel
theorem dX8_byteAt_0 : decode cX8_byteAt 0 = .ok (.iload_n 1, 1) := by decide +kernel
theorem dX8_byteAt_1 : decode cX8_byteAt 1 = .ok (.aload_n 0, 1) := by decide +kernel
theorem dX8_byteAt_2 : decode cX8_byteAt 2 = .ok (.getfield 64, 3) := by decide +kernel
theorem dX8_byteAt_5 : decode cX8_byteAt 5 = .ok (.if_icmp .ge 12, 3) := by decide +kernel
theorem dX8_byteAt_8 : decode cX8_byteAt 8 = .ok (.aload_n 0, 1) := by decide +kernel
theorem dX8_byteAt_9 : decode cX8_byteAt 9 = .ok (.getfield 29, 3) := by decide +kernel
theorem dX8_byteAt_12 : decode cX8_byteAt 12 = .ok (.iload_n 1, 1) := by decide +kernel
theorem dX8_byteAt_13 : decode cX8_byteAt 13 = .ok (.iaload, 1) := by decide +kernel
theorem dX8_byteAt_14 : decode cX8_byteAt 14 = .ok (.goto 4, 3) := by decide +kernel
theorem dX8_byteAt_17 : decode cX8_byteAt 17 = .ok (.iconst (-1), 1) := by decide +kernel
theorem dX8_byteAt_18 : decode cX8_byteAt 18 = .ok (.ireturn, 1) := by decide +kernel
theorem dX8_isLetter_0 : decode cX8_isLetter 0 = .ok (.iload_n 0, 1) := by decide +kernel
theorem dX8_isLetter_1 : decode cX8_isLetter 1 = .ok (.bipush 97, 2) := by decide +kernel
theorem dX8_isLetter_3 : decode cX8_isLetter 3 = .ok (.if_icmp .lt 13, 3) := by decide +kernel
theorem dX8_isLetter_6 : decode cX8_isLetter 6 = .ok (.iload_n 0, 1) := by decide +kernel
theorem dX8_isLetter_7 : decode cX8_isLetter 7 = .ok (.bipush 122, 2) := by decide +kernel
theorem dX8_isLetter_9 : decode cX8_isLetter 9 = .ok (.if_icmp .gt 7, 3) := by decide +kernel
theorem dX8_isLetter_12 : decode cX8_isLetter 12 = .ok (.iconst 1, 1) := by decide +kernel
theorem dX8_isLetter_13 : decode cX8_isLetter 13 = .ok (.goto 4, 3) := by decide +kernel
theorem dX8_isLetter_16 : decode cX8_isLetter 16 = .ok (.iconst 0, 1) := by decide +kernel
theorem dX8_isLetter_17 : decode cX8_isLetter 17 = .ok (.ireturn, 1) := by decide +kernel
theorem dX8_isFigure_0 : decode cX8_isFigure 0 = .ok (.iload_n 0, 1) := by decide +kernel
theorem dX8_isFigure_1 : decode cX8_isFigure 1 = .ok (.bipush 48, 2) := by decide +kernel
theorem dX8_isFigure_3 : decode cX8_isFigure 3 = .ok (.if_icmp .lt 13, 3) := by decide +kernel
theorem dX8_isFigure_6 : decode cX8_isFigure 6 = .ok (.iload_n 0, 1) := by decide +kernel
theorem dX8_isFigure_7 : decode cX8_isFigure 7 = .ok (.bipush 57, 2) := by decide +kernel
theorem dX8_isFigure_9 : decode cX8_isFigure 9 = .ok (.if_icmp .gt 7, 3) := by decide +kernel
theorem dX8_isFigure_12 : decode cX8_isFigure 12 = .ok (.iconst 1, 1) := by decide +kernel
theorem dX8_isFigure_13 : decode cX8_isFigure 13 = .ok (.goto 4, 3) := by decide +kernel
theorem dX8_isFigure_16 : decode cX8_isFigure 16 = .ok (.iconst 0, 1) := by decide +kernel
theorem dX8_isFigure_17 : decode cX8_isFigure 17 = .ok (.ireturn, 1) := by decide +kernel
theorem dX8_readsWord_0 : decode cX8_readsWord 0 = .ok (.aload_n 0, 1) := by decide +kernel
theorem dX8_readsWord_1 : decode cX8_readsWord 1 = .ok (.lconst 0, 1) := by decide +kernel
theorem dX8_readsWord_2 : decode cX8_readsWord 2 = .ok (.putfield 67, 3) := by decide +kernel
theorem dX8_readsWord_5 : decode cX8_readsWord 5 = .ok (.aload_n 0, 1) := by decide +kernel
theorem dX8_readsWord_6 : decode cX8_readsWord 6 = .ok (.aload_n 0, 1) := by decide +kernel
theorem dX8_readsWord_7 : decode cX8_readsWord 7 = .ok (.getfield 71, 3) := by decide +kernel
theorem dX8_readsWord_10 : decode cX8_readsWord 10 = .ok (.invokevirtual 74, 3) := by decide +kernel
theorem dX8_readsWord_13 : decode cX8_readsWord 13 = .ok (.invokestatic 78, 3) := by decide +kernel
theorem dX8_readsWord_16 : decode cX8_readsWord 16 = .ok (.ifCond .eq 57, 3) := by decide +kernel
theorem dX8_readsWord_19 : decode cX8_readsWord 19 = .ok (.aload_n 0, 1) := by decide +kernel
theorem dX8_readsWord_20 : decode cX8_readsWord 20 = .ok (.getfield 71, 3) := by decide +kernel
theorem dX8_readsWord_23 : decode cX8_readsWord 23 = .ok (.aload_n 0, 1) := by decide +kernel
theorem dX8_readsWord_24 : decode cX8_readsWord 24 = .ok (.getfield 82, 3) := by decide +kernel
theorem dX8_readsWord_27 : decode cX8_readsWord 27 = .ok (.isub, 1) := by decide +kernel
theorem dX8_readsWord_28 : decode cX8_readsWord 28 = .ok (.bipush 10, 2) := by decide +kernel
theorem dX8_readsWord_30 : decode cX8_readsWord 30 = .ok (.if_icmp .ge 30, 3) := by decide +kernel
theorem dX8_readsWord_33 : decode cX8_readsWord 33 = .ok (.aload_n 0, 1) := by decide +kernel
theorem dX8_readsWord_34 : decode cX8_readsWord 34 = .ok (.ldc2_w 85, 3) := by decide +kernel
theorem dX8_readsWord_37 : decode cX8_readsWord 37 = .ok (.aload_n 0, 1) := by decide +kernel
theorem dX8_readsWord_38 : decode cX8_readsWord 38 = .ok (.getfield 67, 3) := by decide +kernel
theorem dX8_readsWord_41 : decode cX8_readsWord 41 = .ok (.lmul, 1) := by decide +kernel
theorem dX8_readsWord_42 : decode cX8_readsWord 42 = .ok (.aload_n 0, 1) := by decide +kernel
theorem dX8_readsWord_43 : decode cX8_readsWord 43 = .ok (.getfield 29, 3) := by decide +kernel
theorem dX8_readsWord_46 : decode cX8_readsWord 46 = .ok (.aload_n 0, 1) := by decide +kernel
theorem dX8_readsWord_47 : decode cX8_readsWord 47 = .ok (.getfield 71, 3) := by decide +kernel
theorem dX8_readsWord_50 : decode cX8_readsWord 50 = .ok (.iaload, 1) := by decide +kernel
theorem dX8_readsWord_51 : decode cX8_readsWord 51 = .ok (.i2l, 1) := by decide +kernel
theorem dX8_readsWord_52 : decode cX8_readsWord 52 = .ok (.ladd, 1) := by decide +kernel
theorem dX8_readsWord_53 : decode cX8_readsWord 53 = .ok (.ldc2_w 87, 3) := by decide +kernel
theorem dX8_readsWord_56 : decode cX8_readsWord 56 = .ok (.lsub, 1) := by decide +kernel
theorem dX8_readsWord_57 : decode cX8_readsWord 57 = .ok (.putfield 67, 3) := by decide +kernel
theorem dX8_readsWord_60 : decode cX8_readsWord 60 = .ok (.aload_n 0, 1) := by decide +kernel
theorem dX8_readsWord_61 : decode cX8_readsWord 61 = .ok (.dup, 1) := by decide +kernel
theorem dX8_readsWord_62 : decode cX8_readsWord 62 = .ok (.getfield 71, 3) := by decide +kernel
theorem dX8_readsWord_65 : decode cX8_readsWord 65 = .ok (.iconst 1, 1) := by decide +kernel
theorem dX8_readsWord_66 : decode cX8_readsWord 66 = .ok (.iadd, 1) := by decide +kernel
theorem dX8_readsWord_67 : decode cX8_readsWord 67 = .ok (.putfield 71, 3) := by decide +kernel
theorem dX8_readsWord_70 : decode cX8_readsWord 70 = .ok (.goto (-65), 3) := by decide +kernel
theorem dX8_readsWord_73 : decode cX8_readsWord 73 = .ok (.aload_n 0, 1) := by decide +kernel
theorem dX8_readsWord_74 : decode cX8_readsWord 74 = .ok (.iconst 1, 1) := by decide +kernel
theorem dX8_readsWord_75 : decode cX8_readsWord 75 = .ok (.putfield 89, 3) := by decide +kernel
theorem dX8_readsWord_78 : decode cX8_readsWord 78 = .ok (.return_, 1) := by decide +kernel
theorem dX8_readsNumber_0 : decode cX8_readsNumber 0 = .ok (.aload_n 0, 1) := by decide +kernel
theorem dX8_readsNumber_1 : decode cX8_readsNumber 1 = .ok (.iconst 0, 1) := by decide +kernel
theorem dX8_readsNumber_2 : decode cX8_readsNumber 2 = .ok (.putfield 92, 3) := by decide +kernel
theorem dX8_readsNumber_5 : decode cX8_readsNumber 5 = .ok (.aload_n 0, 1) := by decide +kernel
theorem dX8_readsNumber_6 : decode cX8_readsNumber 6 = .ok (.aload_n 0, 1) := by decide +kernel
theorem dX8_readsNumber_7 : decode cX8_readsNumber 7 = .ok (.getfield 71, 3) := by decide +kernel
theorem dX8_readsNumber_10 : decode cX8_readsNumber 10 = .ok (.invokevirtual 74, 3) := by decide +kernel
theorem dX8_readsNumber_13 : decode cX8_readsNumber 13 = .ok (.invokestatic 95, 3) := by decide +kernel
theorem dX8_readsNumber_16 : decode cX8_readsNumber 16 = .ok (.ifCond .eq 56, 3) := by decide +kernel
theorem dX8_readsNumber_19 : decode cX8_readsNumber 19 = .ok (.aload_n 0, 1) := by decide +kernel
theorem dX8_readsNumber_20 : decode cX8_readsNumber 20 = .ok (.aload_n 0, 1) := by decide +kernel
theorem dX8_readsNumber_21 : decode cX8_readsNumber 21 = .ok (.getfield 92, 3) := by decide +kernel
theorem dX8_readsNumber_24 : decode cX8_readsNumber 24 = .ok (.ldc 98, 2) := by decide +kernel
theorem dX8_readsNumber_26 : decode cX8_readsNumber 26 = .ok (.if_icmp .le 10, 3) := by decide +kernel
theorem dX8_readsNumber_29 : decode cX8_readsNumber 29 = .ok (.aload_n 0, 1) := by decide +kernel
theorem dX8_readsNumber_30 : decode cX8_readsNumber 30 = .ok (.getfield 92, 3) := by decide +kernel
theorem dX8_readsNumber_33 : decode cX8_readsNumber 33 = .ok (.goto 23, 3) := by decide +kernel
theorem dX8_readsNumber_36 : decode cX8_readsNumber 36 = .ok (.bipush 10, 2) := by decide +kernel
theorem dX8_readsNumber_38 : decode cX8_readsNumber 38 = .ok (.aload_n 0, 1) := by decide +kernel
theorem dX8_readsNumber_39 : decode cX8_readsNumber 39 = .ok (.getfield 92, 3) := by decide +kernel
theorem dX8_readsNumber_42 : decode cX8_readsNumber 42 = .ok (.imul, 1) := by decide +kernel
theorem dX8_readsNumber_43 : decode cX8_readsNumber 43 = .ok (.aload_n 0, 1) := by decide +kernel
theorem dX8_readsNumber_44 : decode cX8_readsNumber 44 = .ok (.getfield 29, 3) := by decide +kernel
theorem dX8_readsNumber_47 : decode cX8_readsNumber 47 = .ok (.aload_n 0, 1) := by decide +kernel
theorem dX8_readsNumber_48 : decode cX8_readsNumber 48 = .ok (.getfield 71, 3) := by decide +kernel
theorem dX8_readsNumber_51 : decode cX8_readsNumber 51 = .ok (.iaload, 1) := by decide +kernel
theorem dX8_readsNumber_52 : decode cX8_readsNumber 52 = .ok (.iadd, 1) := by decide +kernel
theorem dX8_readsNumber_53 : decode cX8_readsNumber 53 = .ok (.bipush 48, 2) := by decide +kernel
theorem dX8_readsNumber_55 : decode cX8_readsNumber 55 = .ok (.isub, 1) := by decide +kernel
theorem dX8_readsNumber_56 : decode cX8_readsNumber 56 = .ok (.putfield 92, 3) := by decide +kernel
theorem dX8_readsNumber_59 : decode cX8_readsNumber 59 = .ok (.aload_n 0, 1) := by decide +kernel
theorem dX8_readsNumber_60 : decode cX8_readsNumber 60 = .ok (.dup, 1) := by decide +kernel
theorem dX8_readsNumber_61 : decode cX8_readsNumber 61 = .ok (.getfield 71, 3) := by decide +kernel
theorem dX8_readsNumber_64 : decode cX8_readsNumber 64 = .ok (.iconst 1, 1) := by decide +kernel
theorem dX8_readsNumber_65 : decode cX8_readsNumber 65 = .ok (.iadd, 1) := by decide +kernel
theorem dX8_readsNumber_66 : decode cX8_readsNumber 66 = .ok (.putfield 71, 3) := by decide +kernel
theorem dX8_readsNumber_69 : decode cX8_readsNumber 69 = .ok (.goto (-64), 3) := by decide +kernel
theorem dX8_readsNumber_72 : decode cX8_readsNumber 72 = .ok (.aload_n 0, 1) := by decide +kernel
theorem dX8_readsNumber_73 : decode cX8_readsNumber 73 = .ok (.iconst 2, 1) := by decide +kernel
theorem dX8_readsNumber_74 : decode cX8_readsNumber 74 = .ok (.putfield 89, 3) := by decide +kernel
theorem dX8_readsNumber_77 : decode cX8_readsNumber 77 = .ok (.return_, 1) := by decide +kernel
theorem dX8_next_0 : decode cX8_next 0 = .ok (.aload_n 0, 1) := by decide +kernel
theorem dX8_next_1 : decode cX8_next 1 = .ok (.aload_n 0, 1) := by decide +kernel
theorem dX8_next_2 : decode cX8_next 2 = .ok (.getfield 71, 3) := by decide +kernel
theorem dX8_next_5 : decode cX8_next 5 = .ok (.invokevirtual 74, 3) := by decide +kernel
theorem dX8_next_8 : decode cX8_next 8 = .ok (.bipush 32, 2) := by decide +kernel
theorem dX8_next_10 : decode cX8_next 10 = .ok (.if_icmp .eq 16, 3) := by decide +kernel
theorem dX8_next_13 : decode cX8_next 13 = .ok (.aload_n 0, 1) := by decide +kernel
theorem dX8_next_14 : decode cX8_next 14 = .ok (.aload_n 0, 1) := by decide +kernel
theorem dX8_next_15 : decode cX8_next 15 = .ok (.getfield 71, 3) := by decide +kernel
theorem dX8_next_18 : decode cX8_next 18 = .ok (.invokevirtual 74, 3) := by decide +kernel
theorem dX8_next_21 : decode cX8_next 21 = .ok (.bipush 10, 2) := by decide +kernel
theorem dX8_next_23 : decode cX8_next 23 = .ok (.if_icmp .ne 16, 3) := by decide +kernel
theorem dX8_next_26 : decode cX8_next 26 = .ok (.aload_n 0, 1) := by decide +kernel
theorem dX8_next_27 : decode cX8_next 27 = .ok (.dup, 1) := by decide +kernel
theorem dX8_next_28 : decode cX8_next 28 = .ok (.getfield 71, 3) := by decide +kernel
theorem dX8_next_31 : decode cX8_next 31 = .ok (.iconst 1, 1) := by decide +kernel
theorem dX8_next_32 : decode cX8_next 32 = .ok (.iadd, 1) := by decide +kernel
theorem dX8_next_33 : decode cX8_next 33 = .ok (.putfield 71, 3) := by decide +kernel
theorem dX8_next_36 : decode cX8_next 36 = .ok (.goto (-36), 3) := by decide +kernel
theorem dX8_next_39 : decode cX8_next 39 = .ok (.aload_n 0, 1) := by decide +kernel
theorem dX8_next_40 : decode cX8_next 40 = .ok (.aload_n 0, 1) := by decide +kernel
theorem dX8_next_41 : decode cX8_next 41 = .ok (.getfield 71, 3) := by decide +kernel
theorem dX8_next_44 : decode cX8_next 44 = .ok (.putfield 82, 3) := by decide +kernel
theorem dX8_next_47 : decode cX8_next 47 = .ok (.aload_n 0, 1) := by decide +kernel
theorem dX8_next_48 : decode cX8_next 48 = .ok (.getfield 71, 3) := by decide +kernel
theorem dX8_next_51 : decode cX8_next 51 = .ok (.aload_n 0, 1) := by decide +kernel
theorem dX8_next_52 : decode cX8_next 52 = .ok (.getfield 64, 3) := by decide +kernel
theorem dX8_next_55 : decode cX8_next 55 = .ok (.if_icmp .lt 11, 3) := by decide +kernel
theorem dX8_next_58 : decode cX8_next 58 = .ok (.aload_n 0, 1) := by decide +kernel
theorem dX8_next_59 : decode cX8_next 59 = .ok (.iconst 0, 1) := by decide +kernel
theorem dX8_next_60 : decode cX8_next 60 = .ok (.putfield 89, 3) := by decide +kernel
theorem dX8_next_63 : decode cX8_next 63 = .ok (.goto 62, 3) := by decide +kernel
theorem dX8_next_66 : decode cX8_next 66 = .ok (.aload_n 0, 1) := by decide +kernel
theorem dX8_next_67 : decode cX8_next 67 = .ok (.getfield 29, 3) := by decide +kernel
theorem dX8_next_70 : decode cX8_next 70 = .ok (.aload_n 0, 1) := by decide +kernel
theorem dX8_next_71 : decode cX8_next 71 = .ok (.getfield 71, 3) := by decide +kernel
theorem dX8_next_74 : decode cX8_next 74 = .ok (.iaload, 1) := by decide +kernel
theorem dX8_next_75 : decode cX8_next 75 = .ok (.invokestatic 78, 3) := by decide +kernel
theorem dX8_next_78 : decode cX8_next 78 = .ok (.ifCond .eq 10, 3) := by decide +kernel
theorem dX8_next_81 : decode cX8_next 81 = .ok (.aload_n 0, 1) := by decide +kernel
theorem dX8_next_82 : decode cX8_next 82 = .ok (.invokevirtual 99, 3) := by decide +kernel
theorem dX8_next_85 : decode cX8_next 85 = .ok (.goto 40, 3) := by decide +kernel
theorem dX8_next_88 : decode cX8_next 88 = .ok (.aload_n 0, 1) := by decide +kernel
theorem dX8_next_89 : decode cX8_next 89 = .ok (.getfield 29, 3) := by decide +kernel
theorem dX8_next_92 : decode cX8_next 92 = .ok (.aload_n 0, 1) := by decide +kernel
theorem dX8_next_93 : decode cX8_next 93 = .ok (.getfield 71, 3) := by decide +kernel
theorem dX8_next_96 : decode cX8_next 96 = .ok (.iaload, 1) := by decide +kernel
theorem dX8_next_97 : decode cX8_next 97 = .ok (.invokestatic 95, 3) := by decide +kernel
theorem dX8_next_100 : decode cX8_next 100 = .ok (.ifCond .eq 10, 3) := by decide +kernel
theorem dX8_next_103 : decode cX8_next 103 = .ok (.aload_n 0, 1) := by decide +kernel
theorem dX8_next_104 : decode cX8_next 104 = .ok (.invokevirtual 102, 3) := by decide +kernel
theorem dX8_next_107 : decode cX8_next 107 = .ok (.goto 18, 3) := by decide +kernel
theorem dX8_next_110 : decode cX8_next 110 = .ok (.aload_n 0, 1) := by decide +kernel
theorem dX8_next_111 : decode cX8_next 111 = .ok (.iconst 3, 1) := by decide +kernel
theorem dX8_next_112 : decode cX8_next 112 = .ok (.putfield 89, 3) := by decide +kernel
theorem dX8_next_115 : decode cX8_next 115 = .ok (.aload_n 0, 1) := by decide +kernel
theorem dX8_next_116 : decode cX8_next 116 = .ok (.dup, 1) := by decide +kernel
theorem dX8_next_117 : decode cX8_next 117 = .ok (.getfield 71, 3) := by decide +kernel
theorem dX8_next_120 : decode cX8_next 120 = .ok (.iconst 1, 1) := by decide +kernel
theorem dX8_next_121 : decode cX8_next 121 = .ok (.iadd, 1) := by decide +kernel
theorem dX8_next_122 : decode cX8_next 122 = .ok (.putfield 71, 3) := by decide +kernel
theorem dX8_next_125 : decode cX8_next 125 = .ok (.return_, 1) := by decide +kernel
theorem dX8_starts_0 : decode cX8_starts 0 = .ok (.aload_n 0, 1) := by decide +kernel
theorem dX8_starts_1 : decode cX8_starts 1 = .ok (.iload_n 1, 1) := by decide +kernel
theorem dX8_starts_2 : decode cX8_starts 2 = .ok (.putfield 64, 3) := by decide +kernel
theorem dX8_starts_5 : decode cX8_starts 5 = .ok (.aload_n 0, 1) := by decide +kernel
theorem dX8_starts_6 : decode cX8_starts 6 = .ok (.iconst 0, 1) := by decide +kernel
theorem dX8_starts_7 : decode cX8_starts 7 = .ok (.putfield 57, 3) := by decide +kernel
theorem dX8_starts_10 : decode cX8_starts 10 = .ok (.aload_n 0, 1) := by decide +kernel
theorem dX8_starts_11 : decode cX8_starts 11 = .ok (.iconst 0, 1) := by decide +kernel
theorem dX8_starts_12 : decode cX8_starts 12 = .ok (.putfield 71, 3) := by decide +kernel
theorem dX8_starts_15 : decode cX8_starts 15 = .ok (.aload_n 0, 1) := by decide +kernel
theorem dX8_starts_16 : decode cX8_starts 16 = .ok (.iconst 0, 1) := by decide +kernel
theorem dX8_starts_17 : decode cX8_starts 17 = .ok (.putfield 105, 3) := by decide +kernel
theorem dX8_starts_20 : decode cX8_starts 20 = .ok (.aload_n 0, 1) := by decide +kernel
theorem dX8_starts_21 : decode cX8_starts 21 = .ok (.iconst (-1), 1) := by decide +kernel
theorem dX8_starts_22 : decode cX8_starts 22 = .ok (.putfield 32, 3) := by decide +kernel
theorem dX8_starts_25 : decode cX8_starts 25 = .ok (.aload_n 0, 1) := by decide +kernel
theorem dX8_starts_26 : decode cX8_starts 26 = .ok (.invokevirtual 108, 3) := by decide +kernel
theorem dX8_starts_29 : decode cX8_starts 29 = .ok (.return_, 1) := by decide +kernel
theorem dX8_wrongs_0 : decode cX8_wrongs 0 = .ok (.aload_n 0, 1) := by decide +kernel
theorem dX8_wrongs_1 : decode cX8_wrongs 1 = .ok (.getfield 105, 3) := by decide +kernel
theorem dX8_wrongs_4 : decode cX8_wrongs 4 = .ok (.ifCond .ne 16, 3) := by decide +kernel
theorem dX8_wrongs_7 : decode cX8_wrongs 7 = .ok (.aload_n 0, 1) := by decide +kernel
theorem dX8_wrongs_8 : decode cX8_wrongs 8 = .ok (.iload_n 1, 1) := by decide +kernel
theorem dX8_wrongs_9 : decode cX8_wrongs 9 = .ok (.putfield 105, 3) := by decide +kernel
theorem dX8_wrongs_12 : decode cX8_wrongs 12 = .ok (.aload_n 0, 1) := by decide +kernel
theorem dX8_wrongs_13 : decode cX8_wrongs 13 = .ok (.aload_n 0, 1) := by decide +kernel
theorem dX8_wrongs_14 : decode cX8_wrongs 14 = .ok (.getfield 82, 3) := by decide +kernel
theorem dX8_wrongs_17 : decode cX8_wrongs 17 = .ok (.putfield 32, 3) := by decide +kernel
theorem dX8_wrongs_20 : decode cX8_wrongs 20 = .ok (.iconst 0, 1) := by decide +kernel
theorem dX8_wrongs_21 : decode cX8_wrongs 21 = .ok (.ireturn, 1) := by decide +kernel
theorem dX8_isGood_0 : decode cX8_isGood 0 = .ok (.aload_n 0, 1) := by decide +kernel
theorem dX8_isGood_1 : decode cX8_isGood 1 = .ok (.getfield 105, 3) := by decide +kernel
theorem dX8_isGood_4 : decode cX8_isGood 4 = .ok (.ifCond .ne 7, 3) := by decide +kernel
theorem dX8_isGood_7 : decode cX8_isGood 7 = .ok (.iconst 1, 1) := by decide +kernel
theorem dX8_isGood_8 : decode cX8_isGood 8 = .ok (.goto 4, 3) := by decide +kernel
theorem dX8_isGood_11 : decode cX8_isGood 11 = .ok (.iconst 0, 1) := by decide +kernel
theorem dX8_isGood_12 : decode cX8_isGood 12 = .ok (.ireturn, 1) := by decide +kernel
theorem dX8_isWord_0 : decode cX8_isWord 0 = .ok (.aload_n 0, 1) := by decide +kernel
theorem dX8_isWord_1 : decode cX8_isWord 1 = .ok (.invokevirtual 111, 3) := by decide +kernel
theorem dX8_isWord_4 : decode cX8_isWord 4 = .ok (.ifCond .eq 38, 3) := by decide +kernel
theorem dX8_isWord_7 : decode cX8_isWord 7 = .ok (.aload_n 0, 1) := by decide +kernel
theorem dX8_isWord_8 : decode cX8_isWord 8 = .ok (.getfield 89, 3) := by decide +kernel
theorem dX8_isWord_11 : decode cX8_isWord 11 = .ok (.iconst 1, 1) := by decide +kernel
theorem dX8_isWord_12 : decode cX8_isWord 12 = .ok (.if_icmp .ne 30, 3) := by decide +kernel
theorem dX8_isWord_15 : decode cX8_isWord 15 = .ok (.aload_n 0, 1) := by decide +kernel
theorem dX8_isWord_16 : decode cX8_isWord 16 = .ok (.getfield 71, 3) := by decide +kernel
theorem dX8_isWord_19 : decode cX8_isWord 19 = .ok (.aload_n 0, 1) := by decide +kernel
theorem dX8_isWord_20 : decode cX8_isWord 20 = .ok (.getfield 82, 3) := by decide +kernel
theorem dX8_isWord_23 : decode cX8_isWord 23 = .ok (.isub, 1) := by decide +kernel
theorem dX8_isWord_24 : decode cX8_isWord 24 = .ok (.bipush 10, 2) := by decide +kernel
theorem dX8_isWord_26 : decode cX8_isWord 26 = .ok (.if_icmp .gt 16, 3) := by decide +kernel
theorem dX8_isWord_29 : decode cX8_isWord 29 = .ok (.aload_n 0, 1) := by decide +kernel
theorem dX8_isWord_30 : decode cX8_isWord 30 = .ok (.getfield 67, 3) := by decide +kernel
theorem dX8_isWord_33 : decode cX8_isWord 33 = .ok (.lload_n 1, 1) := by decide +kernel
theorem dX8_isWord_34 : decode cX8_isWord 34 = .ok (.lcmp, 1) := by decide +kernel
theorem dX8_isWord_35 : decode cX8_isWord 35 = .ok (.ifCond .ne 7, 3) := by decide +kernel
theorem dX8_isWord_38 : decode cX8_isWord 38 = .ok (.iconst 1, 1) := by decide +kernel
theorem dX8_isWord_39 : decode cX8_isWord 39 = .ok (.goto 4, 3) := by decide +kernel
theorem dX8_isWord_42 : decode cX8_isWord 42 = .ok (.iconst 0, 1) := by decide +kernel
theorem dX8_isWord_43 : decode cX8_isWord 43 = .ok (.ireturn, 1) := by decide +kernel
theorem dX8_passes_0 : decode cX8_passes 0 = .ok (.aload_n 0, 1) := by decide +kernel
theorem dX8_passes_1 : decode cX8_passes 1 = .ok (.lload_n 1, 1) := by decide +kernel
theorem dX8_passes_2 : decode cX8_passes 2 = .ok (.invokevirtual 115, 3) := by decide +kernel
theorem dX8_passes_5 : decode cX8_passes 5 = .ok (.ifCond .ne 5, 3) := by decide +kernel
theorem dX8_passes_8 : decode cX8_passes 8 = .ok (.iconst 0, 1) := by decide +kernel
theorem dX8_passes_9 : decode cX8_passes 9 = .ok (.ireturn, 1) := by decide +kernel
theorem dX8_passes_10 : decode cX8_passes 10 = .ok (.aload_n 0, 1) := by decide +kernel
theorem dX8_passes_11 : decode cX8_passes 11 = .ok (.invokevirtual 108, 3) := by decide +kernel
theorem dX8_passes_14 : decode cX8_passes 14 = .ok (.iconst 1, 1) := by decide +kernel
theorem dX8_passes_15 : decode cX8_passes 15 = .ok (.ireturn, 1) := by decide +kernel
theorem dX8_isByte_0 : decode cX8_isByte 0 = .ok (.aload_n 0, 1) := by decide +kernel
theorem dX8_isByte_1 : decode cX8_isByte 1 = .ok (.invokevirtual 111, 3) := by decide +kernel
theorem dX8_isByte_4 : decode cX8_isByte 4 = .ok (.ifCond .eq 28, 3) := by decide +kernel
theorem dX8_isByte_7 : decode cX8_isByte 7 = .ok (.aload_n 0, 1) := by decide +kernel
theorem dX8_isByte_8 : decode cX8_isByte 8 = .ok (.getfield 89, 3) := by decide +kernel
theorem dX8_isByte_11 : decode cX8_isByte 11 = .ok (.iconst 3, 1) := by decide +kernel
theorem dX8_isByte_12 : decode cX8_isByte 12 = .ok (.if_icmp .ne 20, 3) := by decide +kernel
theorem dX8_isByte_15 : decode cX8_isByte 15 = .ok (.aload_n 0, 1) := by decide +kernel
theorem dX8_isByte_16 : decode cX8_isByte 16 = .ok (.getfield 29, 3) := by decide +kernel
theorem dX8_isByte_19 : decode cX8_isByte 19 = .ok (.aload_n 0, 1) := by decide +kernel
theorem dX8_isByte_20 : decode cX8_isByte 20 = .ok (.getfield 82, 3) := by decide +kernel
theorem dX8_isByte_23 : decode cX8_isByte 23 = .ok (.iaload, 1) := by decide +kernel
theorem dX8_isByte_24 : decode cX8_isByte 24 = .ok (.iload_n 1, 1) := by decide +kernel
theorem dX8_isByte_25 : decode cX8_isByte 25 = .ok (.if_icmp .ne 7, 3) := by decide +kernel
theorem dX8_isByte_28 : decode cX8_isByte 28 = .ok (.iconst 1, 1) := by decide +kernel
theorem dX8_isByte_29 : decode cX8_isByte 29 = .ok (.goto 4, 3) := by decide +kernel
theorem dX8_isByte_32 : decode cX8_isByte 32 = .ok (.iconst 0, 1) := by decide +kernel
theorem dX8_isByte_33 : decode cX8_isByte 33 = .ok (.ireturn, 1) := by decide +kernel
theorem dX8_must_0 : decode cX8_must 0 = .ok (.aload_n 0, 1) := by decide +kernel
theorem dX8_must_1 : decode cX8_must 1 = .ok (.invokevirtual 111, 3) := by decide +kernel
theorem dX8_must_4 : decode cX8_must 4 = .ok (.ifCond .ne 4, 3) := by decide +kernel
theorem dX8_must_7 : decode cX8_must 7 = .ok (.return_, 1) := by decide +kernel
theorem dX8_must_8 : decode cX8_must 8 = .ok (.aload_n 0, 1) := by decide +kernel
theorem dX8_must_9 : decode cX8_must 9 = .ok (.iload_n 1, 1) := by decide +kernel
theorem dX8_must_10 : decode cX8_must 10 = .ok (.invokevirtual 119, 3) := by decide +kernel
theorem dX8_must_13 : decode cX8_must 13 = .ok (.ifCond .eq 10, 3) := by decide +kernel
theorem dX8_must_16 : decode cX8_must 16 = .ok (.aload_n 0, 1) := by decide +kernel
theorem dX8_must_17 : decode cX8_must 17 = .ok (.invokevirtual 108, 3) := by decide +kernel
theorem dX8_must_20 : decode cX8_must 20 = .ok (.goto 9, 3) := by decide +kernel
theorem dX8_must_23 : decode cX8_must 23 = .ok (.aload_n 0, 1) := by decide +kernel
theorem dX8_must_24 : decode cX8_must 24 = .ok (.iconst 1, 1) := by decide +kernel
theorem dX8_must_25 : decode cX8_must 25 = .ok (.invokevirtual 122, 3) := by decide +kernel
theorem dX8_must_28 : decode cX8_must 28 = .ok (.pop, 1) := by decide +kernel
theorem dX8_must_29 : decode cX8_must 29 = .ok (.return_, 1) := by decide +kernel
theorem dX8_number_0 : decode cX8_number 0 = .ok (.aload_n 0, 1) := by decide +kernel
theorem dX8_number_1 : decode cX8_number 1 = .ok (.invokevirtual 111, 3) := by decide +kernel
theorem dX8_number_4 : decode cX8_number 4 = .ok (.ifCond .ne 5, 3) := by decide +kernel
theorem dX8_number_7 : decode cX8_number 7 = .ok (.iload_n 1, 1) := by decide +kernel
theorem dX8_number_8 : decode cX8_number 8 = .ok (.ireturn, 1) := by decide +kernel
theorem dX8_number_9 : decode cX8_number 9 = .ok (.aload_n 0, 1) := by decide +kernel
theorem dX8_number_10 : decode cX8_number 10 = .ok (.getfield 89, 3) := by decide +kernel
theorem dX8_number_13 : decode cX8_number 13 = .ok (.iconst 2, 1) := by decide +kernel
theorem dX8_number_14 : decode cX8_number 14 = .ok (.if_icmp .eq 12, 3) := by decide +kernel
theorem dX8_number_17 : decode cX8_number 17 = .ok (.aload_n 0, 1) := by decide +kernel
theorem dX8_number_18 : decode cX8_number 18 = .ok (.iconst 1, 1) := by decide +kernel
theorem dX8_number_19 : decode cX8_number 19 = .ok (.invokevirtual 122, 3) := by decide +kernel
theorem dX8_number_22 : decode cX8_number 22 = .ok (.pop, 1) := by decide +kernel
theorem dX8_number_23 : decode cX8_number 23 = .ok (.goto 24, 3) := by decide +kernel
theorem dX8_number_26 : decode cX8_number 26 = .ok (.aload_n 0, 1) := by decide +kernel
theorem dX8_number_27 : decode cX8_number 27 = .ok (.getfield 92, 3) := by decide +kernel
theorem dX8_number_30 : decode cX8_number 30 = .ok (.i2l, 1) := by decide +kernel
theorem dX8_number_31 : decode cX8_number 31 = .ok (.iload_n 1, 1) := by decide +kernel
theorem dX8_number_32 : decode cX8_number 32 = .ok (.i2l, 1) := by decide +kernel
theorem dX8_number_33 : decode cX8_number 33 = .ok (.iload_n 2, 1) := by decide +kernel
theorem dX8_number_34 : decode cX8_number 34 = .ok (.i2l, 1) := by decide +kernel
theorem dX8_number_35 : decode cX8_number 35 = .ok (.invokestatic 125, 3) := by decide +kernel
theorem dX8_number_38 : decode cX8_number 38 = .ok (.ifCond .ne 9, 3) := by decide +kernel
theorem dX8_number_41 : decode cX8_number 41 = .ok (.aload_n 0, 1) := by decide +kernel
theorem dX8_number_42 : decode cX8_number 42 = .ok (.iconst 2, 1) := by decide +kernel
theorem dX8_number_43 : decode cX8_number 43 = .ok (.invokevirtual 122, 3) := by decide +kernel
theorem dX8_number_46 : decode cX8_number 46 = .ok (.pop, 1) := by decide +kernel
theorem dX8_number_47 : decode cX8_number 47 = .ok (.aload_n 0, 1) := by decide +kernel
theorem dX8_number_48 : decode cX8_number 48 = .ok (.invokevirtual 111, 3) := by decide +kernel
theorem dX8_number_51 : decode cX8_number 51 = .ok (.ifCond .ne 5, 3) := by decide +kernel
theorem dX8_number_54 : decode cX8_number 54 = .ok (.iload_n 1, 1) := by decide +kernel
theorem dX8_number_55 : decode cX8_number 55 = .ok (.ireturn, 1) := by decide +kernel
theorem dX8_number_56 : decode cX8_number 56 = .ok (.aload_n 0, 1) := by decide +kernel
theorem dX8_number_57 : decode cX8_number 57 = .ok (.getfield 92, 3) := by decide +kernel
theorem dX8_number_60 : decode cX8_number 60 = .ok (.istore_n 3, 1) := by decide +kernel
theorem dX8_number_61 : decode cX8_number 61 = .ok (.aload_n 0, 1) := by decide +kernel
theorem dX8_number_62 : decode cX8_number 62 = .ok (.invokevirtual 108, 3) := by decide +kernel
theorem dX8_number_65 : decode cX8_number 65 = .ok (.iload_n 3, 1) := by decide +kernel
theorem dX8_number_66 : decode cX8_number 66 = .ok (.ireturn, 1) := by decide +kernel
theorem dX8_toldHost_0 : decode cX8_toldHost 0 = .ok (.iconst 0, 1) := by decide +kernel
theorem dX8_toldHost_1 : decode cX8_toldHost 1 = .ok (.istore_n 1, 1) := by decide +kernel
theorem dX8_toldHost_2 : decode cX8_toldHost 2 = .ok (.iload_n 1, 1) := by decide +kernel
theorem dX8_toldHost_3 : decode cX8_toldHost 3 = .ok (.aload_n 0, 1) := by decide +kernel
theorem dX8_toldHost_4 : decode cX8_toldHost 4 = .ok (.getfield 17, 3) := by decide +kernel
theorem dX8_toldHost_7 : decode cX8_toldHost 7 = .ok (.iconst 0, 1) := by decide +kernel
theorem dX8_toldHost_8 : decode cX8_toldHost 8 = .ok (.iaload, 1) := by decide +kernel
theorem dX8_toldHost_9 : decode cX8_toldHost 9 = .ok (.if_icmp .ge 102, 3) := by decide +kernel
theorem dX8_toldHost_12 : decode cX8_toldHost 12 = .ok (.aload_n 0, 1) := by decide +kernel
theorem dX8_toldHost_13 : decode cX8_toldHost 13 = .ok (.getfield 17, 3) := by decide +kernel
theorem dX8_toldHost_16 : decode cX8_toldHost 16 = .ok (.iload_n 1, 1) := by decide +kernel
theorem dX8_toldHost_17 : decode cX8_toldHost 17 = .ok (.iconst 5, 1) := by decide +kernel
theorem dX8_toldHost_18 : decode cX8_toldHost 18 = .ok (.invokestatic 129, 3) := by decide +kernel
theorem dX8_toldHost_21 : decode cX8_toldHost 21 = .ok (.iaload, 1) := by decide +kernel
theorem dX8_toldHost_22 : decode cX8_toldHost 22 = .ok (.aload_n 0, 1) := by decide +kernel
theorem dX8_toldHost_23 : decode cX8_toldHost 23 = .ok (.getfield 71, 3) := by decide +kernel
theorem dX8_toldHost_26 : decode cX8_toldHost 26 = .ok (.aload_n 0, 1) := by decide +kernel
theorem dX8_toldHost_27 : decode cX8_toldHost 27 = .ok (.getfield 82, 3) := by decide +kernel
theorem dX8_toldHost_30 : decode cX8_toldHost 30 = .ok (.isub, 1) := by decide +kernel
theorem dX8_toldHost_31 : decode cX8_toldHost 31 = .ok (.if_icmp .ne 7, 3) := by decide +kernel
theorem dX8_toldHost_34 : decode cX8_toldHost 34 = .ok (.iconst 1, 1) := by decide +kernel
theorem dX8_toldHost_35 : decode cX8_toldHost 35 = .ok (.goto 4, 3) := by decide +kernel
theorem dX8_toldHost_38 : decode cX8_toldHost 38 = .ok (.iconst 0, 1) := by decide +kernel
theorem dX8_toldHost_39 : decode cX8_toldHost 39 = .ok (.istore_n 2, 1) := by decide +kernel
theorem dX8_toldHost_40 : decode cX8_toldHost 40 = .ok (.iconst 0, 1) := by decide +kernel
theorem dX8_toldHost_41 : decode cX8_toldHost 41 = .ok (.istore_n 3, 1) := by decide +kernel
theorem dX8_toldHost_42 : decode cX8_toldHost 42 = .ok (.iload_n 3, 1) := by decide +kernel
theorem dX8_toldHost_43 : decode cX8_toldHost 43 = .ok (.aload_n 0, 1) := by decide +kernel
theorem dX8_toldHost_44 : decode cX8_toldHost 44 = .ok (.getfield 17, 3) := by decide +kernel
theorem dX8_toldHost_47 : decode cX8_toldHost 47 = .ok (.iload_n 1, 1) := by decide +kernel
theorem dX8_toldHost_48 : decode cX8_toldHost 48 = .ok (.iconst 5, 1) := by decide +kernel
theorem dX8_toldHost_49 : decode cX8_toldHost 49 = .ok (.invokestatic 129, 3) := by decide +kernel
theorem dX8_toldHost_52 : decode cX8_toldHost 52 = .ok (.iaload, 1) := by decide +kernel
theorem dX8_toldHost_53 : decode cX8_toldHost 53 = .ok (.if_icmp .ge 46, 3) := by decide +kernel
theorem dX8_toldHost_56 : decode cX8_toldHost 56 = .ok (.iload_n 2, 1) := by decide +kernel
theorem dX8_toldHost_57 : decode cX8_toldHost 57 = .ok (.ifCond .eq 42, 3) := by decide +kernel
theorem dX8_toldHost_60 : decode cX8_toldHost 60 = .ok (.aload_n 0, 1) := by decide +kernel
theorem dX8_toldHost_61 : decode cX8_toldHost 61 = .ok (.getfield 17, 3) := by decide +kernel
theorem dX8_toldHost_64 : decode cX8_toldHost 64 = .ok (.iload_n 1, 1) := by decide +kernel
theorem dX8_toldHost_65 : decode cX8_toldHost 65 = .ok (.bipush 6, 2) := by decide +kernel
theorem dX8_toldHost_67 : decode cX8_toldHost 67 = .ok (.iload_n 3, 1) := by decide +kernel
theorem dX8_toldHost_68 : decode cX8_toldHost 68 = .ok (.iadd, 1) := by decide +kernel
theorem dX8_toldHost_69 : decode cX8_toldHost 69 = .ok (.invokestatic 129, 3) := by decide +kernel
theorem dX8_toldHost_72 : decode cX8_toldHost 72 = .ok (.iaload, 1) := by decide +kernel
theorem dX8_toldHost_73 : decode cX8_toldHost 73 = .ok (.aload_n 0, 1) := by decide +kernel
theorem dX8_toldHost_74 : decode cX8_toldHost 74 = .ok (.getfield 29, 3) := by decide +kernel
theorem dX8_toldHost_77 : decode cX8_toldHost 77 = .ok (.aload_n 0, 1) := by decide +kernel
theorem dX8_toldHost_78 : decode cX8_toldHost 78 = .ok (.getfield 82, 3) := by decide +kernel
theorem dX8_toldHost_81 : decode cX8_toldHost 81 = .ok (.iload_n 3, 1) := by decide +kernel
theorem dX8_toldHost_82 : decode cX8_toldHost 82 = .ok (.iadd, 1) := by decide +kernel
theorem dX8_toldHost_83 : decode cX8_toldHost 83 = .ok (.iaload, 1) := by decide +kernel
theorem dX8_toldHost_84 : decode cX8_toldHost 84 = .ok (.if_icmp .ne 7, 3) := by decide +kernel
theorem dX8_toldHost_87 : decode cX8_toldHost 87 = .ok (.iconst 1, 1) := by decide +kernel
theorem dX8_toldHost_88 : decode cX8_toldHost 88 = .ok (.goto 4, 3) := by decide +kernel
theorem dX8_toldHost_91 : decode cX8_toldHost 91 = .ok (.iconst 0, 1) := by decide +kernel
theorem dX8_toldHost_92 : decode cX8_toldHost 92 = .ok (.istore_n 2, 1) := by decide +kernel
theorem dX8_toldHost_93 : decode cX8_toldHost 93 = .ok (.iinc 3 1, 3) := by decide +kernel
theorem dX8_toldHost_96 : decode cX8_toldHost 96 = .ok (.goto (-54), 3) := by decide +kernel
theorem dX8_toldHost_99 : decode cX8_toldHost 99 = .ok (.iload_n 2, 1) := by decide +kernel
theorem dX8_toldHost_100 : decode cX8_toldHost 100 = .ok (.ifCond .eq 5, 3) := by decide +kernel
theorem dX8_toldHost_103 : decode cX8_toldHost 103 = .ok (.iload_n 1, 1) := by decide +kernel
theorem dX8_toldHost_104 : decode cX8_toldHost 104 = .ok (.ireturn, 1) := by decide +kernel
theorem dX8_toldHost_105 : decode cX8_toldHost 105 = .ok (.iinc 1 1, 3) := by decide +kernel
theorem dX8_toldHost_108 : decode cX8_toldHost 108 = .ok (.goto (-106), 3) := by decide +kernel
theorem dX8_toldHost_111 : decode cX8_toldHost 111 = .ok (.iconst (-1), 1) := by decide +kernel
theorem dX8_toldHost_112 : decode cX8_toldHost 112 = .ok (.ireturn, 1) := by decide +kernel
theorem dX8_readsHead_0 : decode cX8_readsHead 0 = .ok (.aload_n 0, 1) := by decide +kernel
theorem dX8_readsHead_1 : decode cX8_readsHead 1 = .ok (.ldc2_w 133, 3) := by decide +kernel
theorem dX8_readsHead_4 : decode cX8_readsHead 4 = .ok (.invokevirtual 135, 3) := by decide +kernel
theorem dX8_readsHead_7 : decode cX8_readsHead 7 = .ok (.ifCond .ne 10, 3) := by decide +kernel
theorem dX8_readsHead_10 : decode cX8_readsHead 10 = .ok (.aload_n 0, 1) := by decide +kernel
theorem dX8_readsHead_11 : decode cX8_readsHead 11 = .ok (.iconst 1, 1) := by decide +kernel
theorem dX8_readsHead_12 : decode cX8_readsHead 12 = .ok (.invokevirtual 122, 3) := by decide +kernel
theorem dX8_readsHead_15 : decode cX8_readsHead 15 = .ok (.pop, 1) := by decide +kernel
theorem dX8_readsHead_16 : decode cX8_readsHead 16 = .ok (.return_, 1) := by decide +kernel
theorem dX8_readsHead_17 : decode cX8_readsHead 17 = .ok (.aload_n 0, 1) := by decide +kernel
theorem dX8_readsHead_18 : decode cX8_readsHead 18 = .ok (.ldc2_w 138, 3) := by decide +kernel
theorem dX8_readsHead_21 : decode cX8_readsHead 21 = .ok (.invokevirtual 135, 3) := by decide +kernel
theorem dX8_readsHead_24 : decode cX8_readsHead 24 = .ok (.ifCond .eq 15, 3) := by decide +kernel
theorem dX8_readsHead_27 : decode cX8_readsHead 27 = .ok (.aload_n 0, 1) := by decide +kernel
theorem dX8_readsHead_28 : decode cX8_readsHead 28 = .ok (.getfield 17, 3) := by decide +kernel
theorem dX8_readsHead_31 : decode cX8_readsHead 31 = .ok (.iconst 3, 1) := by decide +kernel
theorem dX8_readsHead_32 : decode cX8_readsHead 32 = .ok (.aload_n 0, 1) := by decide +kernel
theorem dX8_readsHead_33 : decode cX8_readsHead 33 = .ok (.iconst 0, 1) := by decide +kernel
theorem dX8_readsHead_34 : decode cX8_readsHead 34 = .ok (.iconst 3, 1) := by decide +kernel
theorem dX8_readsHead_35 : decode cX8_readsHead 35 = .ok (.invokevirtual 140, 3) := by decide +kernel
theorem dX8_readsHead_38 : decode cX8_readsHead 38 = .ok (.iastore, 1) := by decide +kernel
theorem dX8_readsHead_39 : decode cX8_readsHead 39 = .ok (.aload_n 0, 1) := by decide +kernel
theorem dX8_readsHead_40 : decode cX8_readsHead 40 = .ok (.ldc2_w 143, 3) := by decide +kernel
theorem dX8_readsHead_43 : decode cX8_readsHead 43 = .ok (.invokevirtual 135, 3) := by decide +kernel
theorem dX8_readsHead_46 : decode cX8_readsHead 46 = .ok (.ifCond .eq 16, 3) := by decide +kernel
theorem dX8_readsHead_49 : decode cX8_readsHead 49 = .ok (.aload_n 0, 1) := by decide +kernel
theorem dX8_readsHead_50 : decode cX8_readsHead 50 = .ok (.getfield 17, 3) := by decide +kernel
theorem dX8_readsHead_53 : decode cX8_readsHead 53 = .ok (.iconst 4, 1) := by decide +kernel
theorem dX8_readsHead_54 : decode cX8_readsHead 54 = .ok (.aload_n 0, 1) := by decide +kernel
theorem dX8_readsHead_55 : decode cX8_readsHead 55 = .ok (.iconst 1, 1) := by decide +kernel
theorem dX8_readsHead_56 : decode cX8_readsHead 56 = .ok (.bipush 9, 2) := by decide +kernel
theorem dX8_readsHead_58 : decode cX8_readsHead 58 = .ok (.invokevirtual 140, 3) := by decide +kernel
theorem dX8_readsHead_61 : decode cX8_readsHead 61 = .ok (.iastore, 1) := by decide +kernel
theorem dX8_readsHead_62 : decode cX8_readsHead 62 = .ok (.aload_n 0, 1) := by decide +kernel
theorem dX8_readsHead_63 : decode cX8_readsHead 63 = .ok (.ldc2_w 145, 3) := by decide +kernel
theorem dX8_readsHead_66 : decode cX8_readsHead 66 = .ok (.invokevirtual 135, 3) := by decide +kernel
theorem dX8_readsHead_69 : decode cX8_readsHead 69 = .ok (.ifCond .eq 37, 3) := by decide +kernel
theorem dX8_readsHead_72 : decode cX8_readsHead 72 = .ok (.aload_n 0, 1) := by decide +kernel
theorem dX8_readsHead_73 : decode cX8_readsHead 73 = .ok (.getfield 17, 3) := by decide +kernel
theorem dX8_readsHead_76 : decode cX8_readsHead 76 = .ok (.iconst 5, 1) := by decide +kernel
theorem dX8_readsHead_77 : decode cX8_readsHead 77 = .ok (.aload_n 0, 1) := by decide +kernel
theorem dX8_readsHead_78 : decode cX8_readsHead 78 = .ok (.iconst 1, 1) := by decide +kernel
theorem dX8_readsHead_79 : decode cX8_readsHead 79 = .ok (.sipush 250, 3) := by decide +kernel
theorem dX8_readsHead_82 : decode cX8_readsHead 82 = .ok (.invokevirtual 140, 3) := by decide +kernel
theorem dX8_readsHead_85 : decode cX8_readsHead 85 = .ok (.iastore, 1) := by decide +kernel
theorem dX8_readsHead_86 : decode cX8_readsHead 86 = .ok (.aload_n 0, 1) := by decide +kernel
theorem dX8_readsHead_87 : decode cX8_readsHead 87 = .ok (.getfield 17, 3) := by decide +kernel
theorem dX8_readsHead_90 : decode cX8_readsHead 90 = .ok (.bipush 6, 2) := by decide +kernel
theorem dX8_readsHead_92 : decode cX8_readsHead 92 = .ok (.aload_n 0, 1) := by decide +kernel
theorem dX8_readsHead_93 : decode cX8_readsHead 93 = .ok (.aload_n 0, 1) := by decide +kernel
theorem dX8_readsHead_94 : decode cX8_readsHead 94 = .ok (.getfield 17, 3) := by decide +kernel
theorem dX8_readsHead_97 : decode cX8_readsHead 97 = .ok (.iconst 5, 1) := by decide +kernel
theorem dX8_readsHead_98 : decode cX8_readsHead 98 = .ok (.iaload, 1) := by decide +kernel
theorem dX8_readsHead_99 : decode cX8_readsHead 99 = .ok (.sipush 250, 3) := by decide +kernel
theorem dX8_readsHead_102 : decode cX8_readsHead 102 = .ok (.invokevirtual 140, 3) := by decide +kernel
theorem dX8_readsHead_105 : decode cX8_readsHead 105 = .ok (.iastore, 1) := by decide +kernel
theorem dX8_readsHead_106 : decode cX8_readsHead 106 = .ok (.aload_n 0, 1) := by decide +kernel
theorem dX8_readsHead_107 : decode cX8_readsHead 107 = .ok (.bipush 59, 2) := by decide +kernel
theorem dX8_readsHead_109 : decode cX8_readsHead 109 = .ok (.invokevirtual 147, 3) := by decide +kernel
theorem dX8_readsHead_112 : decode cX8_readsHead 112 = .ok (.return_, 1) := by decide +kernel
theorem dX8_readsName_0 : decode cX8_readsName 0 = .ok (.aload_n 0, 1) := by decide +kernel
theorem dX8_readsName_1 : decode cX8_readsName 1 = .ok (.getfield 71, 3) := by decide +kernel
theorem dX8_readsName_4 : decode cX8_readsName 4 = .ok (.aload_n 0, 1) := by decide +kernel
theorem dX8_readsName_5 : decode cX8_readsName 5 = .ok (.getfield 82, 3) := by decide +kernel
theorem dX8_readsName_8 : decode cX8_readsName 8 = .ok (.isub, 1) := by decide +kernel
theorem dX8_readsName_9 : decode cX8_readsName 9 = .ok (.istore_n 2, 1) := by decide +kernel
theorem dX8_readsName_10 : decode cX8_readsName 10 = .ok (.aload_n 0, 1) := by decide +kernel
theorem dX8_readsName_11 : decode cX8_readsName 11 = .ok (.getfield 89, 3) := by decide +kernel
theorem dX8_readsName_14 : decode cX8_readsName 14 = .ok (.iconst 1, 1) := by decide +kernel
theorem dX8_readsName_15 : decode cX8_readsName 15 = .ok (.if_icmp .eq 12, 3) := by decide +kernel
theorem dX8_readsName_18 : decode cX8_readsName 18 = .ok (.aload_n 0, 1) := by decide +kernel
theorem dX8_readsName_19 : decode cX8_readsName 19 = .ok (.iconst 1, 1) := by decide +kernel
theorem dX8_readsName_20 : decode cX8_readsName 20 = .ok (.invokevirtual 122, 3) := by decide +kernel
theorem dX8_readsName_23 : decode cX8_readsName 23 = .ok (.pop, 1) := by decide +kernel
theorem dX8_readsName_24 : decode cX8_readsName 24 = .ok (.goto 32, 3) := by decide +kernel
theorem dX8_readsName_27 : decode cX8_readsName 27 = .ok (.iload_n 2, 1) := by decide +kernel
theorem dX8_readsName_28 : decode cX8_readsName 28 = .ok (.bipush 8, 2) := by decide +kernel
theorem dX8_readsName_30 : decode cX8_readsName 30 = .ok (.if_icmp .le 12, 3) := by decide +kernel
theorem dX8_readsName_33 : decode cX8_readsName 33 = .ok (.aload_n 0, 1) := by decide +kernel
theorem dX8_readsName_34 : decode cX8_readsName 34 = .ok (.iconst 2, 1) := by decide +kernel
theorem dX8_readsName_35 : decode cX8_readsName 35 = .ok (.invokevirtual 122, 3) := by decide +kernel
theorem dX8_readsName_38 : decode cX8_readsName 38 = .ok (.pop, 1) := by decide +kernel
theorem dX8_readsName_39 : decode cX8_readsName 39 = .ok (.goto 17, 3) := by decide +kernel
theorem dX8_readsName_42 : decode cX8_readsName 42 = .ok (.aload_n 0, 1) := by decide +kernel
theorem dX8_readsName_43 : decode cX8_readsName 43 = .ok (.invokevirtual 150, 3) := by decide +kernel
theorem dX8_readsName_46 : decode cX8_readsName 46 = .ok (.iconst (-1), 1) := by decide +kernel
theorem dX8_readsName_47 : decode cX8_readsName 47 = .ok (.if_icmp .eq 9, 3) := by decide +kernel
theorem dX8_readsName_50 : decode cX8_readsName 50 = .ok (.aload_n 0, 1) := by decide +kernel
theorem dX8_readsName_51 : decode cX8_readsName 51 = .ok (.iconst 3, 1) := by decide +kernel
theorem dX8_readsName_52 : decode cX8_readsName 52 = .ok (.invokevirtual 122, 3) := by decide +kernel
theorem dX8_readsName_55 : decode cX8_readsName 55 = .ok (.pop, 1) := by decide +kernel
theorem dX8_readsName_56 : decode cX8_readsName 56 = .ok (.aload_n 0, 1) := by decide +kernel
theorem dX8_readsName_57 : decode cX8_readsName 57 = .ok (.invokevirtual 111, 3) := by decide +kernel
theorem dX8_readsName_60 : decode cX8_readsName 60 = .ok (.ifCond .ne 4, 3) := by decide +kernel
theorem dX8_readsName_63 : decode cX8_readsName 63 = .ok (.return_, 1) := by decide +kernel
theorem dX8_readsName_64 : decode cX8_readsName 64 = .ok (.aload_n 0, 1) := by decide +kernel
theorem dX8_readsName_65 : decode cX8_readsName 65 = .ok (.getfield 17, 3) := by decide +kernel
theorem dX8_readsName_68 : decode cX8_readsName 68 = .ok (.iload_n 1, 1) := by decide +kernel
theorem dX8_readsName_69 : decode cX8_readsName 69 = .ok (.iconst 5, 1) := by decide +kernel
theorem dX8_readsName_70 : decode cX8_readsName 70 = .ok (.invokestatic 129, 3) := by decide +kernel
theorem dX8_readsName_73 : decode cX8_readsName 73 = .ok (.iload_n 2, 1) := by decide +kernel
theorem dX8_readsName_74 : decode cX8_readsName 74 = .ok (.iastore, 1) := by decide +kernel
theorem dX8_readsName_75 : decode cX8_readsName 75 = .ok (.iconst 0, 1) := by decide +kernel
theorem dX8_readsName_76 : decode cX8_readsName 76 = .ok (.istore_n 3, 1) := by decide +kernel
theorem dX8_readsName_77 : decode cX8_readsName 77 = .ok (.iload_n 3, 1) := by decide +kernel
theorem dX8_readsName_78 : decode cX8_readsName 78 = .ok (.iload_n 2, 1) := by decide +kernel
theorem dX8_readsName_79 : decode cX8_readsName 79 = .ok (.if_icmp .ge 33, 3) := by decide +kernel
theorem dX8_readsName_82 : decode cX8_readsName 82 = .ok (.aload_n 0, 1) := by decide +kernel
theorem dX8_readsName_83 : decode cX8_readsName 83 = .ok (.getfield 17, 3) := by decide +kernel
theorem dX8_readsName_86 : decode cX8_readsName 86 = .ok (.iload_n 1, 1) := by decide +kernel
theorem dX8_readsName_87 : decode cX8_readsName 87 = .ok (.bipush 6, 2) := by decide +kernel
theorem dX8_readsName_89 : decode cX8_readsName 89 = .ok (.iload_n 3, 1) := by decide +kernel
theorem dX8_readsName_90 : decode cX8_readsName 90 = .ok (.iadd, 1) := by decide +kernel
theorem dX8_readsName_91 : decode cX8_readsName 91 = .ok (.invokestatic 129, 3) := by decide +kernel
theorem dX8_readsName_94 : decode cX8_readsName 94 = .ok (.aload_n 0, 1) := by decide +kernel
theorem dX8_readsName_95 : decode cX8_readsName 95 = .ok (.getfield 29, 3) := by decide +kernel
theorem dX8_readsName_98 : decode cX8_readsName 98 = .ok (.aload_n 0, 1) := by decide +kernel
theorem dX8_readsName_99 : decode cX8_readsName 99 = .ok (.getfield 82, 3) := by decide +kernel
theorem dX8_readsName_102 : decode cX8_readsName 102 = .ok (.iload_n 3, 1) := by decide +kernel
theorem dX8_readsName_103 : decode cX8_readsName 103 = .ok (.iadd, 1) := by decide +kernel
theorem dX8_readsName_104 : decode cX8_readsName 104 = .ok (.iaload, 1) := by decide +kernel
theorem dX8_readsName_105 : decode cX8_readsName 105 = .ok (.iastore, 1) := by decide +kernel
theorem dX8_readsName_106 : decode cX8_readsName 106 = .ok (.iinc 3 1, 3) := by decide +kernel
theorem dX8_readsName_109 : decode cX8_readsName 109 = .ok (.goto (-32), 3) := by decide +kernel
theorem dX8_readsName_112 : decode cX8_readsName 112 = .ok (.aload_n 0, 1) := by decide +kernel
theorem dX8_readsName_113 : decode cX8_readsName 113 = .ok (.invokevirtual 108, 3) := by decide +kernel
theorem dX8_readsName_116 : decode cX8_readsName 116 = .ok (.return_, 1) := by decide +kernel
theorem dX8_isTold_0 : decode cX8_isTold 0 = .ok (.iconst 0, 1) := by decide +kernel
theorem dX8_isTold_1 : decode cX8_isTold 1 = .ok (.istore_n 3, 1) := by decide +kernel
theorem dX8_isTold_2 : decode cX8_isTold 2 = .ok (.iload_n 3, 1) := by decide +kernel
theorem dX8_isTold_3 : decode cX8_isTold 3 = .ok (.aload_n 0, 1) := by decide +kernel
theorem dX8_isTold_4 : decode cX8_isTold 4 = .ok (.getfield 17, 3) := by decide +kernel
theorem dX8_isTold_7 : decode cX8_isTold 7 = .ok (.iconst 0, 1) := by decide +kernel
theorem dX8_isTold_8 : decode cX8_isTold 8 = .ok (.iaload, 1) := by decide +kernel
theorem dX8_isTold_9 : decode cX8_isTold 9 = .ok (.if_icmp .ge 39, 3) := by decide +kernel
theorem dX8_isTold_12 : decode cX8_isTold 12 = .ok (.aload_n 0, 1) := by decide +kernel
theorem dX8_isTold_13 : decode cX8_isTold 13 = .ok (.getfield 17, 3) := by decide +kernel
theorem dX8_isTold_16 : decode cX8_isTold 16 = .ok (.iload_n 3, 1) := by decide +kernel
theorem dX8_isTold_17 : decode cX8_isTold 17 = .ok (.iconst 0, 1) := by decide +kernel
theorem dX8_isTold_18 : decode cX8_isTold 18 = .ok (.invokestatic 129, 3) := by decide +kernel
theorem dX8_isTold_21 : decode cX8_isTold 21 = .ok (.iaload, 1) := by decide +kernel
theorem dX8_isTold_22 : decode cX8_isTold 22 = .ok (.iload_n 1, 1) := by decide +kernel
theorem dX8_isTold_23 : decode cX8_isTold 23 = .ok (.if_icmp .ne 19, 3) := by decide +kernel
theorem dX8_isTold_26 : decode cX8_isTold 26 = .ok (.aload_n 0, 1) := by decide +kernel
theorem dX8_isTold_27 : decode cX8_isTold 27 = .ok (.getfield 17, 3) := by decide +kernel
theorem dX8_isTold_30 : decode cX8_isTold 30 = .ok (.iload_n 3, 1) := by decide +kernel
theorem dX8_isTold_31 : decode cX8_isTold 31 = .ok (.iconst 1, 1) := by decide +kernel
theorem dX8_isTold_32 : decode cX8_isTold 32 = .ok (.invokestatic 129, 3) := by decide +kernel
theorem dX8_isTold_35 : decode cX8_isTold 35 = .ok (.iaload, 1) := by decide +kernel
theorem dX8_isTold_36 : decode cX8_isTold 36 = .ok (.iload_n 2, 1) := by decide +kernel
theorem dX8_isTold_37 : decode cX8_isTold 37 = .ok (.if_icmp .ne 5, 3) := by decide +kernel
theorem dX8_isTold_40 : decode cX8_isTold 40 = .ok (.iconst 1, 1) := by decide +kernel
theorem dX8_isTold_41 : decode cX8_isTold 41 = .ok (.ireturn, 1) := by decide +kernel
theorem dX8_isTold_42 : decode cX8_isTold 42 = .ok (.iinc 3 1, 3) := by decide +kernel
theorem dX8_isTold_45 : decode cX8_isTold 45 = .ok (.goto (-43), 3) := by decide +kernel
theorem dX8_isTold_48 : decode cX8_isTold 48 = .ok (.iconst 0, 1) := by decide +kernel
theorem dX8_isTold_49 : decode cX8_isTold 49 = .ok (.ireturn, 1) := by decide +kernel
theorem dX8_readsHost_0 : decode cX8_readsHost 0 = .ok (.aload_n 0, 1) := by decide +kernel
theorem dX8_readsHost_1 : decode cX8_readsHost 1 = .ok (.getfield 17, 3) := by decide +kernel
theorem dX8_readsHost_4 : decode cX8_readsHost 4 = .ok (.iconst 0, 1) := by decide +kernel
theorem dX8_readsHost_5 : decode cX8_readsHost 5 = .ok (.iaload, 1) := by decide +kernel
theorem dX8_readsHost_6 : decode cX8_readsHost 6 = .ok (.istore_n 1, 1) := by decide +kernel
theorem dX8_readsHost_7 : decode cX8_readsHost 7 = .ok (.iload_n 1, 1) := by decide +kernel
theorem dX8_readsHost_8 : decode cX8_readsHost 8 = .ok (.bipush 40, 2) := by decide +kernel
theorem dX8_readsHost_10 : decode cX8_readsHost 10 = .ok (.if_icmp .ne 10, 3) := by decide +kernel
theorem dX8_readsHost_13 : decode cX8_readsHost 13 = .ok (.aload_n 0, 1) := by decide +kernel
theorem dX8_readsHost_14 : decode cX8_readsHost 14 = .ok (.iconst 3, 1) := by decide +kernel
theorem dX8_readsHost_15 : decode cX8_readsHost 15 = .ok (.invokevirtual 122, 3) := by decide +kernel
theorem dX8_readsHost_18 : decode cX8_readsHost 18 = .ok (.pop, 1) := by decide +kernel
theorem dX8_readsHost_19 : decode cX8_readsHost 19 = .ok (.return_, 1) := by decide +kernel
theorem dX8_readsHost_20 : decode cX8_readsHost 20 = .ok (.aload_n 0, 1) := by decide +kernel
theorem dX8_readsHost_21 : decode cX8_readsHost 21 = .ok (.invokevirtual 108, 3) := by decide +kernel
theorem dX8_readsHost_24 : decode cX8_readsHost 24 = .ok (.aload_n 0, 1) := by decide +kernel
theorem dX8_readsHost_25 : decode cX8_readsHost 25 = .ok (.iload_n 1, 1) := by decide +kernel
theorem dX8_readsHost_26 : decode cX8_readsHost 26 = .ok (.invokevirtual 154, 3) := by decide +kernel
theorem dX8_readsHost_29 : decode cX8_readsHost 29 = .ok (.aload_n 0, 1) := by decide +kernel
theorem dX8_readsHost_30 : decode cX8_readsHost 30 = .ok (.iconst 0, 1) := by decide +kernel
theorem dX8_readsHost_31 : decode cX8_readsHost 31 = .ok (.iconst 1, 1) := by decide +kernel
theorem dX8_readsHost_32 : decode cX8_readsHost 32 = .ok (.invokevirtual 140, 3) := by decide +kernel
theorem dX8_readsHost_35 : decode cX8_readsHost 35 = .ok (.istore_n 2, 1) := by decide +kernel
theorem dX8_readsHost_36 : decode cX8_readsHost 36 = .ok (.aload_n 0, 1) := by decide +kernel
theorem dX8_readsHost_37 : decode cX8_readsHost 37 = .ok (.invokevirtual 111, 3) := by decide +kernel
theorem dX8_readsHost_40 : decode cX8_readsHost 40 = .ok (.ifCond .ne 4, 3) := by decide +kernel
theorem dX8_readsHost_43 : decode cX8_readsHost 43 = .ok (.return_, 1) := by decide +kernel
theorem dX8_readsHost_44 : decode cX8_readsHost 44 = .ok (.aload_n 0, 1) := by decide +kernel
theorem dX8_readsHost_45 : decode cX8_readsHost 45 = .ok (.getfield 89, 3) := by decide +kernel
theorem dX8_readsHost_48 : decode cX8_readsHost 48 = .ok (.iconst 2, 1) := by decide +kernel
theorem dX8_readsHost_49 : decode cX8_readsHost 49 = .ok (.if_icmp .eq 12, 3) := by decide +kernel
theorem dX8_readsHost_52 : decode cX8_readsHost 52 = .ok (.aload_n 0, 1) := by decide +kernel
theorem dX8_readsHost_53 : decode cX8_readsHost 53 = .ok (.iconst 1, 1) := by decide +kernel
theorem dX8_readsHost_54 : decode cX8_readsHost 54 = .ok (.invokevirtual 122, 3) := by decide +kernel
theorem dX8_readsHost_57 : decode cX8_readsHost 57 = .ok (.pop, 1) := by decide +kernel
theorem dX8_readsHost_58 : decode cX8_readsHost 58 = .ok (.goto 45, 3) := by decide +kernel
theorem dX8_readsHost_61 : decode cX8_readsHost 61 = .ok (.aload_n 0, 1) := by decide +kernel
theorem dX8_readsHost_62 : decode cX8_readsHost 62 = .ok (.getfield 92, 3) := by decide +kernel
theorem dX8_readsHost_65 : decode cX8_readsHost 65 = .ok (.i2l, 1) := by decide +kernel
theorem dX8_readsHost_66 : decode cX8_readsHost 66 = .ok (.lconst 1, 1) := by decide +kernel
theorem dX8_readsHost_67 : decode cX8_readsHost 67 = .ok (.ldc2_w 157, 3) := by decide +kernel
theorem dX8_readsHost_70 : decode cX8_readsHost 70 = .ok (.invokestatic 125, 3) := by decide +kernel
theorem dX8_readsHost_73 : decode cX8_readsHost 73 = .ok (.ifCond .ne 12, 3) := by decide +kernel
theorem dX8_readsHost_76 : decode cX8_readsHost 76 = .ok (.aload_n 0, 1) := by decide +kernel
theorem dX8_readsHost_77 : decode cX8_readsHost 77 = .ok (.iconst 2, 1) := by decide +kernel
theorem dX8_readsHost_78 : decode cX8_readsHost 78 = .ok (.invokevirtual 122, 3) := by decide +kernel
theorem dX8_readsHost_81 : decode cX8_readsHost 81 = .ok (.pop, 1) := by decide +kernel
theorem dX8_readsHost_82 : decode cX8_readsHost 82 = .ok (.goto 21, 3) := by decide +kernel
theorem dX8_readsHost_85 : decode cX8_readsHost 85 = .ok (.aload_n 0, 1) := by decide +kernel
theorem dX8_readsHost_86 : decode cX8_readsHost 86 = .ok (.iload_n 2, 1) := by decide +kernel
theorem dX8_readsHost_87 : decode cX8_readsHost 87 = .ok (.aload_n 0, 1) := by decide +kernel
theorem dX8_readsHost_88 : decode cX8_readsHost 88 = .ok (.getfield 92, 3) := by decide +kernel
theorem dX8_readsHost_91 : decode cX8_readsHost 91 = .ok (.invokevirtual 159, 3) := by decide +kernel
theorem dX8_readsHost_94 : decode cX8_readsHost 94 = .ok (.ifCond .eq 9, 3) := by decide +kernel
theorem dX8_readsHost_97 : decode cX8_readsHost 97 = .ok (.aload_n 0, 1) := by decide +kernel
theorem dX8_readsHost_98 : decode cX8_readsHost 98 = .ok (.iconst 3, 1) := by decide +kernel
theorem dX8_readsHost_99 : decode cX8_readsHost 99 = .ok (.invokevirtual 122, 3) := by decide +kernel
theorem dX8_readsHost_102 : decode cX8_readsHost 102 = .ok (.pop, 1) := by decide +kernel
theorem dX8_readsHost_103 : decode cX8_readsHost 103 = .ok (.aload_n 0, 1) := by decide +kernel
theorem dX8_readsHost_104 : decode cX8_readsHost 104 = .ok (.invokevirtual 111, 3) := by decide +kernel
theorem dX8_readsHost_107 : decode cX8_readsHost 107 = .ok (.ifCond .ne 4, 3) := by decide +kernel
theorem dX8_readsHost_110 : decode cX8_readsHost 110 = .ok (.return_, 1) := by decide +kernel
theorem dX8_readsHost_111 : decode cX8_readsHost 111 = .ok (.aload_n 0, 1) := by decide +kernel
theorem dX8_readsHost_112 : decode cX8_readsHost 112 = .ok (.getfield 17, 3) := by decide +kernel
theorem dX8_readsHost_115 : decode cX8_readsHost 115 = .ok (.iload_n 1, 1) := by decide +kernel
theorem dX8_readsHost_116 : decode cX8_readsHost 116 = .ok (.iconst 0, 1) := by decide +kernel
theorem dX8_readsHost_117 : decode cX8_readsHost 117 = .ok (.invokestatic 129, 3) := by decide +kernel
theorem dX8_readsHost_120 : decode cX8_readsHost 120 = .ok (.iload_n 2, 1) := by decide +kernel
theorem dX8_readsHost_121 : decode cX8_readsHost 121 = .ok (.iastore, 1) := by decide +kernel
theorem dX8_readsHost_122 : decode cX8_readsHost 122 = .ok (.aload_n 0, 1) := by decide +kernel
theorem dX8_readsHost_123 : decode cX8_readsHost 123 = .ok (.getfield 17, 3) := by decide +kernel
theorem dX8_readsHost_126 : decode cX8_readsHost 126 = .ok (.iload_n 1, 1) := by decide +kernel
theorem dX8_readsHost_127 : decode cX8_readsHost 127 = .ok (.iconst 1, 1) := by decide +kernel
theorem dX8_readsHost_128 : decode cX8_readsHost 128 = .ok (.invokestatic 129, 3) := by decide +kernel
theorem dX8_readsHost_131 : decode cX8_readsHost 131 = .ok (.aload_n 0, 1) := by decide +kernel
theorem dX8_readsHost_132 : decode cX8_readsHost 132 = .ok (.getfield 92, 3) := by decide +kernel
theorem dX8_readsHost_135 : decode cX8_readsHost 135 = .ok (.iastore, 1) := by decide +kernel
theorem dX8_readsHost_136 : decode cX8_readsHost 136 = .ok (.aload_n 0, 1) := by decide +kernel
theorem dX8_readsHost_137 : decode cX8_readsHost 137 = .ok (.invokevirtual 108, 3) := by decide +kernel
theorem dX8_readsHost_140 : decode cX8_readsHost 140 = .ok (.aload_n 0, 1) := by decide +kernel
theorem dX8_readsHost_141 : decode cX8_readsHost 141 = .ok (.getfield 17, 3) := by decide +kernel
theorem dX8_readsHost_144 : decode cX8_readsHost 144 = .ok (.iload_n 1, 1) := by decide +kernel
theorem dX8_readsHost_145 : decode cX8_readsHost 145 = .ok (.iconst 2, 1) := by decide +kernel
theorem dX8_readsHost_146 : decode cX8_readsHost 146 = .ok (.invokestatic 129, 3) := by decide +kernel
theorem dX8_readsHost_149 : decode cX8_readsHost 149 = .ok (.aload_n 0, 1) := by decide +kernel
theorem dX8_readsHost_150 : decode cX8_readsHost 150 = .ok (.ldc2_w 163, 3) := by decide +kernel
theorem dX8_readsHost_153 : decode cX8_readsHost 153 = .ok (.invokevirtual 135, 3) := by decide +kernel
theorem dX8_readsHost_156 : decode cX8_readsHost 156 = .ok (.ifCond .eq 7, 3) := by decide +kernel
theorem dX8_readsHost_159 : decode cX8_readsHost 159 = .ok (.iconst 1, 1) := by decide +kernel
theorem dX8_readsHost_160 : decode cX8_readsHost 160 = .ok (.goto 4, 3) := by decide +kernel
theorem dX8_readsHost_163 : decode cX8_readsHost 163 = .ok (.iconst 0, 1) := by decide +kernel
theorem dX8_readsHost_164 : decode cX8_readsHost 164 = .ok (.iastore, 1) := by decide +kernel
theorem dX8_readsHost_165 : decode cX8_readsHost 165 = .ok (.aload_n 0, 1) := by decide +kernel
theorem dX8_readsHost_166 : decode cX8_readsHost 166 = .ok (.getfield 17, 3) := by decide +kernel
theorem dX8_readsHost_169 : decode cX8_readsHost 169 = .ok (.iconst 0, 1) := by decide +kernel
theorem dX8_readsHost_170 : decode cX8_readsHost 170 = .ok (.iload_n 1, 1) := by decide +kernel
theorem dX8_readsHost_171 : decode cX8_readsHost 171 = .ok (.iconst 1, 1) := by decide +kernel
theorem dX8_readsHost_172 : decode cX8_readsHost 172 = .ok (.iadd, 1) := by decide +kernel
theorem dX8_readsHost_173 : decode cX8_readsHost 173 = .ok (.iastore, 1) := by decide +kernel
theorem dX8_readsHost_174 : decode cX8_readsHost 174 = .ok (.return_, 1) := by decide +kernel
theorem dX8_side_0 : decode cX8_side 0 = .ok (.aload_n 0, 1) := by decide +kernel
theorem dX8_side_1 : decode cX8_side 1 = .ok (.ldc2_w 165, 3) := by decide +kernel
theorem dX8_side_4 : decode cX8_side 4 = .ok (.invokevirtual 135, 3) := by decide +kernel
theorem dX8_side_7 : decode cX8_side 7 = .ok (.ifCond .eq 7, 3) := by decide +kernel
theorem dX8_side_10 : decode cX8_side 10 = .ok (.iconst 0, 1) := by decide +kernel
theorem dX8_side_11 : decode cX8_side 11 = .ok (.goto 11, 3) := by decide +kernel
theorem dX8_side_14 : decode cX8_side 14 = .ok (.aload_n 0, 1) := by decide +kernel
theorem dX8_side_15 : decode cX8_side 15 = .ok (.iconst 1, 1) := by decide +kernel
theorem dX8_side_16 : decode cX8_side 16 = .ok (.sipush 250, 3) := by decide +kernel
theorem dX8_side_19 : decode cX8_side 19 = .ok (.invokevirtual 140, 3) := by decide +kernel
theorem dX8_side_22 : decode cX8_side 22 = .ok (.ireturn, 1) := by decide +kernel
theorem dX8_readsRule_0 : decode cX8_readsRule 0 = .ok (.aload_n 0, 1) := by decide +kernel
theorem dX8_readsRule_1 : decode cX8_readsRule 1 = .ok (.getfield 17, 3) := by decide +kernel
theorem dX8_readsRule_4 : decode cX8_readsRule 4 = .ok (.iconst 1, 1) := by decide +kernel
theorem dX8_readsRule_5 : decode cX8_readsRule 5 = .ok (.iaload, 1) := by decide +kernel
theorem dX8_readsRule_6 : decode cX8_readsRule 6 = .ok (.istore_n 1, 1) := by decide +kernel
theorem dX8_readsRule_7 : decode cX8_readsRule 7 = .ok (.iload_n 1, 1) := by decide +kernel
theorem dX8_readsRule_8 : decode cX8_readsRule 8 = .ok (.bipush 30, 2) := by decide +kernel
theorem dX8_readsRule_10 : decode cX8_readsRule 10 = .ok (.if_icmp .ne 10, 3) := by decide +kernel
theorem dX8_readsRule_13 : decode cX8_readsRule 13 = .ok (.aload_n 0, 1) := by decide +kernel
theorem dX8_readsRule_14 : decode cX8_readsRule 14 = .ok (.iconst 3, 1) := by decide +kernel
theorem dX8_readsRule_15 : decode cX8_readsRule 15 = .ok (.invokevirtual 122, 3) := by decide +kernel
theorem dX8_readsRule_18 : decode cX8_readsRule 18 = .ok (.pop, 1) := by decide +kernel
theorem dX8_readsRule_19 : decode cX8_readsRule 19 = .ok (.return_, 1) := by decide +kernel
theorem dX8_readsRule_20 : decode cX8_readsRule 20 = .ok (.aload_n 0, 1) := by decide +kernel
theorem dX8_readsRule_21 : decode cX8_readsRule 21 = .ok (.invokevirtual 108, 3) := by decide +kernel
theorem dX8_readsRule_24 : decode cX8_readsRule 24 = .ok (.aload_n 0, 1) := by decide +kernel
theorem dX8_readsRule_25 : decode cX8_readsRule 25 = .ok (.getfield 17, 3) := by decide +kernel
theorem dX8_readsRule_28 : decode cX8_readsRule 28 = .ok (.iload_n 1, 1) := by decide +kernel
theorem dX8_readsRule_29 : decode cX8_readsRule 29 = .ok (.iconst 0, 1) := by decide +kernel
theorem dX8_readsRule_30 : decode cX8_readsRule 30 = .ok (.invokestatic 167, 3) := by decide +kernel
theorem dX8_readsRule_33 : decode cX8_readsRule 33 = .ok (.aload_n 0, 1) := by decide +kernel
theorem dX8_readsRule_34 : decode cX8_readsRule 34 = .ok (.iconst 0, 1) := by decide +kernel
theorem dX8_readsRule_35 : decode cX8_readsRule 35 = .ok (.iconst 1, 1) := by decide +kernel
theorem dX8_readsRule_36 : decode cX8_readsRule 36 = .ok (.invokevirtual 140, 3) := by decide +kernel
theorem dX8_readsRule_39 : decode cX8_readsRule 39 = .ok (.iastore, 1) := by decide +kernel
theorem dX8_readsRule_40 : decode cX8_readsRule 40 = .ok (.aload_n 0, 1) := by decide +kernel
theorem dX8_readsRule_41 : decode cX8_readsRule 41 = .ok (.ldc2_w 170, 3) := by decide +kernel
theorem dX8_readsRule_44 : decode cX8_readsRule 44 = .ok (.invokevirtual 115, 3) := by decide +kernel
theorem dX8_readsRule_47 : decode cX8_readsRule 47 = .ok (.ifCond .eq 17, 3) := by decide +kernel
theorem dX8_readsRule_50 : decode cX8_readsRule 50 = .ok (.aload_n 0, 1) := by decide +kernel
theorem dX8_readsRule_51 : decode cX8_readsRule 51 = .ok (.getfield 17, 3) := by decide +kernel
theorem dX8_readsRule_54 : decode cX8_readsRule 54 = .ok (.iload_n 1, 1) := by decide +kernel
theorem dX8_readsRule_55 : decode cX8_readsRule 55 = .ok (.iconst 1, 1) := by decide +kernel
theorem dX8_readsRule_56 : decode cX8_readsRule 56 = .ok (.invokestatic 167, 3) := by decide +kernel
theorem dX8_readsRule_59 : decode cX8_readsRule 59 = .ok (.iconst 1, 1) := by decide +kernel
theorem dX8_readsRule_60 : decode cX8_readsRule 60 = .ok (.iastore, 1) := by decide +kernel
theorem dX8_readsRule_61 : decode cX8_readsRule 61 = .ok (.goto 33, 3) := by decide +kernel
theorem dX8_readsRule_64 : decode cX8_readsRule 64 = .ok (.aload_n 0, 1) := by decide +kernel
theorem dX8_readsRule_65 : decode cX8_readsRule 65 = .ok (.ldc2_w 172, 3) := by decide +kernel
theorem dX8_readsRule_68 : decode cX8_readsRule 68 = .ok (.invokevirtual 115, 3) := by decide +kernel
theorem dX8_readsRule_71 : decode cX8_readsRule 71 = .ok (.ifCond .eq 17, 3) := by decide +kernel
theorem dX8_readsRule_74 : decode cX8_readsRule 74 = .ok (.aload_n 0, 1) := by decide +kernel
theorem dX8_readsRule_75 : decode cX8_readsRule 75 = .ok (.getfield 17, 3) := by decide +kernel
theorem dX8_readsRule_78 : decode cX8_readsRule 78 = .ok (.iload_n 1, 1) := by decide +kernel
theorem dX8_readsRule_79 : decode cX8_readsRule 79 = .ok (.iconst 1, 1) := by decide +kernel
theorem dX8_readsRule_80 : decode cX8_readsRule 80 = .ok (.invokestatic 167, 3) := by decide +kernel
theorem dX8_readsRule_83 : decode cX8_readsRule 83 = .ok (.iconst 0, 1) := by decide +kernel
theorem dX8_readsRule_84 : decode cX8_readsRule 84 = .ok (.iastore, 1) := by decide +kernel
theorem dX8_readsRule_85 : decode cX8_readsRule 85 = .ok (.goto 9, 3) := by decide +kernel
theorem dX8_readsRule_88 : decode cX8_readsRule 88 = .ok (.aload_n 0, 1) := by decide +kernel
theorem dX8_readsRule_89 : decode cX8_readsRule 89 = .ok (.iconst 1, 1) := by decide +kernel
theorem dX8_readsRule_90 : decode cX8_readsRule 90 = .ok (.invokevirtual 122, 3) := by decide +kernel
theorem dX8_readsRule_93 : decode cX8_readsRule 93 = .ok (.pop, 1) := by decide +kernel
theorem dX8_readsRule_94 : decode cX8_readsRule 94 = .ok (.aload_n 0, 1) := by decide +kernel
theorem dX8_readsRule_95 : decode cX8_readsRule 95 = .ok (.invokevirtual 111, 3) := by decide +kernel
theorem dX8_readsRule_98 : decode cX8_readsRule 98 = .ok (.ifCond .ne 4, 3) := by decide +kernel
theorem dX8_readsRule_101 : decode cX8_readsRule 101 = .ok (.return_, 1) := by decide +kernel
theorem dX8_readsRule_102 : decode cX8_readsRule 102 = .ok (.aload_n 0, 1) := by decide +kernel
theorem dX8_readsRule_103 : decode cX8_readsRule 103 = .ok (.invokevirtual 108, 3) := by decide +kernel
theorem dX8_readsRule_106 : decode cX8_readsRule 106 = .ok (.aload_n 0, 1) := by decide +kernel
theorem dX8_readsRule_107 : decode cX8_readsRule 107 = .ok (.getfield 17, 3) := by decide +kernel
theorem dX8_readsRule_110 : decode cX8_readsRule 110 = .ok (.iload_n 1, 1) := by decide +kernel
theorem dX8_readsRule_111 : decode cX8_readsRule 111 = .ok (.iconst 2, 1) := by decide +kernel
theorem dX8_readsRule_112 : decode cX8_readsRule 112 = .ok (.invokestatic 167, 3) := by decide +kernel
theorem dX8_readsRule_115 : decode cX8_readsRule 115 = .ok (.aload_n 0, 1) := by decide +kernel
theorem dX8_readsRule_116 : decode cX8_readsRule 116 = .ok (.invokevirtual 174, 3) := by decide +kernel
theorem dX8_readsRule_119 : decode cX8_readsRule 119 = .ok (.iastore, 1) := by decide +kernel
theorem dX8_readsRule_120 : decode cX8_readsRule 120 = .ok (.aload_n 0, 1) := by decide +kernel
theorem dX8_readsRule_121 : decode cX8_readsRule 121 = .ok (.getfield 17, 3) := by decide +kernel
theorem dX8_readsRule_124 : decode cX8_readsRule 124 = .ok (.iload_n 1, 1) := by decide +kernel
theorem dX8_readsRule_125 : decode cX8_readsRule 125 = .ok (.iconst 3, 1) := by decide +kernel
theorem dX8_readsRule_126 : decode cX8_readsRule 126 = .ok (.invokestatic 167, 3) := by decide +kernel
theorem dX8_readsRule_129 : decode cX8_readsRule 129 = .ok (.aload_n 0, 1) := by decide +kernel
theorem dX8_readsRule_130 : decode cX8_readsRule 130 = .ok (.invokevirtual 174, 3) := by decide +kernel
theorem dX8_readsRule_133 : decode cX8_readsRule 133 = .ok (.iastore, 1) := by decide +kernel
theorem dX8_readsRule_134 : decode cX8_readsRule 134 = .ok (.aload_n 0, 1) := by decide +kernel
theorem dX8_readsRule_135 : decode cX8_readsRule 135 = .ok (.invokevirtual 111, 3) := by decide +kernel
theorem dX8_readsRule_138 : decode cX8_readsRule 138 = .ok (.ifCond .eq 12, 3) := by decide +kernel
theorem dX8_readsRule_141 : decode cX8_readsRule 141 = .ok (.aload_n 0, 1) := by decide +kernel
theorem dX8_readsRule_142 : decode cX8_readsRule 142 = .ok (.getfield 17, 3) := by decide +kernel
theorem dX8_readsRule_145 : decode cX8_readsRule 145 = .ok (.iconst 1, 1) := by decide +kernel
theorem dX8_readsRule_146 : decode cX8_readsRule 146 = .ok (.iload_n 1, 1) := by decide +kernel
theorem dX8_readsRule_147 : decode cX8_readsRule 147 = .ok (.iconst 1, 1) := by decide +kernel
theorem dX8_readsRule_148 : decode cX8_readsRule 148 = .ok (.iadd, 1) := by decide +kernel
theorem dX8_readsRule_149 : decode cX8_readsRule 149 = .ok (.iastore, 1) := by decide +kernel
theorem dX8_readsRule_150 : decode cX8_readsRule 150 = .ok (.return_, 1) := by decide +kernel
theorem dX8_plansIn_0 : decode cX8_plansIn 0 = .ok (.iconst 0, 1) := by decide +kernel
theorem dX8_plansIn_1 : decode cX8_plansIn 1 = .ok (.istore_n 3, 1) := by decide +kernel
theorem dX8_plansIn_2 : decode cX8_plansIn 2 = .ok (.iconst 0, 1) := by decide +kernel
theorem dX8_plansIn_3 : decode cX8_plansIn 3 = .ok (.istore 4, 2) := by decide +kernel
theorem dX8_plansIn_5 : decode cX8_plansIn 5 = .ok (.iload 4, 2) := by decide +kernel
theorem dX8_plansIn_7 : decode cX8_plansIn 7 = .ok (.aload_n 1, 1) := by decide +kernel
theorem dX8_plansIn_8 : decode cX8_plansIn 8 = .ok (.iconst 0, 1) := by decide +kernel
theorem dX8_plansIn_9 : decode cX8_plansIn 9 = .ok (.iaload, 1) := by decide +kernel
theorem dX8_plansIn_10 : decode cX8_plansIn 10 = .ok (.if_icmp .ge 29, 3) := by decide +kernel
theorem dX8_plansIn_13 : decode cX8_plansIn 13 = .ok (.iload_n 3, 1) := by decide +kernel
theorem dX8_plansIn_14 : decode cX8_plansIn 14 = .ok (.aload_n 1, 1) := by decide +kernel
theorem dX8_plansIn_15 : decode cX8_plansIn 15 = .ok (.iload 4, 2) := by decide +kernel
theorem dX8_plansIn_17 : decode cX8_plansIn 17 = .ok (.iconst 4, 1) := by decide +kernel
theorem dX8_plansIn_18 : decode cX8_plansIn 18 = .ok (.invokestatic 129, 3) := by decide +kernel
theorem dX8_plansIn_21 : decode cX8_plansIn 21 = .ok (.iaload, 1) := by decide +kernel
theorem dX8_plansIn_22 : decode cX8_plansIn 22 = .ok (.iload_n 2, 1) := by decide +kernel
theorem dX8_plansIn_23 : decode cX8_plansIn 23 = .ok (.if_icmp .ne 7, 3) := by decide +kernel
theorem dX8_plansIn_26 : decode cX8_plansIn 26 = .ok (.iconst 1, 1) := by decide +kernel
theorem dX8_plansIn_27 : decode cX8_plansIn 27 = .ok (.goto 4, 3) := by decide +kernel
theorem dX8_plansIn_30 : decode cX8_plansIn 30 = .ok (.iconst 0, 1) := by decide +kernel
theorem dX8_plansIn_31 : decode cX8_plansIn 31 = .ok (.iadd, 1) := by decide +kernel
theorem dX8_plansIn_32 : decode cX8_plansIn 32 = .ok (.istore_n 3, 1) := by decide +kernel
theorem dX8_plansIn_33 : decode cX8_plansIn 33 = .ok (.iinc 4 1, 3) := by decide +kernel
theorem dX8_plansIn_36 : decode cX8_plansIn 36 = .ok (.goto (-31), 3) := by decide +kernel
theorem dX8_plansIn_39 : decode cX8_plansIn 39 = .ok (.iload_n 3, 1) := by decide +kernel
theorem dX8_plansIn_40 : decode cX8_plansIn 40 = .ok (.ireturn, 1) := by decide +kernel
theorem dX8_readsMove_0 : decode cX8_readsMove 0 = .ok (.aload_n 0, 1) := by decide +kernel
theorem dX8_readsMove_1 : decode cX8_readsMove 1 = .ok (.invokevirtual 111, 3) := by decide +kernel
theorem dX8_readsMove_4 : decode cX8_readsMove 4 = .ok (.ifCond .ne 4, 3) := by decide +kernel
theorem dX8_readsMove_7 : decode cX8_readsMove 7 = .ok (.return_, 1) := by decide +kernel
theorem dX8_readsMove_8 : decode cX8_readsMove 8 = .ok (.aload_n 0, 1) := by decide +kernel
theorem dX8_readsMove_9 : decode cX8_readsMove 9 = .ok (.getfield 89, 3) := by decide +kernel
theorem dX8_readsMove_12 : decode cX8_readsMove 12 = .ok (.iconst 1, 1) := by decide +kernel
theorem dX8_readsMove_13 : decode cX8_readsMove 13 = .ok (.if_icmp .ne 10, 3) := by decide +kernel
theorem dX8_readsMove_16 : decode cX8_readsMove 16 = .ok (.aload_n 0, 1) := by decide +kernel
theorem dX8_readsMove_17 : decode cX8_readsMove 17 = .ok (.invokevirtual 150, 3) := by decide +kernel
theorem dX8_readsMove_20 : decode cX8_readsMove 20 = .ok (.goto 4, 3) := by decide +kernel
theorem dX8_readsMove_23 : decode cX8_readsMove 23 = .ok (.iconst (-1), 1) := by decide +kernel
theorem dX8_readsMove_24 : decode cX8_readsMove 24 = .ok (.istore_n 1, 1) := by decide +kernel
theorem dX8_readsMove_25 : decode cX8_readsMove 25 = .ok (.aload_n 0, 1) := by decide +kernel
theorem dX8_readsMove_26 : decode cX8_readsMove 26 = .ok (.getfield 89, 3) := by decide +kernel
theorem dX8_readsMove_29 : decode cX8_readsMove 29 = .ok (.iconst 1, 1) := by decide +kernel
theorem dX8_readsMove_30 : decode cX8_readsMove 30 = .ok (.if_icmp .eq 12, 3) := by decide +kernel
theorem dX8_readsMove_33 : decode cX8_readsMove 33 = .ok (.aload_n 0, 1) := by decide +kernel
theorem dX8_readsMove_34 : decode cX8_readsMove 34 = .ok (.iconst 1, 1) := by decide +kernel
theorem dX8_readsMove_35 : decode cX8_readsMove 35 = .ok (.invokevirtual 122, 3) := by decide +kernel
theorem dX8_readsMove_38 : decode cX8_readsMove 38 = .ok (.pop, 1) := by decide +kernel
theorem dX8_readsMove_39 : decode cX8_readsMove 39 = .ok (.goto 41, 3) := by decide +kernel
theorem dX8_readsMove_42 : decode cX8_readsMove 42 = .ok (.iload_n 1, 1) := by decide +kernel
theorem dX8_readsMove_43 : decode cX8_readsMove 43 = .ok (.iconst (-1), 1) := by decide +kernel
theorem dX8_readsMove_44 : decode cX8_readsMove 44 = .ok (.if_icmp .eq 30, 3) := by decide +kernel
theorem dX8_readsMove_47 : decode cX8_readsMove 47 = .ok (.aload_n 0, 1) := by decide +kernel
theorem dX8_readsMove_48 : decode cX8_readsMove 48 = .ok (.getfield 17, 3) := by decide +kernel
theorem dX8_readsMove_51 : decode cX8_readsMove 51 = .ok (.iload_n 1, 1) := by decide +kernel
theorem dX8_readsMove_52 : decode cX8_readsMove 52 = .ok (.iconst 2, 1) := by decide +kernel
theorem dX8_readsMove_53 : decode cX8_readsMove 53 = .ok (.invokestatic 129, 3) := by decide +kernel
theorem dX8_readsMove_56 : decode cX8_readsMove 56 = .ok (.iaload, 1) := by decide +kernel
theorem dX8_readsMove_57 : decode cX8_readsMove 57 = .ok (.iconst 1, 1) := by decide +kernel
theorem dX8_readsMove_58 : decode cX8_readsMove 58 = .ok (.if_icmp .eq 16, 3) := by decide +kernel
theorem dX8_readsMove_61 : decode cX8_readsMove 61 = .ok (.aload_n 0, 1) := by decide +kernel
theorem dX8_readsMove_62 : decode cX8_readsMove 62 = .ok (.getfield 17, 3) := by decide +kernel
theorem dX8_readsMove_65 : decode cX8_readsMove 65 = .ok (.iload_n 1, 1) := by decide +kernel
theorem dX8_readsMove_66 : decode cX8_readsMove 66 = .ok (.iconst 4, 1) := by decide +kernel
theorem dX8_readsMove_67 : decode cX8_readsMove 67 = .ok (.invokestatic 129, 3) := by decide +kernel
theorem dX8_readsMove_70 : decode cX8_readsMove 70 = .ok (.iaload, 1) := by decide +kernel
theorem dX8_readsMove_71 : decode cX8_readsMove 71 = .ok (.ifCond .eq 9, 3) := by decide +kernel
theorem dX8_readsMove_74 : decode cX8_readsMove 74 = .ok (.aload_n 0, 1) := by decide +kernel
theorem dX8_readsMove_75 : decode cX8_readsMove 75 = .ok (.iconst 4, 1) := by decide +kernel
theorem dX8_readsMove_76 : decode cX8_readsMove 76 = .ok (.invokevirtual 122, 3) := by decide +kernel
theorem dX8_readsMove_79 : decode cX8_readsMove 79 = .ok (.pop, 1) := by decide +kernel
theorem dX8_readsMove_80 : decode cX8_readsMove 80 = .ok (.aload_n 0, 1) := by decide +kernel
theorem dX8_readsMove_81 : decode cX8_readsMove 81 = .ok (.invokevirtual 111, 3) := by decide +kernel
theorem dX8_readsMove_84 : decode cX8_readsMove 84 = .ok (.ifCond .ne 4, 3) := by decide +kernel
theorem dX8_readsMove_87 : decode cX8_readsMove 87 = .ok (.return_, 1) := by decide +kernel
theorem dX8_readsMove_88 : decode cX8_readsMove 88 = .ok (.aload_n 0, 1) := by decide +kernel
theorem dX8_readsMove_89 : decode cX8_readsMove 89 = .ok (.invokevirtual 108, 3) := by decide +kernel
theorem dX8_readsMove_92 : decode cX8_readsMove 92 = .ok (.aload_n 0, 1) := by decide +kernel
theorem dX8_readsMove_93 : decode cX8_readsMove 93 = .ok (.iconst 1, 1) := by decide +kernel
theorem dX8_readsMove_94 : decode cX8_readsMove 94 = .ok (.sipush 250, 3) := by decide +kernel
theorem dX8_readsMove_97 : decode cX8_readsMove 97 = .ok (.invokevirtual 140, 3) := by decide +kernel
theorem dX8_readsMove_100 : decode cX8_readsMove 100 = .ok (.istore_n 2, 1) := by decide +kernel
theorem dX8_readsMove_101 : decode cX8_readsMove 101 = .ok (.aload_n 0, 1) := by decide +kernel
theorem dX8_readsMove_102 : decode cX8_readsMove 102 = .ok (.invokevirtual 111, 3) := by decide +kernel
theorem dX8_readsMove_105 : decode cX8_readsMove 105 = .ok (.ifCond .ne 4, 3) := by decide +kernel
theorem dX8_readsMove_108 : decode cX8_readsMove 108 = .ok (.return_, 1) := by decide +kernel
theorem dX8_readsMove_109 : decode cX8_readsMove 109 = .ok (.aload_n 0, 1) := by decide +kernel
theorem dX8_readsMove_110 : decode cX8_readsMove 110 = .ok (.getfield 89, 3) := by decide +kernel
theorem dX8_readsMove_113 : decode cX8_readsMove 113 = .ok (.iconst 2, 1) := by decide +kernel
theorem dX8_readsMove_114 : decode cX8_readsMove 114 = .ok (.if_icmp .eq 12, 3) := by decide +kernel
theorem dX8_readsMove_117 : decode cX8_readsMove 117 = .ok (.aload_n 0, 1) := by decide +kernel
theorem dX8_readsMove_118 : decode cX8_readsMove 118 = .ok (.iconst 1, 1) := by decide +kernel
theorem dX8_readsMove_119 : decode cX8_readsMove 119 = .ok (.invokevirtual 122, 3) := by decide +kernel
theorem dX8_readsMove_122 : decode cX8_readsMove 122 = .ok (.pop, 1) := by decide +kernel
theorem dX8_readsMove_123 : decode cX8_readsMove 123 = .ok (.goto 54, 3) := by decide +kernel
theorem dX8_readsMove_126 : decode cX8_readsMove 126 = .ok (.aload_n 0, 1) := by decide +kernel
theorem dX8_readsMove_127 : decode cX8_readsMove 127 = .ok (.getfield 92, 3) := by decide +kernel
theorem dX8_readsMove_130 : decode cX8_readsMove 130 = .ok (.i2l, 1) := by decide +kernel
theorem dX8_readsMove_131 : decode cX8_readsMove 131 = .ok (.lconst 1, 1) := by decide +kernel
theorem dX8_readsMove_132 : decode cX8_readsMove 132 = .ok (.ldc2_w 177, 3) := by decide +kernel
theorem dX8_readsMove_135 : decode cX8_readsMove 135 = .ok (.invokestatic 125, 3) := by decide +kernel
theorem dX8_readsMove_138 : decode cX8_readsMove 138 = .ok (.ifCond .ne 12, 3) := by decide +kernel
theorem dX8_readsMove_141 : decode cX8_readsMove 141 = .ok (.aload_n 0, 1) := by decide +kernel
theorem dX8_readsMove_142 : decode cX8_readsMove 142 = .ok (.iconst 2, 1) := by decide +kernel
theorem dX8_readsMove_143 : decode cX8_readsMove 143 = .ok (.invokevirtual 122, 3) := by decide +kernel
theorem dX8_readsMove_146 : decode cX8_readsMove 146 = .ok (.pop, 1) := by decide +kernel
theorem dX8_readsMove_147 : decode cX8_readsMove 147 = .ok (.goto 30, 3) := by decide +kernel
theorem dX8_readsMove_150 : decode cX8_readsMove 150 = .ok (.aload_n 0, 1) := by decide +kernel
theorem dX8_readsMove_151 : decode cX8_readsMove 151 = .ok (.aload_n 0, 1) := by decide +kernel
theorem dX8_readsMove_152 : decode cX8_readsMove 152 = .ok (.getfield 17, 3) := by decide +kernel
theorem dX8_readsMove_155 : decode cX8_readsMove 155 = .ok (.aload_n 0, 1) := by decide +kernel
theorem dX8_readsMove_156 : decode cX8_readsMove 156 = .ok (.getfield 92, 3) := by decide +kernel
theorem dX8_readsMove_159 : decode cX8_readsMove 159 = .ok (.invokevirtual 179, 3) := by decide +kernel
theorem dX8_readsMove_162 : decode cX8_readsMove 162 = .ok (.aload_n 0, 1) := by decide +kernel
theorem dX8_readsMove_163 : decode cX8_readsMove 163 = .ok (.getfield 17, 3) := by decide +kernel
theorem dX8_readsMove_166 : decode cX8_readsMove 166 = .ok (.iconst 4, 1) := by decide +kernel
theorem dX8_readsMove_167 : decode cX8_readsMove 167 = .ok (.iaload, 1) := by decide +kernel
theorem dX8_readsMove_168 : decode cX8_readsMove 168 = .ok (.if_icmp .lt 9, 3) := by decide +kernel
theorem dX8_readsMove_171 : decode cX8_readsMove 171 = .ok (.aload_n 0, 1) := by decide +kernel
theorem dX8_readsMove_172 : decode cX8_readsMove 172 = .ok (.iconst 4, 1) := by decide +kernel
theorem dX8_readsMove_173 : decode cX8_readsMove 173 = .ok (.invokevirtual 122, 3) := by decide +kernel
theorem dX8_readsMove_176 : decode cX8_readsMove 176 = .ok (.pop, 1) := by decide +kernel
theorem dX8_readsMove_177 : decode cX8_readsMove 177 = .ok (.aload_n 0, 1) := by decide +kernel
theorem dX8_readsMove_178 : decode cX8_readsMove 178 = .ok (.invokevirtual 111, 3) := by decide +kernel
theorem dX8_readsMove_181 : decode cX8_readsMove 181 = .ok (.ifCond .ne 4, 3) := by decide +kernel
theorem dX8_readsMove_184 : decode cX8_readsMove 184 = .ok (.return_, 1) := by decide +kernel
theorem dX8_readsMove_185 : decode cX8_readsMove 185 = .ok (.aload_n 0, 1) := by decide +kernel
theorem dX8_readsMove_186 : decode cX8_readsMove 186 = .ok (.getfield 17, 3) := by decide +kernel
theorem dX8_readsMove_189 : decode cX8_readsMove 189 = .ok (.iload_n 1, 1) := by decide +kernel
theorem dX8_readsMove_190 : decode cX8_readsMove 190 = .ok (.iconst 3, 1) := by decide +kernel
theorem dX8_readsMove_191 : decode cX8_readsMove 191 = .ok (.invokestatic 129, 3) := by decide +kernel
theorem dX8_readsMove_194 : decode cX8_readsMove 194 = .ok (.iload_n 2, 1) := by decide +kernel
theorem dX8_readsMove_195 : decode cX8_readsMove 195 = .ok (.iastore, 1) := by decide +kernel
theorem dX8_readsMove_196 : decode cX8_readsMove 196 = .ok (.aload_n 0, 1) := by decide +kernel
theorem dX8_readsMove_197 : decode cX8_readsMove 197 = .ok (.getfield 17, 3) := by decide +kernel
theorem dX8_readsMove_200 : decode cX8_readsMove 200 = .ok (.iload_n 1, 1) := by decide +kernel
theorem dX8_readsMove_201 : decode cX8_readsMove 201 = .ok (.iconst 4, 1) := by decide +kernel
theorem dX8_readsMove_202 : decode cX8_readsMove 202 = .ok (.invokestatic 129, 3) := by decide +kernel
theorem dX8_readsMove_205 : decode cX8_readsMove 205 = .ok (.aload_n 0, 1) := by decide +kernel
theorem dX8_readsMove_206 : decode cX8_readsMove 206 = .ok (.getfield 92, 3) := by decide +kernel
theorem dX8_readsMove_209 : decode cX8_readsMove 209 = .ok (.iastore, 1) := by decide +kernel
theorem dX8_readsMove_210 : decode cX8_readsMove 210 = .ok (.aload_n 0, 1) := by decide +kernel
theorem dX8_readsMove_211 : decode cX8_readsMove 211 = .ok (.invokevirtual 108, 3) := by decide +kernel
theorem dX8_readsMove_214 : decode cX8_readsMove 214 = .ok (.return_, 1) := by decide +kernel
theorem dX8_readsAll_0 : decode cX8_readsAll 0 = .ok (.aload_n 0, 1) := by decide +kernel
theorem dX8_readsAll_1 : decode cX8_readsAll 1 = .ok (.invokevirtual 50, 3) := by decide +kernel
theorem dX8_readsAll_4 : decode cX8_readsAll 4 = .ok (.aload_n 0, 1) := by decide +kernel
theorem dX8_readsAll_5 : decode cX8_readsAll 5 = .ok (.invokevirtual 183, 3) := by decide +kernel
theorem dX8_readsAll_8 : decode cX8_readsAll 8 = .ok (.aload_n 0, 1) := by decide +kernel
theorem dX8_readsAll_9 : decode cX8_readsAll 9 = .ok (.invokevirtual 111, 3) := by decide +kernel
theorem dX8_readsAll_12 : decode cX8_readsAll 12 = .ok (.ifCond .eq 76, 3) := by decide +kernel
theorem dX8_readsAll_15 : decode cX8_readsAll 15 = .ok (.aload_n 0, 1) := by decide +kernel
theorem dX8_readsAll_16 : decode cX8_readsAll 16 = .ok (.getfield 89, 3) := by decide +kernel
theorem dX8_readsAll_19 : decode cX8_readsAll 19 = .ok (.ifCond .eq 69, 3) := by decide +kernel
theorem dX8_readsAll_22 : decode cX8_readsAll 22 = .ok (.aload_n 0, 1) := by decide +kernel
theorem dX8_readsAll_23 : decode cX8_readsAll 23 = .ok (.ldc2_w 186, 3) := by decide +kernel
theorem dX8_readsAll_26 : decode cX8_readsAll 26 = .ok (.invokevirtual 115, 3) := by decide +kernel
theorem dX8_readsAll_29 : decode cX8_readsAll 29 = .ok (.ifCond .eq 10, 3) := by decide +kernel
theorem dX8_readsAll_32 : decode cX8_readsAll 32 = .ok (.aload_n 0, 1) := by decide +kernel
theorem dX8_readsAll_33 : decode cX8_readsAll 33 = .ok (.invokevirtual 188, 3) := by decide +kernel
theorem dX8_readsAll_36 : decode cX8_readsAll 36 = .ok (.goto 43, 3) := by decide +kernel
theorem dX8_readsAll_39 : decode cX8_readsAll 39 = .ok (.aload_n 0, 1) := by decide +kernel
theorem dX8_readsAll_40 : decode cX8_readsAll 40 = .ok (.ldc2_w 191, 3) := by decide +kernel
theorem dX8_readsAll_43 : decode cX8_readsAll 43 = .ok (.invokevirtual 115, 3) := by decide +kernel
theorem dX8_readsAll_46 : decode cX8_readsAll 46 = .ok (.ifCond .eq 10, 3) := by decide +kernel
theorem dX8_readsAll_49 : decode cX8_readsAll 49 = .ok (.aload_n 0, 1) := by decide +kernel
theorem dX8_readsAll_50 : decode cX8_readsAll 50 = .ok (.invokevirtual 193, 3) := by decide +kernel
theorem dX8_readsAll_53 : decode cX8_readsAll 53 = .ok (.goto 26, 3) := by decide +kernel
theorem dX8_readsAll_56 : decode cX8_readsAll 56 = .ok (.aload_n 0, 1) := by decide +kernel
theorem dX8_readsAll_57 : decode cX8_readsAll 57 = .ok (.ldc2_w 196, 3) := by decide +kernel
theorem dX8_readsAll_60 : decode cX8_readsAll 60 = .ok (.invokevirtual 135, 3) := by decide +kernel
theorem dX8_readsAll_63 : decode cX8_readsAll 63 = .ok (.ifCond .eq 10, 3) := by decide +kernel
theorem dX8_readsAll_66 : decode cX8_readsAll 66 = .ok (.aload_n 0, 1) := by decide +kernel
theorem dX8_readsAll_67 : decode cX8_readsAll 67 = .ok (.invokevirtual 198, 3) := by decide +kernel
theorem dX8_readsAll_70 : decode cX8_readsAll 70 = .ok (.goto 9, 3) := by decide +kernel
theorem dX8_readsAll_73 : decode cX8_readsAll 73 = .ok (.aload_n 0, 1) := by decide +kernel
theorem dX8_readsAll_74 : decode cX8_readsAll 74 = .ok (.iconst 1, 1) := by decide +kernel
theorem dX8_readsAll_75 : decode cX8_readsAll 75 = .ok (.invokevirtual 122, 3) := by decide +kernel
theorem dX8_readsAll_78 : decode cX8_readsAll 78 = .ok (.pop, 1) := by decide +kernel
theorem dX8_readsAll_79 : decode cX8_readsAll 79 = .ok (.aload_n 0, 1) := by decide +kernel
theorem dX8_readsAll_80 : decode cX8_readsAll 80 = .ok (.bipush 59, 2) := by decide +kernel
theorem dX8_readsAll_82 : decode cX8_readsAll 82 = .ok (.invokevirtual 147, 3) := by decide +kernel
theorem dX8_readsAll_85 : decode cX8_readsAll 85 = .ok (.goto (-77), 3) := by decide +kernel
theorem dX8_readsAll_88 : decode cX8_readsAll 88 = .ok (.return_, 1) := by decide +kernel
theorem dX8_load_0 : decode cX8_load 0 = .ok (.aload_n 0, 1) := by decide +kernel
theorem dX8_load_1 : decode cX8_load 1 = .ok (.iconst 0, 1) := by decide +kernel
theorem dX8_load_2 : decode cX8_load 2 = .ok (.putfield 1, 3) := by decide +kernel
theorem dX8_load_5 : decode cX8_load 5 = .ok (.aload_n 0, 1) := by decide +kernel
theorem dX8_load_6 : decode cX8_load 6 = .ok (.iload_n 1, 1) := by decide +kernel
theorem dX8_load_7 : decode cX8_load 7 = .ok (.i2l, 1) := by decide +kernel
theorem dX8_load_8 : decode cX8_load 8 = .ok (.lconst 0, 1) := by decide +kernel
theorem dX8_load_9 : decode cX8_load 9 = .ok (.aload_n 0, 1) := by decide +kernel
theorem dX8_load_10 : decode cX8_load 10 = .ok (.getfield 57, 3) := by decide +kernel
theorem dX8_load_13 : decode cX8_load 13 = .ok (.i2l, 1) := by decide +kernel
theorem dX8_load_14 : decode cX8_load 14 = .ok (.invokestatic 125, 3) := by decide +kernel
theorem dX8_load_17 : decode cX8_load 17 = .ok (.iconst 1, 1) := by decide +kernel
theorem dX8_load_18 : decode cX8_load 18 = .ok (.invokevirtual 201, 3) := by decide +kernel
theorem dX8_load_21 : decode cX8_load 21 = .ok (.ifCond .eq 5, 3) := by decide +kernel
theorem dX8_load_24 : decode cX8_load 24 = .ok (.iconst 0, 1) := by decide +kernel
theorem dX8_load_25 : decode cX8_load 25 = .ok (.ireturn, 1) := by decide +kernel
theorem dX8_load_26 : decode cX8_load 26 = .ok (.aload_n 0, 1) := by decide +kernel
theorem dX8_load_27 : decode cX8_load 27 = .ok (.iload_n 1, 1) := by decide +kernel
theorem dX8_load_28 : decode cX8_load 28 = .ok (.invokevirtual 205, 3) := by decide +kernel
theorem dX8_load_31 : decode cX8_load 31 = .ok (.aload_n 0, 1) := by decide +kernel
theorem dX8_load_32 : decode cX8_load 32 = .ok (.invokevirtual 208, 3) := by decide +kernel
theorem dX8_load_35 : decode cX8_load 35 = .ok (.aload_n 0, 1) := by decide +kernel
theorem dX8_load_36 : decode cX8_load 36 = .ok (.invokevirtual 111, 3) := by decide +kernel
theorem dX8_load_39 : decode cX8_load 39 = .ok (.ifCond .ne 11, 3) := by decide +kernel
theorem dX8_load_42 : decode cX8_load 42 = .ok (.bipush (-10), 2) := by decide +kernel
theorem dX8_load_44 : decode cX8_load 44 = .ok (.aload_n 0, 1) := by decide +kernel
theorem dX8_load_45 : decode cX8_load 45 = .ok (.getfield 105, 3) := by decide +kernel
theorem dX8_load_48 : decode cX8_load 48 = .ok (.isub, 1) := by decide +kernel
theorem dX8_load_49 : decode cX8_load 49 = .ok (.ireturn, 1) := by decide +kernel
theorem dX8_load_50 : decode cX8_load 50 = .ok (.aload_n 0, 1) := by decide +kernel
theorem dX8_load_51 : decode cX8_load 51 = .ok (.getfield 17, 3) := by decide +kernel
theorem dX8_load_54 : decode cX8_load 54 = .ok (.iconst 0, 1) := by decide +kernel
theorem dX8_load_55 : decode cX8_load 55 = .ok (.aload_n 0, 1) := by decide +kernel
theorem dX8_load_56 : decode cX8_load 56 = .ok (.getfield 13, 3) := by decide +kernel
theorem dX8_load_59 : decode cX8_load 59 = .ok (.iconst 0, 1) := by decide +kernel
theorem dX8_load_60 : decode cX8_load 60 = .ok (.invokestatic 53, 3) := by decide +kernel
theorem dX8_load_63 : decode cX8_load 63 = .ok (.aload_n 0, 1) := by decide +kernel
theorem dX8_load_64 : decode cX8_load 64 = .ok (.iconst 0, 1) := by decide +kernel
theorem dX8_load_65 : decode cX8_load 65 = .ok (.putfield 211, 3) := by decide +kernel
theorem dX8_load_68 : decode cX8_load 68 = .ok (.aload_n 0, 1) := by decide +kernel
theorem dX8_load_69 : decode cX8_load 69 = .ok (.iconst 0, 1) := by decide +kernel
theorem dX8_load_70 : decode cX8_load 70 = .ok (.putfield 214, 3) := by decide +kernel
theorem dX8_load_73 : decode cX8_load 73 = .ok (.aload_n 0, 1) := by decide +kernel
theorem dX8_load_74 : decode cX8_load 74 = .ok (.getfield 13, 3) := by decide +kernel
theorem dX8_load_77 : decode cX8_load 77 = .ok (.iconst 0, 1) := by decide +kernel
theorem dX8_load_78 : decode cX8_load 78 = .ok (.iaload, 1) := by decide +kernel
theorem dX8_load_79 : decode cX8_load 79 = .ok (.ireturn, 1) := by decide +kernel
theorem dX8_of_0 : decode cX8_of 0 = .ok (.aload_n 0, 1) := by decide +kernel
theorem dX8_of_1 : decode cX8_of 1 = .ok (.getfield 13, 3) := by decide +kernel
theorem dX8_of_4 : decode cX8_of 4 = .ok (.iload_n 1, 1) := by decide +kernel
theorem dX8_of_5 : decode cX8_of 5 = .ok (.iload_n 2, 1) := by decide +kernel
theorem dX8_of_6 : decode cX8_of 6 = .ok (.invokestatic 129, 3) := by decide +kernel
theorem dX8_of_9 : decode cX8_of 9 = .ok (.iaload, 1) := by decide +kernel
theorem dX8_of_10 : decode cX8_of 10 = .ok (.ireturn, 1) := by decide +kernel
theorem dX8_latest_0 : decode cX8_latest 0 = .ok (.bipush 9, 2) := by decide +kernel
theorem dX8_latest_2 : decode cX8_latest 2 = .ok (.istore_n 2, 1) := by decide +kernel
theorem dX8_latest_3 : decode cX8_latest 3 = .ok (.iload_n 2, 1) := by decide +kernel
theorem dX8_latest_4 : decode cX8_latest 4 = .ok (.ifCond .le 23, 3) := by decide +kernel
theorem dX8_latest_7 : decode cX8_latest 7 = .ok (.aload_n 0, 1) := by decide +kernel
theorem dX8_latest_8 : decode cX8_latest 8 = .ok (.iload_n 1, 1) := by decide +kernel
theorem dX8_latest_9 : decode cX8_latest 9 = .ok (.bipush 14, 2) := by decide +kernel
theorem dX8_latest_11 : decode cX8_latest 11 = .ok (.iload_n 2, 1) := by decide +kernel
theorem dX8_latest_12 : decode cX8_latest 12 = .ok (.iadd, 1) := by decide +kernel
theorem dX8_latest_13 : decode cX8_latest 13 = .ok (.iconst 1, 1) := by decide +kernel
theorem dX8_latest_14 : decode cX8_latest 14 = .ok (.isub, 1) := by decide +kernel
theorem dX8_latest_15 : decode cX8_latest 15 = .ok (.invokevirtual 218, 3) := by decide +kernel
theorem dX8_latest_18 : decode cX8_latest 18 = .ok (.ifCond .ne 9, 3) := by decide +kernel
theorem dX8_latest_21 : decode cX8_latest 21 = .ok (.iinc 2 (-1), 3) := by decide +kernel
theorem dX8_latest_24 : decode cX8_latest 24 = .ok (.goto (-21), 3) := by decide +kernel
theorem dX8_latest_27 : decode cX8_latest 27 = .ok (.iload_n 2, 1) := by decide +kernel
theorem dX8_latest_28 : decode cX8_latest 28 = .ok (.ireturn, 1) := by decide +kernel
theorem dX8_keptAt_0 : decode cX8_keptAt 0 = .ok (.aload_n 0, 1) := by decide +kernel
theorem dX8_keptAt_1 : decode cX8_keptAt 1 = .ok (.iload_n 1, 1) := by decide +kernel
theorem dX8_keptAt_2 : decode cX8_keptAt 2 = .ok (.invokevirtual 221, 3) := by decide +kernel
theorem dX8_keptAt_5 : decode cX8_keptAt 5 = .ok (.istore_n 3, 1) := by decide +kernel
theorem dX8_keptAt_6 : decode cX8_keptAt 6 = .ok (.iload_n 3, 1) := by decide +kernel
theorem dX8_keptAt_7 : decode cX8_keptAt 7 = .ok (.ifCond .le 29, 3) := by decide +kernel
theorem dX8_keptAt_10 : decode cX8_keptAt 10 = .ok (.iload_n 2, 1) := by decide +kernel
theorem dX8_keptAt_11 : decode cX8_keptAt 11 = .ok (.iload_n 3, 1) := by decide +kernel
theorem dX8_keptAt_12 : decode cX8_keptAt 12 = .ok (.aload_n 0, 1) := by decide +kernel
theorem dX8_keptAt_13 : decode cX8_keptAt 13 = .ok (.getfield 13, 3) := by decide +kernel
theorem dX8_keptAt_16 : decode cX8_keptAt 16 = .ok (.iconst 3, 1) := by decide +kernel
theorem dX8_keptAt_17 : decode cX8_keptAt 17 = .ok (.iaload, 1) := by decide +kernel
theorem dX8_keptAt_18 : decode cX8_keptAt 18 = .ok (.iadd, 1) := by decide +kernel
theorem dX8_keptAt_19 : decode cX8_keptAt 19 = .ok (.if_icmp .ge 17, 3) := by decide +kernel
theorem dX8_keptAt_22 : decode cX8_keptAt 22 = .ok (.aload_n 0, 1) := by decide +kernel
theorem dX8_keptAt_23 : decode cX8_keptAt 23 = .ok (.iload_n 1, 1) := by decide +kernel
theorem dX8_keptAt_24 : decode cX8_keptAt 24 = .ok (.bipush 14, 2) := by decide +kernel
theorem dX8_keptAt_26 : decode cX8_keptAt 26 = .ok (.iload_n 3, 1) := by decide +kernel
theorem dX8_keptAt_27 : decode cX8_keptAt 27 = .ok (.iadd, 1) := by decide +kernel
theorem dX8_keptAt_28 : decode cX8_keptAt 28 = .ok (.iconst 1, 1) := by decide +kernel
theorem dX8_keptAt_29 : decode cX8_keptAt 29 = .ok (.isub, 1) := by decide +kernel
theorem dX8_keptAt_30 : decode cX8_keptAt 30 = .ok (.invokevirtual 218, 3) := by decide +kernel
theorem dX8_keptAt_33 : decode cX8_keptAt 33 = .ok (.goto 4, 3) := by decide +kernel
theorem dX8_keptAt_36 : decode cX8_keptAt 36 = .ok (.iconst 0, 1) := by decide +kernel
theorem dX8_keptAt_37 : decode cX8_keptAt 37 = .ok (.ireturn, 1) := by decide +kernel
theorem dX8_kept_0 : decode cX8_kept 0 = .ok (.aload_n 0, 1) := by decide +kernel
theorem dX8_kept_1 : decode cX8_kept 1 = .ok (.iload_n 1, 1) := by decide +kernel
theorem dX8_kept_2 : decode cX8_kept 2 = .ok (.aload_n 0, 1) := by decide +kernel
theorem dX8_kept_3 : decode cX8_kept 3 = .ok (.getfield 13, 3) := by decide +kernel
theorem dX8_kept_6 : decode cX8_kept 6 = .ok (.iconst 2, 1) := by decide +kernel
theorem dX8_kept_7 : decode cX8_kept 7 = .ok (.iaload, 1) := by decide +kernel
theorem dX8_kept_8 : decode cX8_kept 8 = .ok (.invokevirtual 224, 3) := by decide +kernel
theorem dX8_kept_11 : decode cX8_kept 11 = .ok (.ireturn, 1) := by decide +kernel
theorem dX8_holds_0 : decode cX8_holds 0 = .ok (.aload_n 0, 1) := by decide +kernel
theorem dX8_holds_1 : decode cX8_holds 1 = .ok (.iload_n 1, 1) := by decide +kernel
theorem dX8_holds_2 : decode cX8_holds 2 = .ok (.iconst 1, 1) := by decide +kernel
theorem dX8_holds_3 : decode cX8_holds 3 = .ok (.invokevirtual 218, 3) := by decide +kernel
theorem dX8_holds_6 : decode cX8_holds 6 = .ok (.iload_n 2, 1) := by decide +kernel
theorem dX8_holds_7 : decode cX8_holds 7 = .ok (.if_icmp .eq 12, 3) := by decide +kernel
theorem dX8_holds_10 : decode cX8_holds 10 = .ok (.aload_n 0, 1) := by decide +kernel
theorem dX8_holds_11 : decode cX8_holds 11 = .ok (.iload_n 1, 1) := by decide +kernel
theorem dX8_holds_12 : decode cX8_holds 12 = .ok (.invokevirtual 227, 3) := by decide +kernel
theorem dX8_holds_15 : decode cX8_holds 15 = .ok (.iload_n 2, 1) := by decide +kernel
theorem dX8_holds_16 : decode cX8_holds 16 = .ok (.if_icmp .ne 7, 3) := by decide +kernel
theorem dX8_holds_19 : decode cX8_holds 19 = .ok (.iconst 1, 1) := by decide +kernel
theorem dX8_holds_20 : decode cX8_holds 20 = .ok (.goto 4, 3) := by decide +kernel
theorem dX8_holds_23 : decode cX8_holds 23 = .ok (.iconst 0, 1) := by decide +kernel
theorem dX8_holds_24 : decode cX8_holds 24 = .ok (.ireturn, 1) := by decide +kernel
theorem dX8_areOfNet_0 : decode cX8_areOfNet 0 = .ok (.aload_n 0, 1) := by decide +kernel
theorem dX8_areOfNet_1 : decode cX8_areOfNet 1 = .ok (.getfield 13, 3) := by decide +kernel
theorem dX8_areOfNet_4 : decode cX8_areOfNet 4 = .ok (.bipush 7, 2) := by decide +kernel
theorem dX8_areOfNet_6 : decode cX8_areOfNet 6 = .ok (.iaload, 1) := by decide +kernel
theorem dX8_areOfNet_7 : decode cX8_areOfNet 7 = .ok (.iconst 1, 1) := by decide +kernel
theorem dX8_areOfNet_8 : decode cX8_areOfNet 8 = .ok (.if_icmp .eq 18, 3) := by decide +kernel
theorem dX8_areOfNet_11 : decode cX8_areOfNet 11 = .ok (.aload_n 0, 1) := by decide +kernel
theorem dX8_areOfNet_12 : decode cX8_areOfNet 12 = .ok (.iload_n 1, 1) := by decide +kernel
theorem dX8_areOfNet_13 : decode cX8_areOfNet 13 = .ok (.iconst 0, 1) := by decide +kernel
theorem dX8_areOfNet_14 : decode cX8_areOfNet 14 = .ok (.invokevirtual 218, 3) := by decide +kernel
theorem dX8_areOfNet_17 : decode cX8_areOfNet 17 = .ok (.aload_n 0, 1) := by decide +kernel
theorem dX8_areOfNet_18 : decode cX8_areOfNet 18 = .ok (.iload_n 2, 1) := by decide +kernel
theorem dX8_areOfNet_19 : decode cX8_areOfNet 19 = .ok (.iconst 0, 1) := by decide +kernel
theorem dX8_areOfNet_20 : decode cX8_areOfNet 20 = .ok (.invokevirtual 218, 3) := by decide +kernel
theorem dX8_areOfNet_23 : decode cX8_areOfNet 23 = .ok (.if_icmp .ne 7, 3) := by decide +kernel
theorem dX8_areOfNet_26 : decode cX8_areOfNet 26 = .ok (.iconst 1, 1) := by decide +kernel
theorem dX8_areOfNet_27 : decode cX8_areOfNet 27 = .ok (.goto 4, 3) := by decide +kernel
theorem dX8_areOfNet_30 : decode cX8_areOfNet 30 = .ok (.iconst 0, 1) := by decide +kernel
theorem dX8_areOfNet_31 : decode cX8_areOfNet 31 = .ok (.ireturn, 1) := by decide +kernel
theorem dX8_isOfNet_0 : decode cX8_isOfNet 0 = .ok (.aload_n 0, 1) := by decide +kernel
theorem dX8_isOfNet_1 : decode cX8_isOfNet 1 = .ok (.getfield 13, 3) := by decide +kernel
theorem dX8_isOfNet_4 : decode cX8_isOfNet 4 = .ok (.bipush 7, 2) := by decide +kernel
theorem dX8_isOfNet_6 : decode cX8_isOfNet 6 = .ok (.iaload, 1) := by decide +kernel
theorem dX8_isOfNet_7 : decode cX8_isOfNet 7 = .ok (.iconst 1, 1) := by decide +kernel
theorem dX8_isOfNet_8 : decode cX8_isOfNet 8 = .ok (.if_icmp .eq 13, 3) := by decide +kernel
theorem dX8_isOfNet_11 : decode cX8_isOfNet 11 = .ok (.aload_n 0, 1) := by decide +kernel
theorem dX8_isOfNet_12 : decode cX8_isOfNet 12 = .ok (.iload_n 1, 1) := by decide +kernel
theorem dX8_isOfNet_13 : decode cX8_isOfNet 13 = .ok (.iconst 0, 1) := by decide +kernel
theorem dX8_isOfNet_14 : decode cX8_isOfNet 14 = .ok (.invokevirtual 218, 3) := by decide +kernel
theorem dX8_isOfNet_17 : decode cX8_isOfNet 17 = .ok (.iload_n 2, 1) := by decide +kernel
theorem dX8_isOfNet_18 : decode cX8_isOfNet 18 = .ok (.if_icmp .ne 7, 3) := by decide +kernel
theorem dX8_isOfNet_21 : decode cX8_isOfNet 21 = .ok (.iconst 1, 1) := by decide +kernel
theorem dX8_isOfNet_22 : decode cX8_isOfNet 22 = .ok (.goto 4, 3) := by decide +kernel
theorem dX8_isOfNet_25 : decode cX8_isOfNet 25 = .ok (.iconst 0, 1) := by decide +kernel
theorem dX8_isOfNet_26 : decode cX8_isOfNet 26 = .ok (.ireturn, 1) := by decide +kernel
theorem dX8_twice_0 : decode cX8_twice 0 = .ok (.iconst 1, 1) := by decide +kernel
theorem dX8_twice_1 : decode cX8_twice 1 = .ok (.istore_n 1, 1) := by decide +kernel
theorem dX8_twice_2 : decode cX8_twice 2 = .ok (.iload_n 1, 1) := by decide +kernel
theorem dX8_twice_3 : decode cX8_twice 3 = .ok (.sipush 250, 3) := by decide +kernel
theorem dX8_twice_6 : decode cX8_twice 6 = .ok (.if_icmp .gt 72, 3) := by decide +kernel
theorem dX8_twice_9 : decode cX8_twice 9 = .ok (.iconst 0, 1) := by decide +kernel
theorem dX8_twice_10 : decode cX8_twice 10 = .ok (.istore_n 2, 1) := by decide +kernel
theorem dX8_twice_11 : decode cX8_twice 11 = .ok (.iload_n 2, 1) := by decide +kernel
theorem dX8_twice_12 : decode cX8_twice 12 = .ok (.aload_n 0, 1) := by decide +kernel
theorem dX8_twice_13 : decode cX8_twice 13 = .ok (.getfield 13, 3) := by decide +kernel
theorem dX8_twice_16 : decode cX8_twice 16 = .ok (.iconst 0, 1) := by decide +kernel
theorem dX8_twice_17 : decode cX8_twice 17 = .ok (.iaload, 1) := by decide +kernel
theorem dX8_twice_18 : decode cX8_twice 18 = .ok (.if_icmp .ge 54, 3) := by decide +kernel
theorem dX8_twice_21 : decode cX8_twice 21 = .ok (.aload_n 0, 1) := by decide +kernel
theorem dX8_twice_22 : decode cX8_twice 22 = .ok (.iload_n 2, 1) := by decide +kernel
theorem dX8_twice_23 : decode cX8_twice 23 = .ok (.iload_n 1, 1) := by decide +kernel
theorem dX8_twice_24 : decode cX8_twice 24 = .ok (.invokevirtual 230, 3) := by decide +kernel
theorem dX8_twice_27 : decode cX8_twice 27 = .ok (.ifCond .ne 6, 3) := by decide +kernel
theorem dX8_twice_30 : decode cX8_twice 30 = .ok (.goto 36, 3) := by decide +kernel
theorem dX8_twice_33 : decode cX8_twice 33 = .ok (.iconst 0, 1) := by decide +kernel
theorem dX8_twice_34 : decode cX8_twice 34 = .ok (.istore_n 3, 1) := by decide +kernel
theorem dX8_twice_35 : decode cX8_twice 35 = .ok (.iload_n 3, 1) := by decide +kernel
theorem dX8_twice_36 : decode cX8_twice 36 = .ok (.iload_n 2, 1) := by decide +kernel
theorem dX8_twice_37 : decode cX8_twice 37 = .ok (.if_icmp .ge 29, 3) := by decide +kernel
theorem dX8_twice_40 : decode cX8_twice 40 = .ok (.aload_n 0, 1) := by decide +kernel
theorem dX8_twice_41 : decode cX8_twice 41 = .ok (.iload_n 2, 1) := by decide +kernel
theorem dX8_twice_42 : decode cX8_twice 42 = .ok (.iload_n 3, 1) := by decide +kernel
theorem dX8_twice_43 : decode cX8_twice 43 = .ok (.invokevirtual 233, 3) := by decide +kernel
theorem dX8_twice_46 : decode cX8_twice 46 = .ok (.ifCond .eq 14, 3) := by decide +kernel
theorem dX8_twice_49 : decode cX8_twice 49 = .ok (.aload_n 0, 1) := by decide +kernel
theorem dX8_twice_50 : decode cX8_twice 50 = .ok (.iload_n 3, 1) := by decide +kernel
theorem dX8_twice_51 : decode cX8_twice 51 = .ok (.iload_n 1, 1) := by decide +kernel
theorem dX8_twice_52 : decode cX8_twice 52 = .ok (.invokevirtual 230, 3) := by decide +kernel
theorem dX8_twice_55 : decode cX8_twice 55 = .ok (.ifCond .eq 5, 3) := by decide +kernel
theorem dX8_twice_58 : decode cX8_twice 58 = .ok (.iload_n 1, 1) := by decide +kernel
theorem dX8_twice_59 : decode cX8_twice 59 = .ok (.ireturn, 1) := by decide +kernel
theorem dX8_twice_60 : decode cX8_twice 60 = .ok (.iinc 3 1, 3) := by decide +kernel
theorem dX8_twice_63 : decode cX8_twice 63 = .ok (.goto (-28), 3) := by decide +kernel
theorem dX8_twice_66 : decode cX8_twice 66 = .ok (.iinc 2 1, 3) := by decide +kernel
theorem dX8_twice_69 : decode cX8_twice 69 = .ok (.goto (-58), 3) := by decide +kernel
theorem dX8_twice_72 : decode cX8_twice 72 = .ok (.iinc 1 1, 3) := by decide +kernel
theorem dX8_twice_75 : decode cX8_twice 75 = .ok (.goto (-73), 3) := by decide +kernel
theorem dX8_twice_78 : decode cX8_twice 78 = .ok (.iconst (-1), 1) := by decide +kernel
theorem dX8_twice_79 : decode cX8_twice 79 = .ok (.ireturn, 1) := by decide +kernel
theorem dX8_holderOf_0 : decode cX8_holderOf 0 = .ok (.iconst 0, 1) := by decide +kernel
theorem dX8_holderOf_1 : decode cX8_holderOf 1 = .ok (.istore_n 3, 1) := by decide +kernel
theorem dX8_holderOf_2 : decode cX8_holderOf 2 = .ok (.iload_n 3, 1) := by decide +kernel
theorem dX8_holderOf_3 : decode cX8_holderOf 3 = .ok (.aload_n 0, 1) := by decide +kernel
theorem dX8_holderOf_4 : decode cX8_holderOf 4 = .ok (.getfield 13, 3) := by decide +kernel
theorem dX8_holderOf_7 : decode cX8_holderOf 7 = .ok (.iconst 0, 1) := by decide +kernel
theorem dX8_holderOf_8 : decode cX8_holderOf 8 = .ok (.iaload, 1) := by decide +kernel
theorem dX8_holderOf_9 : decode cX8_holderOf 9 = .ok (.if_icmp .ge 30, 3) := by decide +kernel
theorem dX8_holderOf_12 : decode cX8_holderOf 12 = .ok (.aload_n 0, 1) := by decide +kernel
theorem dX8_holderOf_13 : decode cX8_holderOf 13 = .ok (.iload_n 3, 1) := by decide +kernel
theorem dX8_holderOf_14 : decode cX8_holderOf 14 = .ok (.iconst 0, 1) := by decide +kernel
theorem dX8_holderOf_15 : decode cX8_holderOf 15 = .ok (.invokevirtual 218, 3) := by decide +kernel
theorem dX8_holderOf_18 : decode cX8_holderOf 18 = .ok (.iload_n 1, 1) := by decide +kernel
theorem dX8_holderOf_19 : decode cX8_holderOf 19 = .ok (.if_icmp .ne 14, 3) := by decide +kernel
theorem dX8_holderOf_22 : decode cX8_holderOf 22 = .ok (.aload_n 0, 1) := by decide +kernel
theorem dX8_holderOf_23 : decode cX8_holderOf 23 = .ok (.iload_n 3, 1) := by decide +kernel
theorem dX8_holderOf_24 : decode cX8_holderOf 24 = .ok (.iload_n 2, 1) := by decide +kernel
theorem dX8_holderOf_25 : decode cX8_holderOf 25 = .ok (.invokevirtual 230, 3) := by decide +kernel
theorem dX8_holderOf_28 : decode cX8_holderOf 28 = .ok (.ifCond .eq 5, 3) := by decide +kernel
theorem dX8_holderOf_31 : decode cX8_holderOf 31 = .ok (.iload_n 3, 1) := by decide +kernel
theorem dX8_holderOf_32 : decode cX8_holderOf 32 = .ok (.ireturn, 1) := by decide +kernel
theorem dX8_holderOf_33 : decode cX8_holderOf 33 = .ok (.iinc 3 1, 3) := by decide +kernel
theorem dX8_holderOf_36 : decode cX8_holderOf 36 = .ok (.goto (-34), 3) := by decide +kernel
theorem dX8_holderOf_39 : decode cX8_holderOf 39 = .ok (.iconst (-1), 1) := by decide +kernel
theorem dX8_holderOf_40 : decode cX8_holderOf 40 = .ok (.ireturn, 1) := by decide +kernel
theorem dX8_isClash_0 : decode cX8_isClash 0 = .ok (.aload_n 0, 1) := by decide +kernel
theorem dX8_isClash_1 : decode cX8_isClash 1 = .ok (.iconst 0, 1) := by decide +kernel
theorem dX8_isClash_2 : decode cX8_isClash 2 = .ok (.iload_n 1, 1) := by decide +kernel
theorem dX8_isClash_3 : decode cX8_isClash 3 = .ok (.invokevirtual 236, 3) := by decide +kernel
theorem dX8_isClash_6 : decode cX8_isClash 6 = .ok (.iconst (-1), 1) := by decide +kernel
theorem dX8_isClash_7 : decode cX8_isClash 7 = .ok (.if_icmp .eq 17, 3) := by decide +kernel
theorem dX8_isClash_10 : decode cX8_isClash 10 = .ok (.aload_n 0, 1) := by decide +kernel
theorem dX8_isClash_11 : decode cX8_isClash 11 = .ok (.iconst 1, 1) := by decide +kernel
theorem dX8_isClash_12 : decode cX8_isClash 12 = .ok (.iload_n 1, 1) := by decide +kernel
theorem dX8_isClash_13 : decode cX8_isClash 13 = .ok (.invokevirtual 236, 3) := by decide +kernel
theorem dX8_isClash_16 : decode cX8_isClash 16 = .ok (.iconst (-1), 1) := by decide +kernel
theorem dX8_isClash_17 : decode cX8_isClash 17 = .ok (.if_icmp .eq 7, 3) := by decide +kernel
theorem dX8_isClash_20 : decode cX8_isClash 20 = .ok (.iconst 1, 1) := by decide +kernel
theorem dX8_isClash_21 : decode cX8_isClash 21 = .ok (.goto 4, 3) := by decide +kernel
theorem dX8_isClash_24 : decode cX8_isClash 24 = .ok (.iconst 0, 1) := by decide +kernel
theorem dX8_isClash_25 : decode cX8_isClash 25 = .ok (.ireturn, 1) := by decide +kernel
theorem dX8_clashes_0 : decode cX8_clashes 0 = .ok (.iconst 0, 1) := by decide +kernel
theorem dX8_clashes_1 : decode cX8_clashes 1 = .ok (.istore_n 1, 1) := by decide +kernel
theorem dX8_clashes_2 : decode cX8_clashes 2 = .ok (.iconst 1, 1) := by decide +kernel
theorem dX8_clashes_3 : decode cX8_clashes 3 = .ok (.istore_n 2, 1) := by decide +kernel
theorem dX8_clashes_4 : decode cX8_clashes 4 = .ok (.iload_n 2, 1) := by decide +kernel
theorem dX8_clashes_5 : decode cX8_clashes 5 = .ok (.sipush 250, 3) := by decide +kernel
theorem dX8_clashes_8 : decode cX8_clashes 8 = .ok (.if_icmp .gt 25, 3) := by decide +kernel
theorem dX8_clashes_11 : decode cX8_clashes 11 = .ok (.iload_n 1, 1) := by decide +kernel
theorem dX8_clashes_12 : decode cX8_clashes 12 = .ok (.aload_n 0, 1) := by decide +kernel
theorem dX8_clashes_13 : decode cX8_clashes 13 = .ok (.iload_n 2, 1) := by decide +kernel
theorem dX8_clashes_14 : decode cX8_clashes 14 = .ok (.invokevirtual 239, 3) := by decide +kernel
theorem dX8_clashes_17 : decode cX8_clashes 17 = .ok (.ifCond .eq 7, 3) := by decide +kernel
theorem dX8_clashes_20 : decode cX8_clashes 20 = .ok (.iconst 1, 1) := by decide +kernel
theorem dX8_clashes_21 : decode cX8_clashes 21 = .ok (.goto 4, 3) := by decide +kernel
theorem dX8_clashes_24 : decode cX8_clashes 24 = .ok (.iconst 0, 1) := by decide +kernel
theorem dX8_clashes_25 : decode cX8_clashes 25 = .ok (.iadd, 1) := by decide +kernel
theorem dX8_clashes_26 : decode cX8_clashes 26 = .ok (.istore_n 1, 1) := by decide +kernel
theorem dX8_clashes_27 : decode cX8_clashes 27 = .ok (.iinc 2 1, 3) := by decide +kernel
theorem dX8_clashes_30 : decode cX8_clashes 30 = .ok (.goto (-26), 3) := by decide +kernel
theorem dX8_clashes_33 : decode cX8_clashes 33 = .ok (.iload_n 1, 1) := by decide +kernel
theorem dX8_clashes_34 : decode cX8_clashes 34 = .ok (.ireturn, 1) := by decide +kernel
theorem dX8_laysLeads_0 : decode cX8_laysLeads 0 = .ok (.iconst 0, 1) := by decide +kernel
theorem dX8_laysLeads_1 : decode cX8_laysLeads 1 = .ok (.istore_n 1, 1) := by decide +kernel
theorem dX8_laysLeads_2 : decode cX8_laysLeads 2 = .ok (.iload_n 1, 1) := by decide +kernel
theorem dX8_laysLeads_3 : decode cX8_laysLeads 3 = .ok (.sipush 502, 3) := by decide +kernel
theorem dX8_laysLeads_6 : decode cX8_laysLeads 6 = .ok (.if_icmp .ge 20, 3) := by decide +kernel
theorem dX8_laysLeads_9 : decode cX8_laysLeads 9 = .ok (.aload_n 0, 1) := by decide +kernel
theorem dX8_laysLeads_10 : decode cX8_laysLeads 10 = .ok (.getfield 35, 3) := by decide +kernel
theorem dX8_laysLeads_13 : decode cX8_laysLeads 13 = .ok (.iload_n 1, 1) := by decide +kernel
theorem dX8_laysLeads_14 : decode cX8_laysLeads 14 = .ok (.iload_n 1, 1) := by decide +kernel
theorem dX8_laysLeads_15 : decode cX8_laysLeads 15 = .ok (.sipush 251, 3) := by decide +kernel
theorem dX8_laysLeads_18 : decode cX8_laysLeads 18 = .ok (.irem, 1) := by decide +kernel
theorem dX8_laysLeads_19 : decode cX8_laysLeads 19 = .ok (.iastore, 1) := by decide +kernel
theorem dX8_laysLeads_20 : decode cX8_laysLeads 20 = .ok (.iinc 1 1, 3) := by decide +kernel
theorem dX8_laysLeads_23 : decode cX8_laysLeads 23 = .ok (.goto (-21), 3) := by decide +kernel
theorem dX8_laysLeads_26 : decode cX8_laysLeads 26 = .ok (.return_, 1) := by decide +kernel
theorem dX8_leadsTo_0 : decode cX8_leadsTo 0 = .ok (.iconst 0, 1) := by decide +kernel
theorem dX8_leadsTo_1 : decode cX8_leadsTo 1 = .ok (.istore 4, 2) := by decide +kernel
theorem dX8_leadsTo_3 : decode cX8_leadsTo 3 = .ok (.iload 4, 2) := by decide +kernel
theorem dX8_leadsTo_5 : decode cX8_leadsTo 5 = .ok (.iconst 2, 1) := by decide +kernel
theorem dX8_leadsTo_6 : decode cX8_leadsTo 6 = .ok (.if_icmp .ge 33, 3) := by decide +kernel
theorem dX8_leadsTo_9 : decode cX8_leadsTo 9 = .ok (.aload_n 0, 1) := by decide +kernel
theorem dX8_leadsTo_10 : decode cX8_leadsTo 10 = .ok (.iload_n 1, 1) := by decide +kernel
theorem dX8_leadsTo_11 : decode cX8_leadsTo 11 = .ok (.iload 4, 2) := by decide +kernel
theorem dX8_leadsTo_13 : decode cX8_leadsTo 13 = .ok (.invokevirtual 242, 3) := by decide +kernel
theorem dX8_leadsTo_16 : decode cX8_leadsTo 16 = .ok (.ifCond .eq 17, 3) := by decide +kernel
theorem dX8_leadsTo_19 : decode cX8_leadsTo 19 = .ok (.aload_n 0, 1) := by decide +kernel
theorem dX8_leadsTo_20 : decode cX8_leadsTo 20 = .ok (.getfield 35, 3) := by decide +kernel
theorem dX8_leadsTo_23 : decode cX8_leadsTo 23 = .ok (.sipush 251, 3) := by decide +kernel
theorem dX8_leadsTo_26 : decode cX8_leadsTo 26 = .ok (.iload 4, 2) := by decide +kernel
theorem dX8_leadsTo_28 : decode cX8_leadsTo 28 = .ok (.imul, 1) := by decide +kernel
theorem dX8_leadsTo_29 : decode cX8_leadsTo 29 = .ok (.iload_n 2, 1) := by decide +kernel
theorem dX8_leadsTo_30 : decode cX8_leadsTo 30 = .ok (.iadd, 1) := by decide +kernel
theorem dX8_leadsTo_31 : decode cX8_leadsTo 31 = .ok (.iload_n 3, 1) := by decide +kernel
theorem dX8_leadsTo_32 : decode cX8_leadsTo 32 = .ok (.iastore, 1) := by decide +kernel
theorem dX8_leadsTo_33 : decode cX8_leadsTo 33 = .ok (.iinc 4 1, 3) := by decide +kernel
theorem dX8_leadsTo_36 : decode cX8_leadsTo 36 = .ok (.goto (-33), 3) := by decide +kernel
theorem dX8_leadsTo_39 : decode cX8_leadsTo 39 = .ok (.return_, 1) := by decide +kernel
theorem dX8_rewrites0_0 : decode cX8_rewrites0 0 = .ok (.iconst 0, 1) := by decide +kernel
theorem dX8_rewrites0_1 : decode cX8_rewrites0 1 = .ok (.istore_n 1, 1) := by decide +kernel
theorem dX8_rewrites0_2 : decode cX8_rewrites0 2 = .ok (.iconst 0, 1) := by decide +kernel
theorem dX8_rewrites0_3 : decode cX8_rewrites0 3 = .ok (.istore_n 2, 1) := by decide +kernel
theorem dX8_rewrites0_4 : decode cX8_rewrites0 4 = .ok (.iload_n 2, 1) := by decide +kernel
theorem dX8_rewrites0_5 : decode cX8_rewrites0 5 = .ok (.aload_n 0, 1) := by decide +kernel
theorem dX8_rewrites0_6 : decode cX8_rewrites0 6 = .ok (.getfield 13, 3) := by decide +kernel
theorem dX8_rewrites0_9 : decode cX8_rewrites0 9 = .ok (.iconst 1, 1) := by decide +kernel
theorem dX8_rewrites0_10 : decode cX8_rewrites0 10 = .ok (.iaload, 1) := by decide +kernel
theorem dX8_rewrites0_11 : decode cX8_rewrites0 11 = .ok (.if_icmp .ge 85, 3) := by decide +kernel
theorem dX8_rewrites0_14 : decode cX8_rewrites0 14 = .ok (.iconst 2, 1) := by decide +kernel
theorem dX8_rewrites0_15 : decode cX8_rewrites0 15 = .ok (.istore_n 3, 1) := by decide +kernel
theorem dX8_rewrites0_16 : decode cX8_rewrites0 16 = .ok (.iload_n 3, 1) := by decide +kernel
theorem dX8_rewrites0_17 : decode cX8_rewrites0 17 = .ok (.iconst 4, 1) := by decide +kernel
theorem dX8_rewrites0_18 : decode cX8_rewrites0 18 = .ok (.if_icmp .ge 72, 3) := by decide +kernel
theorem dX8_rewrites0_21 : decode cX8_rewrites0 21 = .ok (.aload_n 0, 1) := by decide +kernel
theorem dX8_rewrites0_22 : decode cX8_rewrites0 22 = .ok (.getfield 13, 3) := by decide +kernel
theorem dX8_rewrites0_25 : decode cX8_rewrites0 25 = .ok (.iload_n 2, 1) := by decide +kernel
theorem dX8_rewrites0_26 : decode cX8_rewrites0 26 = .ok (.iload_n 3, 1) := by decide +kernel
theorem dX8_rewrites0_27 : decode cX8_rewrites0 27 = .ok (.invokestatic 167, 3) := by decide +kernel
theorem dX8_rewrites0_30 : decode cX8_rewrites0 30 = .ok (.iaload, 1) := by decide +kernel
theorem dX8_rewrites0_31 : decode cX8_rewrites0 31 = .ok (.istore 4, 2) := by decide +kernel
theorem dX8_rewrites0_33 : decode cX8_rewrites0 33 = .ok (.aload_n 0, 1) := by decide +kernel
theorem dX8_rewrites0_34 : decode cX8_rewrites0 34 = .ok (.getfield 35, 3) := by decide +kernel
theorem dX8_rewrites0_37 : decode cX8_rewrites0 37 = .ok (.sipush 251, 3) := by decide +kernel
theorem dX8_rewrites0_40 : decode cX8_rewrites0 40 = .ok (.aload_n 0, 1) := by decide +kernel
theorem dX8_rewrites0_41 : decode cX8_rewrites0 41 = .ok (.getfield 13, 3) := by decide +kernel
theorem dX8_rewrites0_44 : decode cX8_rewrites0 44 = .ok (.iload_n 2, 1) := by decide +kernel
theorem dX8_rewrites0_45 : decode cX8_rewrites0 45 = .ok (.iconst 0, 1) := by decide +kernel
theorem dX8_rewrites0_46 : decode cX8_rewrites0 46 = .ok (.invokestatic 167, 3) := by decide +kernel
theorem dX8_rewrites0_49 : decode cX8_rewrites0 49 = .ok (.iaload, 1) := by decide +kernel
theorem dX8_rewrites0_50 : decode cX8_rewrites0 50 = .ok (.imul, 1) := by decide +kernel
theorem dX8_rewrites0_51 : decode cX8_rewrites0 51 = .ok (.iload 4, 2) := by decide +kernel
theorem dX8_rewrites0_53 : decode cX8_rewrites0 53 = .ok (.iadd, 1) := by decide +kernel
theorem dX8_rewrites0_54 : decode cX8_rewrites0 54 = .ok (.iaload, 1) := by decide +kernel
theorem dX8_rewrites0_55 : decode cX8_rewrites0 55 = .ok (.istore 5, 2) := by decide +kernel
theorem dX8_rewrites0_57 : decode cX8_rewrites0 57 = .ok (.aload_n 0, 1) := by decide +kernel
theorem dX8_rewrites0_58 : decode cX8_rewrites0 58 = .ok (.getfield 13, 3) := by decide +kernel
theorem dX8_rewrites0_61 : decode cX8_rewrites0 61 = .ok (.iload_n 2, 1) := by decide +kernel
theorem dX8_rewrites0_62 : decode cX8_rewrites0 62 = .ok (.iload_n 3, 1) := by decide +kernel
theorem dX8_rewrites0_63 : decode cX8_rewrites0 63 = .ok (.invokestatic 167, 3) := by decide +kernel
theorem dX8_rewrites0_66 : decode cX8_rewrites0 66 = .ok (.iload 5, 2) := by decide +kernel
theorem dX8_rewrites0_68 : decode cX8_rewrites0 68 = .ok (.iastore, 1) := by decide +kernel
theorem dX8_rewrites0_69 : decode cX8_rewrites0 69 = .ok (.iload_n 1, 1) := by decide +kernel
theorem dX8_rewrites0_70 : decode cX8_rewrites0 70 = .ok (.iload 4, 2) := by decide +kernel
theorem dX8_rewrites0_72 : decode cX8_rewrites0 72 = .ok (.iload 5, 2) := by decide +kernel
theorem dX8_rewrites0_74 : decode cX8_rewrites0 74 = .ok (.if_icmp .ne 7, 3) := by decide +kernel
theorem dX8_rewrites0_77 : decode cX8_rewrites0 77 = .ok (.iconst 0, 1) := by decide +kernel
theorem dX8_rewrites0_78 : decode cX8_rewrites0 78 = .ok (.goto 4, 3) := by decide +kernel
theorem dX8_rewrites0_81 : decode cX8_rewrites0 81 = .ok (.iconst 1, 1) := by decide +kernel
theorem dX8_rewrites0_82 : decode cX8_rewrites0 82 = .ok (.iadd, 1) := by decide +kernel
theorem dX8_rewrites0_83 : decode cX8_rewrites0 83 = .ok (.istore_n 1, 1) := by decide +kernel
theorem dX8_rewrites0_84 : decode cX8_rewrites0 84 = .ok (.iinc 3 1, 3) := by decide +kernel
theorem dX8_rewrites0_87 : decode cX8_rewrites0 87 = .ok (.goto (-71), 3) := by decide +kernel
theorem dX8_rewrites0_90 : decode cX8_rewrites0 90 = .ok (.iinc 2 1, 3) := by decide +kernel
theorem dX8_rewrites0_93 : decode cX8_rewrites0 93 = .ok (.goto (-89), 3) := by decide +kernel
theorem dX8_rewrites0_96 : decode cX8_rewrites0 96 = .ok (.iload_n 1, 1) := by decide +kernel
theorem dX8_rewrites0_97 : decode cX8_rewrites0 97 = .ok (.ireturn, 1) := by decide +kernel
theorem dX8_isMoving_0 : decode cX8_isMoving 0 = .ok (.aload_n 0, 1) := by decide +kernel
theorem dX8_isMoving_1 : decode cX8_isMoving 1 = .ok (.iload_n 1, 1) := by decide +kernel
theorem dX8_isMoving_2 : decode cX8_isMoving 2 = .ok (.iconst 4, 1) := by decide +kernel
theorem dX8_isMoving_3 : decode cX8_isMoving 3 = .ok (.invokevirtual 218, 3) := by decide +kernel
theorem dX8_isMoving_6 : decode cX8_isMoving 6 = .ok (.aload_n 0, 1) := by decide +kernel
theorem dX8_isMoving_7 : decode cX8_isMoving 7 = .ok (.getfield 13, 3) := by decide +kernel
theorem dX8_isMoving_10 : decode cX8_isMoving 10 = .ok (.iconst 2, 1) := by decide +kernel
theorem dX8_isMoving_11 : decode cX8_isMoving 11 = .ok (.iaload, 1) := by decide +kernel
theorem dX8_isMoving_12 : decode cX8_isMoving 12 = .ok (.iconst 1, 1) := by decide +kernel
theorem dX8_isMoving_13 : decode cX8_isMoving 13 = .ok (.iadd, 1) := by decide +kernel
theorem dX8_isMoving_14 : decode cX8_isMoving 14 = .ok (.if_icmp .ne 7, 3) := by decide +kernel
theorem dX8_isMoving_17 : decode cX8_isMoving 17 = .ok (.iconst 1, 1) := by decide +kernel
theorem dX8_isMoving_18 : decode cX8_isMoving 18 = .ok (.goto 4, 3) := by decide +kernel
theorem dX8_isMoving_21 : decode cX8_isMoving 21 = .ok (.iconst 0, 1) := by decide +kernel
theorem dX8_isMoving_22 : decode cX8_isMoving 22 = .ok (.ireturn, 1) := by decide +kernel
theorem dX8_isBound_0 : decode cX8_isBound 0 = .ok (.iconst 0, 1) := by decide +kernel
theorem dX8_isBound_1 : decode cX8_isBound 1 = .ok (.istore_n 1, 1) := by decide +kernel
theorem dX8_isBound_2 : decode cX8_isBound 2 = .ok (.iload_n 1, 1) := by decide +kernel
theorem dX8_isBound_3 : decode cX8_isBound 3 = .ok (.aload_n 0, 1) := by decide +kernel
theorem dX8_isBound_4 : decode cX8_isBound 4 = .ok (.getfield 13, 3) := by decide +kernel
theorem dX8_isBound_7 : decode cX8_isBound 7 = .ok (.iconst 0, 1) := by decide +kernel
theorem dX8_isBound_8 : decode cX8_isBound 8 = .ok (.iaload, 1) := by decide +kernel
theorem dX8_isBound_9 : decode cX8_isBound 9 = .ok (.if_icmp .ge 35, 3) := by decide +kernel
theorem dX8_isBound_12 : decode cX8_isBound 12 = .ok (.aload_n 0, 1) := by decide +kernel
theorem dX8_isBound_13 : decode cX8_isBound 13 = .ok (.iload_n 1, 1) := by decide +kernel
theorem dX8_isBound_14 : decode cX8_isBound 14 = .ok (.invokevirtual 245, 3) := by decide +kernel
theorem dX8_isBound_17 : decode cX8_isBound 17 = .ok (.ifCond .eq 21, 3) := by decide +kernel
theorem dX8_isBound_20 : decode cX8_isBound 20 = .ok (.aload_n 0, 1) := by decide +kernel
theorem dX8_isBound_21 : decode cX8_isBound 21 = .ok (.iload_n 1, 1) := by decide +kernel
theorem dX8_isBound_22 : decode cX8_isBound 22 = .ok (.aload_n 0, 1) := by decide +kernel
theorem dX8_isBound_23 : decode cX8_isBound 23 = .ok (.getfield 13, 3) := by decide +kernel
theorem dX8_isBound_26 : decode cX8_isBound 26 = .ok (.iconst 2, 1) := by decide +kernel
theorem dX8_isBound_27 : decode cX8_isBound 27 = .ok (.iaload, 1) := by decide +kernel
theorem dX8_isBound_28 : decode cX8_isBound 28 = .ok (.iconst 1, 1) := by decide +kernel
theorem dX8_isBound_29 : decode cX8_isBound 29 = .ok (.iadd, 1) := by decide +kernel
theorem dX8_isBound_30 : decode cX8_isBound 30 = .ok (.invokevirtual 224, 3) := by decide +kernel
theorem dX8_isBound_33 : decode cX8_isBound 33 = .ok (.ifCond .eq 5, 3) := by decide +kernel
theorem dX8_isBound_36 : decode cX8_isBound 36 = .ok (.iconst 1, 1) := by decide +kernel
theorem dX8_isBound_37 : decode cX8_isBound 37 = .ok (.ireturn, 1) := by decide +kernel
theorem dX8_isBound_38 : decode cX8_isBound 38 = .ok (.iinc 1 1, 3) := by decide +kernel
theorem dX8_isBound_41 : decode cX8_isBound 41 = .ok (.goto (-39), 3) := by decide +kernel
theorem dX8_isBound_44 : decode cX8_isBound 44 = .ok (.iconst 0, 1) := by decide +kernel
theorem dX8_isBound_45 : decode cX8_isBound 45 = .ok (.ireturn, 1) := by decide +kernel
theorem dX8_moves_0 : decode cX8_moves 0 = .ok (.aload_n 0, 1) := by decide +kernel
theorem dX8_moves_1 : decode cX8_moves 1 = .ok (.getfield 13, 3) := by decide +kernel
theorem dX8_moves_4 : decode cX8_moves 4 = .ok (.iconst 2, 1) := by decide +kernel
theorem dX8_moves_5 : decode cX8_moves 5 = .ok (.iaload, 1) := by decide +kernel
theorem dX8_moves_6 : decode cX8_moves 6 = .ok (.iconst 1, 1) := by decide +kernel
theorem dX8_moves_7 : decode cX8_moves 7 = .ok (.iadd, 1) := by decide +kernel
theorem dX8_moves_8 : decode cX8_moves 8 = .ok (.istore_n 1, 1) := by decide +kernel
theorem dX8_moves_9 : decode cX8_moves 9 = .ok (.aload_n 0, 1) := by decide +kernel
theorem dX8_moves_10 : decode cX8_moves 10 = .ok (.iconst 0, 1) := by decide +kernel
theorem dX8_moves_11 : decode cX8_moves 11 = .ok (.putfield 248, 3) := by decide +kernel
theorem dX8_moves_14 : decode cX8_moves 14 = .ok (.aload_n 0, 1) := by decide +kernel
theorem dX8_moves_15 : decode cX8_moves 15 = .ok (.invokevirtual 251, 3) := by decide +kernel
theorem dX8_moves_18 : decode cX8_moves 18 = .ok (.iconst 0, 1) := by decide +kernel
theorem dX8_moves_19 : decode cX8_moves 19 = .ok (.istore_n 2, 1) := by decide +kernel
theorem dX8_moves_20 : decode cX8_moves 20 = .ok (.iload_n 2, 1) := by decide +kernel
theorem dX8_moves_21 : decode cX8_moves 21 = .ok (.aload_n 0, 1) := by decide +kernel
theorem dX8_moves_22 : decode cX8_moves 22 = .ok (.getfield 13, 3) := by decide +kernel
theorem dX8_moves_25 : decode cX8_moves 25 = .ok (.iconst 0, 1) := by decide +kernel
theorem dX8_moves_26 : decode cX8_moves 26 = .ok (.iaload, 1) := by decide +kernel
theorem dX8_moves_27 : decode cX8_moves 27 = .ok (.if_icmp .ge 108, 3) := by decide +kernel
theorem dX8_moves_30 : decode cX8_moves 30 = .ok (.aload_n 0, 1) := by decide +kernel
theorem dX8_moves_31 : decode cX8_moves 31 = .ok (.iload_n 2, 1) := by decide +kernel
theorem dX8_moves_32 : decode cX8_moves 32 = .ok (.iconst 4, 1) := by decide +kernel
theorem dX8_moves_33 : decode cX8_moves 33 = .ok (.invokevirtual 218, 3) := by decide +kernel
theorem dX8_moves_36 : decode cX8_moves 36 = .ok (.iload_n 1, 1) := by decide +kernel
theorem dX8_moves_37 : decode cX8_moves 37 = .ok (.if_icmp .eq 6, 3) := by decide +kernel
theorem dX8_moves_40 : decode cX8_moves 40 = .ok (.goto 89, 3) := by decide +kernel
theorem dX8_moves_43 : decode cX8_moves 43 = .ok (.aload_n 0, 1) := by decide +kernel
theorem dX8_moves_44 : decode cX8_moves 44 = .ok (.iload_n 2, 1) := by decide +kernel
theorem dX8_moves_45 : decode cX8_moves 45 = .ok (.aload_n 0, 1) := by decide +kernel
theorem dX8_moves_46 : decode cX8_moves 46 = .ok (.iload_n 2, 1) := by decide +kernel
theorem dX8_moves_47 : decode cX8_moves 47 = .ok (.iconst 1, 1) := by decide +kernel
theorem dX8_moves_48 : decode cX8_moves 48 = .ok (.invokevirtual 218, 3) := by decide +kernel
theorem dX8_moves_51 : decode cX8_moves 51 = .ok (.aload_n 0, 1) := by decide +kernel
theorem dX8_moves_52 : decode cX8_moves 52 = .ok (.iload_n 2, 1) := by decide +kernel
theorem dX8_moves_53 : decode cX8_moves 53 = .ok (.iconst 3, 1) := by decide +kernel
theorem dX8_moves_54 : decode cX8_moves 54 = .ok (.invokevirtual 218, 3) := by decide +kernel
theorem dX8_moves_57 : decode cX8_moves 57 = .ok (.invokevirtual 254, 3) := by decide +kernel
theorem dX8_moves_60 : decode cX8_moves 60 = .ok (.aload_n 0, 1) := by decide +kernel
theorem dX8_moves_61 : decode cX8_moves 61 = .ok (.getfield 13, 3) := by decide +kernel
theorem dX8_moves_64 : decode cX8_moves 64 = .ok (.iload_n 2, 1) := by decide +kernel
theorem dX8_moves_65 : decode cX8_moves 65 = .ok (.bipush 14, 2) := by decide +kernel
theorem dX8_moves_67 : decode cX8_moves 67 = .ok (.iload_n 1, 1) := by decide +kernel
theorem dX8_moves_68 : decode cX8_moves 68 = .ok (.iadd, 1) := by decide +kernel
theorem dX8_moves_69 : decode cX8_moves 69 = .ok (.iconst 1, 1) := by decide +kernel
theorem dX8_moves_70 : decode cX8_moves 70 = .ok (.isub, 1) := by decide +kernel
theorem dX8_moves_71 : decode cX8_moves 71 = .ok (.invokestatic 129, 3) := by decide +kernel
theorem dX8_moves_74 : decode cX8_moves 74 = .ok (.aload_n 0, 1) := by decide +kernel
theorem dX8_moves_75 : decode cX8_moves 75 = .ok (.iload_n 2, 1) := by decide +kernel
theorem dX8_moves_76 : decode cX8_moves 76 = .ok (.iconst 1, 1) := by decide +kernel
theorem dX8_moves_77 : decode cX8_moves 77 = .ok (.invokevirtual 218, 3) := by decide +kernel
theorem dX8_moves_80 : decode cX8_moves 80 = .ok (.iastore, 1) := by decide +kernel
theorem dX8_moves_81 : decode cX8_moves 81 = .ok (.aload_n 0, 1) := by decide +kernel
theorem dX8_moves_82 : decode cX8_moves 82 = .ok (.getfield 13, 3) := by decide +kernel
theorem dX8_moves_85 : decode cX8_moves 85 = .ok (.iload_n 2, 1) := by decide +kernel
theorem dX8_moves_86 : decode cX8_moves 86 = .ok (.iconst 1, 1) := by decide +kernel
theorem dX8_moves_87 : decode cX8_moves 87 = .ok (.invokestatic 129, 3) := by decide +kernel
theorem dX8_moves_90 : decode cX8_moves 90 = .ok (.aload_n 0, 1) := by decide +kernel
theorem dX8_moves_91 : decode cX8_moves 91 = .ok (.iload_n 2, 1) := by decide +kernel
theorem dX8_moves_92 : decode cX8_moves 92 = .ok (.iconst 3, 1) := by decide +kernel
theorem dX8_moves_93 : decode cX8_moves 93 = .ok (.invokevirtual 218, 3) := by decide +kernel
theorem dX8_moves_96 : decode cX8_moves 96 = .ok (.iastore, 1) := by decide +kernel
theorem dX8_moves_97 : decode cX8_moves 97 = .ok (.aload_n 0, 1) := by decide +kernel
theorem dX8_moves_98 : decode cX8_moves 98 = .ok (.getfield 13, 3) := by decide +kernel
theorem dX8_moves_101 : decode cX8_moves 101 = .ok (.iload_n 2, 1) := by decide +kernel
theorem dX8_moves_102 : decode cX8_moves 102 = .ok (.iconst 3, 1) := by decide +kernel
theorem dX8_moves_103 : decode cX8_moves 103 = .ok (.invokestatic 129, 3) := by decide +kernel
theorem dX8_moves_106 : decode cX8_moves 106 = .ok (.iconst 0, 1) := by decide +kernel
theorem dX8_moves_107 : decode cX8_moves 107 = .ok (.iastore, 1) := by decide +kernel
theorem dX8_moves_108 : decode cX8_moves 108 = .ok (.aload_n 0, 1) := by decide +kernel
theorem dX8_moves_109 : decode cX8_moves 109 = .ok (.getfield 13, 3) := by decide +kernel
theorem dX8_moves_112 : decode cX8_moves 112 = .ok (.iload_n 2, 1) := by decide +kernel
theorem dX8_moves_113 : decode cX8_moves 113 = .ok (.iconst 4, 1) := by decide +kernel
theorem dX8_moves_114 : decode cX8_moves 114 = .ok (.invokestatic 129, 3) := by decide +kernel
theorem dX8_moves_117 : decode cX8_moves 117 = .ok (.iconst 0, 1) := by decide +kernel
theorem dX8_moves_118 : decode cX8_moves 118 = .ok (.iastore, 1) := by decide +kernel
theorem dX8_moves_119 : decode cX8_moves 119 = .ok (.aload_n 0, 1) := by decide +kernel
theorem dX8_moves_120 : decode cX8_moves 120 = .ok (.dup, 1) := by decide +kernel
theorem dX8_moves_121 : decode cX8_moves 121 = .ok (.getfield 248, 3) := by decide +kernel
theorem dX8_moves_124 : decode cX8_moves 124 = .ok (.iconst 1, 1) := by decide +kernel
theorem dX8_moves_125 : decode cX8_moves 125 = .ok (.iadd, 1) := by decide +kernel
theorem dX8_moves_126 : decode cX8_moves 126 = .ok (.putfield 248, 3) := by decide +kernel
theorem dX8_moves_129 : decode cX8_moves 129 = .ok (.iinc 2 1, 3) := by decide +kernel
theorem dX8_moves_132 : decode cX8_moves 132 = .ok (.goto (-112), 3) := by decide +kernel
theorem dX8_moves_135 : decode cX8_moves 135 = .ok (.aload_n 0, 1) := by decide +kernel
theorem dX8_moves_136 : decode cX8_moves 136 = .ok (.getfield 13, 3) := by decide +kernel
theorem dX8_moves_139 : decode cX8_moves 139 = .ok (.iconst 2, 1) := by decide +kernel
theorem dX8_moves_140 : decode cX8_moves 140 = .ok (.iload_n 1, 1) := by decide +kernel
theorem dX8_moves_141 : decode cX8_moves 141 = .ok (.iastore, 1) := by decide +kernel
theorem dX8_moves_142 : decode cX8_moves 142 = .ok (.aload_n 0, 1) := by decide +kernel
theorem dX8_moves_143 : decode cX8_moves 143 = .ok (.aload_n 0, 1) := by decide +kernel
theorem dX8_moves_144 : decode cX8_moves 144 = .ok (.invokevirtual 258, 3) := by decide +kernel
theorem dX8_moves_147 : decode cX8_moves 147 = .ok (.putfield 261, 3) := by decide +kernel
theorem dX8_moves_150 : decode cX8_moves 150 = .ok (.return_, 1) := by decide +kernel
theorem dX8_movesIf_0 : decode cX8_movesIf 0 = .ok (.aload_n 0, 1) := by decide +kernel
theorem dX8_movesIf_1 : decode cX8_movesIf 1 = .ok (.getfield 13, 3) := by decide +kernel
theorem dX8_movesIf_4 : decode cX8_movesIf 4 = .ok (.iconst 2, 1) := by decide +kernel
theorem dX8_movesIf_5 : decode cX8_movesIf 5 = .ok (.iaload, 1) := by decide +kernel
theorem dX8_movesIf_6 : decode cX8_movesIf 6 = .ok (.bipush 9, 2) := by decide +kernel
theorem dX8_movesIf_8 : decode cX8_movesIf 8 = .ok (.if_icmp .ne 6, 3) := by decide +kernel
theorem dX8_movesIf_11 : decode cX8_movesIf 11 = .ok (.bipush (-2), 2) := by decide +kernel
theorem dX8_movesIf_13 : decode cX8_movesIf 13 = .ok (.ireturn, 1) := by decide +kernel
theorem dX8_movesIf_14 : decode cX8_movesIf 14 = .ok (.aload_n 0, 1) := by decide +kernel
theorem dX8_movesIf_15 : decode cX8_movesIf 15 = .ok (.invokevirtual 264, 3) := by decide +kernel
theorem dX8_movesIf_18 : decode cX8_movesIf 18 = .ok (.ifCond .eq 6, 3) := by decide +kernel
theorem dX8_movesIf_21 : decode cX8_movesIf 21 = .ok (.bipush (-3), 2) := by decide +kernel
theorem dX8_movesIf_23 : decode cX8_movesIf 23 = .ok (.ireturn, 1) := by decide +kernel
theorem dX8_movesIf_24 : decode cX8_movesIf 24 = .ok (.aload_n 0, 1) := by decide +kernel
theorem dX8_movesIf_25 : decode cX8_movesIf 25 = .ok (.invokevirtual 267, 3) := by decide +kernel
theorem dX8_movesIf_28 : decode cX8_movesIf 28 = .ok (.aload_n 0, 1) := by decide +kernel
theorem dX8_movesIf_29 : decode cX8_movesIf 29 = .ok (.invokevirtual 270, 3) := by decide +kernel
theorem dX8_movesIf_32 : decode cX8_movesIf 32 = .ok (.iconst (-1), 1) := by decide +kernel
theorem dX8_movesIf_33 : decode cX8_movesIf 33 = .ok (.if_icmp .ne 7, 3) := by decide +kernel
theorem dX8_movesIf_36 : decode cX8_movesIf 36 = .ok (.iconst 0, 1) := by decide +kernel
theorem dX8_movesIf_37 : decode cX8_movesIf 37 = .ok (.goto 5, 3) := by decide +kernel
theorem dX8_movesIf_40 : decode cX8_movesIf 40 = .ok (.bipush (-4), 2) := by decide +kernel
theorem dX8_movesIf_42 : decode cX8_movesIf 42 = .ok (.ireturn, 1) := by decide +kernel
theorem dX8_goesBack_0 : decode cX8_goesBack 0 = .ok (.aload_n 0, 1) := by decide +kernel
theorem dX8_goesBack_1 : decode cX8_goesBack 1 = .ok (.getfield 13, 3) := by decide +kernel
theorem dX8_goesBack_4 : decode cX8_goesBack 4 = .ok (.iconst 2, 1) := by decide +kernel
theorem dX8_goesBack_5 : decode cX8_goesBack 5 = .ok (.iaload, 1) := by decide +kernel
theorem dX8_goesBack_6 : decode cX8_goesBack 6 = .ok (.istore_n 1, 1) := by decide +kernel
theorem dX8_goesBack_7 : decode cX8_goesBack 7 = .ok (.aload_n 0, 1) := by decide +kernel
theorem dX8_goesBack_8 : decode cX8_goesBack 8 = .ok (.invokevirtual 251, 3) := by decide +kernel
theorem dX8_goesBack_11 : decode cX8_goesBack 11 = .ok (.iconst 0, 1) := by decide +kernel
theorem dX8_goesBack_12 : decode cX8_goesBack 12 = .ok (.istore_n 2, 1) := by decide +kernel
theorem dX8_goesBack_13 : decode cX8_goesBack 13 = .ok (.iload_n 2, 1) := by decide +kernel
theorem dX8_goesBack_14 : decode cX8_goesBack 14 = .ok (.aload_n 0, 1) := by decide +kernel
theorem dX8_goesBack_15 : decode cX8_goesBack 15 = .ok (.getfield 13, 3) := by decide +kernel
theorem dX8_goesBack_18 : decode cX8_goesBack 18 = .ok (.iconst 0, 1) := by decide +kernel
theorem dX8_goesBack_19 : decode cX8_goesBack 19 = .ok (.iaload, 1) := by decide +kernel
theorem dX8_goesBack_20 : decode cX8_goesBack 20 = .ok (.if_icmp .ge 116, 3) := by decide +kernel
theorem dX8_goesBack_23 : decode cX8_goesBack 23 = .ok (.aload_n 0, 1) := by decide +kernel
theorem dX8_goesBack_24 : decode cX8_goesBack 24 = .ok (.iload_n 2, 1) := by decide +kernel
theorem dX8_goesBack_25 : decode cX8_goesBack 25 = .ok (.bipush 14, 2) := by decide +kernel
theorem dX8_goesBack_27 : decode cX8_goesBack 27 = .ok (.iload_n 1, 1) := by decide +kernel
theorem dX8_goesBack_28 : decode cX8_goesBack 28 = .ok (.iadd, 1) := by decide +kernel
theorem dX8_goesBack_29 : decode cX8_goesBack 29 = .ok (.iconst 1, 1) := by decide +kernel
theorem dX8_goesBack_30 : decode cX8_goesBack 30 = .ok (.isub, 1) := by decide +kernel
theorem dX8_goesBack_31 : decode cX8_goesBack 31 = .ok (.invokevirtual 218, 3) := by decide +kernel
theorem dX8_goesBack_34 : decode cX8_goesBack 34 = .ok (.istore_n 3, 1) := by decide +kernel
theorem dX8_goesBack_35 : decode cX8_goesBack 35 = .ok (.iload_n 3, 1) := by decide +kernel
theorem dX8_goesBack_36 : decode cX8_goesBack 36 = .ok (.ifCond .ne 6, 3) := by decide +kernel
theorem dX8_goesBack_39 : decode cX8_goesBack 39 = .ok (.goto 91, 3) := by decide +kernel
theorem dX8_goesBack_42 : decode cX8_goesBack 42 = .ok (.aload_n 0, 1) := by decide +kernel
theorem dX8_goesBack_43 : decode cX8_goesBack 43 = .ok (.iload_n 2, 1) := by decide +kernel
theorem dX8_goesBack_44 : decode cX8_goesBack 44 = .ok (.iconst 1, 1) := by decide +kernel
theorem dX8_goesBack_45 : decode cX8_goesBack 45 = .ok (.invokevirtual 218, 3) := by decide +kernel
theorem dX8_goesBack_48 : decode cX8_goesBack 48 = .ok (.istore 4, 2) := by decide +kernel
theorem dX8_goesBack_50 : decode cX8_goesBack 50 = .ok (.aload_n 0, 1) := by decide +kernel
theorem dX8_goesBack_51 : decode cX8_goesBack 51 = .ok (.iload_n 2, 1) := by decide +kernel
theorem dX8_goesBack_52 : decode cX8_goesBack 52 = .ok (.iload 4, 2) := by decide +kernel
theorem dX8_goesBack_54 : decode cX8_goesBack 54 = .ok (.iload_n 3, 1) := by decide +kernel
theorem dX8_goesBack_55 : decode cX8_goesBack 55 = .ok (.invokevirtual 254, 3) := by decide +kernel
theorem dX8_goesBack_58 : decode cX8_goesBack 58 = .ok (.aload_n 0, 1) := by decide +kernel
theorem dX8_goesBack_59 : decode cX8_goesBack 59 = .ok (.getfield 13, 3) := by decide +kernel
theorem dX8_goesBack_62 : decode cX8_goesBack 62 = .ok (.iload_n 2, 1) := by decide +kernel
theorem dX8_goesBack_63 : decode cX8_goesBack 63 = .ok (.iconst 1, 1) := by decide +kernel
theorem dX8_goesBack_64 : decode cX8_goesBack 64 = .ok (.invokestatic 129, 3) := by decide +kernel
theorem dX8_goesBack_67 : decode cX8_goesBack 67 = .ok (.iload_n 3, 1) := by decide +kernel
theorem dX8_goesBack_68 : decode cX8_goesBack 68 = .ok (.iastore, 1) := by decide +kernel
theorem dX8_goesBack_69 : decode cX8_goesBack 69 = .ok (.aload_n 0, 1) := by decide +kernel
theorem dX8_goesBack_70 : decode cX8_goesBack 70 = .ok (.getfield 13, 3) := by decide +kernel
theorem dX8_goesBack_73 : decode cX8_goesBack 73 = .ok (.iload_n 2, 1) := by decide +kernel
theorem dX8_goesBack_74 : decode cX8_goesBack 74 = .ok (.bipush 14, 2) := by decide +kernel
theorem dX8_goesBack_76 : decode cX8_goesBack 76 = .ok (.iload_n 1, 1) := by decide +kernel
theorem dX8_goesBack_77 : decode cX8_goesBack 77 = .ok (.iadd, 1) := by decide +kernel
theorem dX8_goesBack_78 : decode cX8_goesBack 78 = .ok (.iconst 1, 1) := by decide +kernel
theorem dX8_goesBack_79 : decode cX8_goesBack 79 = .ok (.isub, 1) := by decide +kernel
theorem dX8_goesBack_80 : decode cX8_goesBack 80 = .ok (.invokestatic 129, 3) := by decide +kernel
theorem dX8_goesBack_83 : decode cX8_goesBack 83 = .ok (.iconst 0, 1) := by decide +kernel
theorem dX8_goesBack_84 : decode cX8_goesBack 84 = .ok (.iastore, 1) := by decide +kernel
theorem dX8_goesBack_85 : decode cX8_goesBack 85 = .ok (.aload_n 0, 1) := by decide +kernel
theorem dX8_goesBack_86 : decode cX8_goesBack 86 = .ok (.iload_n 2, 1) := by decide +kernel
theorem dX8_goesBack_87 : decode cX8_goesBack 87 = .ok (.iconst 4, 1) := by decide +kernel
theorem dX8_goesBack_88 : decode cX8_goesBack 88 = .ok (.invokevirtual 218, 3) := by decide +kernel
theorem dX8_goesBack_91 : decode cX8_goesBack 91 = .ok (.ifCond .ne 39, 3) := by decide +kernel
theorem dX8_goesBack_94 : decode cX8_goesBack 94 = .ok (.aload_n 0, 1) := by decide +kernel
theorem dX8_goesBack_95 : decode cX8_goesBack 95 = .ok (.iload_n 2, 1) := by decide +kernel
theorem dX8_goesBack_96 : decode cX8_goesBack 96 = .ok (.iconst 2, 1) := by decide +kernel
theorem dX8_goesBack_97 : decode cX8_goesBack 97 = .ok (.invokevirtual 218, 3) := by decide +kernel
theorem dX8_goesBack_100 : decode cX8_goesBack 100 = .ok (.iconst 1, 1) := by decide +kernel
theorem dX8_goesBack_101 : decode cX8_goesBack 101 = .ok (.if_icmp .ne 6, 3) := by decide +kernel
theorem dX8_goesBack_104 : decode cX8_goesBack 104 = .ok (.goto 26, 3) := by decide +kernel
theorem dX8_goesBack_107 : decode cX8_goesBack 107 = .ok (.aload_n 0, 1) := by decide +kernel
theorem dX8_goesBack_108 : decode cX8_goesBack 108 = .ok (.getfield 13, 3) := by decide +kernel
theorem dX8_goesBack_111 : decode cX8_goesBack 111 = .ok (.iload_n 2, 1) := by decide +kernel
theorem dX8_goesBack_112 : decode cX8_goesBack 112 = .ok (.iconst 3, 1) := by decide +kernel
theorem dX8_goesBack_113 : decode cX8_goesBack 113 = .ok (.invokestatic 129, 3) := by decide +kernel
theorem dX8_goesBack_116 : decode cX8_goesBack 116 = .ok (.iload 4, 2) := by decide +kernel
theorem dX8_goesBack_118 : decode cX8_goesBack 118 = .ok (.iastore, 1) := by decide +kernel
theorem dX8_goesBack_119 : decode cX8_goesBack 119 = .ok (.aload_n 0, 1) := by decide +kernel
theorem dX8_goesBack_120 : decode cX8_goesBack 120 = .ok (.getfield 13, 3) := by decide +kernel
theorem dX8_goesBack_123 : decode cX8_goesBack 123 = .ok (.iload_n 2, 1) := by decide +kernel
theorem dX8_goesBack_124 : decode cX8_goesBack 124 = .ok (.iconst 4, 1) := by decide +kernel
theorem dX8_goesBack_125 : decode cX8_goesBack 125 = .ok (.invokestatic 129, 3) := by decide +kernel
theorem dX8_goesBack_128 : decode cX8_goesBack 128 = .ok (.iload_n 1, 1) := by decide +kernel
theorem dX8_goesBack_129 : decode cX8_goesBack 129 = .ok (.iastore, 1) := by decide +kernel
theorem dX8_goesBack_130 : decode cX8_goesBack 130 = .ok (.iinc 2 1, 3) := by decide +kernel
theorem dX8_goesBack_133 : decode cX8_goesBack 133 = .ok (.goto (-120), 3) := by decide +kernel
theorem dX8_goesBack_136 : decode cX8_goesBack 136 = .ok (.aload_n 0, 1) := by decide +kernel
theorem dX8_goesBack_137 : decode cX8_goesBack 137 = .ok (.getfield 13, 3) := by decide +kernel
theorem dX8_goesBack_140 : decode cX8_goesBack 140 = .ok (.iconst 2, 1) := by decide +kernel
theorem dX8_goesBack_141 : decode cX8_goesBack 141 = .ok (.iload_n 1, 1) := by decide +kernel
theorem dX8_goesBack_142 : decode cX8_goesBack 142 = .ok (.iconst 1, 1) := by decide +kernel
theorem dX8_goesBack_143 : decode cX8_goesBack 143 = .ok (.isub, 1) := by decide +kernel
theorem dX8_goesBack_144 : decode cX8_goesBack 144 = .ok (.iastore, 1) := by decide +kernel
theorem dX8_goesBack_145 : decode cX8_goesBack 145 = .ok (.aload_n 0, 1) := by decide +kernel
theorem dX8_goesBack_146 : decode cX8_goesBack 146 = .ok (.invokevirtual 258, 3) := by decide +kernel
theorem dX8_goesBack_149 : decode cX8_goesBack 149 = .ok (.istore_n 2, 1) := by decide +kernel
theorem dX8_goesBack_150 : decode cX8_goesBack 150 = .ok (.return_, 1) := by decide +kernel
theorem dX8_laysAside_0 : decode cX8_laysAside 0 = .ok (.aload_n 0, 1) := by decide +kernel
theorem dX8_laysAside_1 : decode cX8_laysAside 1 = .ok (.getfield 13, 3) := by decide +kernel
theorem dX8_laysAside_4 : decode cX8_laysAside 4 = .ok (.iconst 0, 1) := by decide +kernel
theorem dX8_laysAside_5 : decode cX8_laysAside 5 = .ok (.aload_n 0, 1) := by decide +kernel
theorem dX8_laysAside_6 : decode cX8_laysAside 6 = .ok (.getfield 23, 3) := by decide +kernel
theorem dX8_laysAside_9 : decode cX8_laysAside 9 = .ok (.iconst 0, 1) := by decide +kernel
theorem dX8_laysAside_10 : decode cX8_laysAside 10 = .ok (.invokestatic 53, 3) := by decide +kernel
theorem dX8_laysAside_13 : decode cX8_laysAside 13 = .ok (.return_, 1) := by decide +kernel
theorem dX8_laysBack_0 : decode cX8_laysBack 0 = .ok (.aload_n 0, 1) := by decide +kernel
theorem dX8_laysBack_1 : decode cX8_laysBack 1 = .ok (.getfield 23, 3) := by decide +kernel
theorem dX8_laysBack_4 : decode cX8_laysBack 4 = .ok (.iconst 0, 1) := by decide +kernel
theorem dX8_laysBack_5 : decode cX8_laysBack 5 = .ok (.aload_n 0, 1) := by decide +kernel
theorem dX8_laysBack_6 : decode cX8_laysBack 6 = .ok (.getfield 13, 3) := by decide +kernel
theorem dX8_laysBack_9 : decode cX8_laysBack 9 = .ok (.iconst 0, 1) := by decide +kernel
theorem dX8_laysBack_10 : decode cX8_laysBack 10 = .ok (.invokestatic 53, 3) := by decide +kernel
theorem dX8_laysBack_13 : decode cX8_laysBack 13 = .ok (.return_, 1) := by decide +kernel
theorem dX8_matches_0 : decode cX8_matches 0 = .ok (.iload_n 1, 1) := by decide +kernel
theorem dX8_matches_1 : decode cX8_matches 1 = .ok (.ifCond .eq 8, 3) := by decide +kernel
theorem dX8_matches_4 : decode cX8_matches 4 = .ok (.iload_n 1, 1) := by decide +kernel
theorem dX8_matches_5 : decode cX8_matches 5 = .ok (.iload_n 2, 1) := by decide +kernel
theorem dX8_matches_6 : decode cX8_matches 6 = .ok (.if_icmp .ne 5, 3) := by decide +kernel
theorem dX8_matches_9 : decode cX8_matches 9 = .ok (.iconst 1, 1) := by decide +kernel
theorem dX8_matches_10 : decode cX8_matches 10 = .ok (.ireturn, 1) := by decide +kernel
theorem dX8_matches_11 : decode cX8_matches 11 = .ok (.iconst 0, 1) := by decide +kernel
theorem dX8_matches_12 : decode cX8_matches 12 = .ok (.istore 4, 2) := by decide +kernel
theorem dX8_matches_14 : decode cX8_matches 14 = .ok (.iload 4, 2) := by decide +kernel
theorem dX8_matches_16 : decode cX8_matches 16 = .ok (.aload_n 0, 1) := by decide +kernel
theorem dX8_matches_17 : decode cX8_matches 17 = .ok (.getfield 13, 3) := by decide +kernel
theorem dX8_matches_20 : decode cX8_matches 20 = .ok (.iconst 0, 1) := by decide +kernel
theorem dX8_matches_21 : decode cX8_matches 21 = .ok (.iaload, 1) := by decide +kernel
theorem dX8_matches_22 : decode cX8_matches 22 = .ok (.if_icmp .ge 41, 3) := by decide +kernel
theorem dX8_matches_25 : decode cX8_matches 25 = .ok (.aload_n 0, 1) := by decide +kernel
theorem dX8_matches_26 : decode cX8_matches 26 = .ok (.iload 4, 2) := by decide +kernel
theorem dX8_matches_28 : decode cX8_matches 28 = .ok (.iload_n 3, 1) := by decide +kernel
theorem dX8_matches_29 : decode cX8_matches 29 = .ok (.invokevirtual 242, 3) := by decide +kernel
theorem dX8_matches_32 : decode cX8_matches 32 = .ok (.ifCond .eq 25, 3) := by decide +kernel
theorem dX8_matches_35 : decode cX8_matches 35 = .ok (.aload_n 0, 1) := by decide +kernel
theorem dX8_matches_36 : decode cX8_matches 36 = .ok (.iload 4, 2) := by decide +kernel
theorem dX8_matches_38 : decode cX8_matches 38 = .ok (.iload_n 1, 1) := by decide +kernel
theorem dX8_matches_39 : decode cX8_matches 39 = .ok (.invokevirtual 230, 3) := by decide +kernel
theorem dX8_matches_42 : decode cX8_matches 42 = .ok (.ifCond .eq 15, 3) := by decide +kernel
theorem dX8_matches_45 : decode cX8_matches 45 = .ok (.aload_n 0, 1) := by decide +kernel
theorem dX8_matches_46 : decode cX8_matches 46 = .ok (.iload 4, 2) := by decide +kernel
theorem dX8_matches_48 : decode cX8_matches 48 = .ok (.iload_n 2, 1) := by decide +kernel
theorem dX8_matches_49 : decode cX8_matches 49 = .ok (.invokevirtual 230, 3) := by decide +kernel
theorem dX8_matches_52 : decode cX8_matches 52 = .ok (.ifCond .eq 5, 3) := by decide +kernel
theorem dX8_matches_55 : decode cX8_matches 55 = .ok (.iconst 1, 1) := by decide +kernel
theorem dX8_matches_56 : decode cX8_matches 56 = .ok (.ireturn, 1) := by decide +kernel
theorem dX8_matches_57 : decode cX8_matches 57 = .ok (.iinc 4 1, 3) := by decide +kernel
theorem dX8_matches_60 : decode cX8_matches 60 = .ok (.goto (-46), 3) := by decide +kernel
theorem dX8_matches_63 : decode cX8_matches 63 = .ok (.iconst 0, 1) := by decide +kernel
theorem dX8_matches_64 : decode cX8_matches 64 = .ok (.ireturn, 1) := by decide +kernel
theorem dX8_decidesOf_0 : decode cX8_decidesOf 0 = .ok (.iconst 0, 1) := by decide +kernel
theorem dX8_decidesOf_1 : decode cX8_decidesOf 1 = .ok (.istore 4, 2) := by decide +kernel
theorem dX8_decidesOf_3 : decode cX8_decidesOf 3 = .ok (.iload 4, 2) := by decide +kernel
theorem dX8_decidesOf_5 : decode cX8_decidesOf 5 = .ok (.aload_n 0, 1) := by decide +kernel
theorem dX8_decidesOf_6 : decode cX8_decidesOf 6 = .ok (.getfield 13, 3) := by decide +kernel
theorem dX8_decidesOf_9 : decode cX8_decidesOf 9 = .ok (.iconst 1, 1) := by decide +kernel
theorem dX8_decidesOf_10 : decode cX8_decidesOf 10 = .ok (.iaload, 1) := by decide +kernel
theorem dX8_decidesOf_11 : decode cX8_decidesOf 11 = .ok (.if_icmp .ge 80, 3) := by decide +kernel
theorem dX8_decidesOf_14 : decode cX8_decidesOf 14 = .ok (.aload_n 0, 1) := by decide +kernel
theorem dX8_decidesOf_15 : decode cX8_decidesOf 15 = .ok (.getfield 13, 3) := by decide +kernel
theorem dX8_decidesOf_18 : decode cX8_decidesOf 18 = .ok (.bipush 7, 2) := by decide +kernel
theorem dX8_decidesOf_20 : decode cX8_decidesOf 20 = .ok (.iaload, 1) := by decide +kernel
theorem dX8_decidesOf_21 : decode cX8_decidesOf 21 = .ok (.ifCond .ne 21, 3) := by decide +kernel
theorem dX8_decidesOf_24 : decode cX8_decidesOf 24 = .ok (.aload_n 0, 1) := by decide +kernel
theorem dX8_decidesOf_25 : decode cX8_decidesOf 25 = .ok (.getfield 13, 3) := by decide +kernel
theorem dX8_decidesOf_28 : decode cX8_decidesOf 28 = .ok (.iload 4, 2) := by decide +kernel
theorem dX8_decidesOf_30 : decode cX8_decidesOf 30 = .ok (.iconst 0, 1) := by decide +kernel
theorem dX8_decidesOf_31 : decode cX8_decidesOf 31 = .ok (.invokestatic 167, 3) := by decide +kernel
theorem dX8_decidesOf_34 : decode cX8_decidesOf 34 = .ok (.iaload, 1) := by decide +kernel
theorem dX8_decidesOf_35 : decode cX8_decidesOf 35 = .ok (.iload_n 1, 1) := by decide +kernel
theorem dX8_decidesOf_36 : decode cX8_decidesOf 36 = .ok (.if_icmp .eq 6, 3) := by decide +kernel
theorem dX8_decidesOf_39 : decode cX8_decidesOf 39 = .ok (.goto 46, 3) := by decide +kernel
theorem dX8_decidesOf_42 : decode cX8_decidesOf 42 = .ok (.aload_n 0, 1) := by decide +kernel
theorem dX8_decidesOf_43 : decode cX8_decidesOf 43 = .ok (.aload_n 0, 1) := by decide +kernel
theorem dX8_decidesOf_44 : decode cX8_decidesOf 44 = .ok (.getfield 13, 3) := by decide +kernel
theorem dX8_decidesOf_47 : decode cX8_decidesOf 47 = .ok (.iload 4, 2) := by decide +kernel
theorem dX8_decidesOf_49 : decode cX8_decidesOf 49 = .ok (.iconst 2, 1) := by decide +kernel
theorem dX8_decidesOf_50 : decode cX8_decidesOf 50 = .ok (.invokestatic 167, 3) := by decide +kernel
theorem dX8_decidesOf_53 : decode cX8_decidesOf 53 = .ok (.iaload, 1) := by decide +kernel
theorem dX8_decidesOf_54 : decode cX8_decidesOf 54 = .ok (.iload_n 2, 1) := by decide +kernel
theorem dX8_decidesOf_55 : decode cX8_decidesOf 55 = .ok (.iload_n 1, 1) := by decide +kernel
theorem dX8_decidesOf_56 : decode cX8_decidesOf 56 = .ok (.invokevirtual 273, 3) := by decide +kernel
theorem dX8_decidesOf_59 : decode cX8_decidesOf 59 = .ok (.ifCond .eq 26, 3) := by decide +kernel
theorem dX8_decidesOf_62 : decode cX8_decidesOf 62 = .ok (.aload_n 0, 1) := by decide +kernel
theorem dX8_decidesOf_63 : decode cX8_decidesOf 63 = .ok (.aload_n 0, 1) := by decide +kernel
theorem dX8_decidesOf_64 : decode cX8_decidesOf 64 = .ok (.getfield 13, 3) := by decide +kernel
theorem dX8_decidesOf_67 : decode cX8_decidesOf 67 = .ok (.iload 4, 2) := by decide +kernel
theorem dX8_decidesOf_69 : decode cX8_decidesOf 69 = .ok (.iconst 3, 1) := by decide +kernel
theorem dX8_decidesOf_70 : decode cX8_decidesOf 70 = .ok (.invokestatic 167, 3) := by decide +kernel
theorem dX8_decidesOf_73 : decode cX8_decidesOf 73 = .ok (.iaload, 1) := by decide +kernel
theorem dX8_decidesOf_74 : decode cX8_decidesOf 74 = .ok (.iload_n 3, 1) := by decide +kernel
theorem dX8_decidesOf_75 : decode cX8_decidesOf 75 = .ok (.iload_n 1, 1) := by decide +kernel
theorem dX8_decidesOf_76 : decode cX8_decidesOf 76 = .ok (.invokevirtual 273, 3) := by decide +kernel
theorem dX8_decidesOf_79 : decode cX8_decidesOf 79 = .ok (.ifCond .eq 6, 3) := by decide +kernel
theorem dX8_decidesOf_82 : decode cX8_decidesOf 82 = .ok (.iload 4, 2) := by decide +kernel
theorem dX8_decidesOf_84 : decode cX8_decidesOf 84 = .ok (.ireturn, 1) := by decide +kernel
theorem dX8_decidesOf_85 : decode cX8_decidesOf 85 = .ok (.iinc 4 1, 3) := by decide +kernel
theorem dX8_decidesOf_88 : decode cX8_decidesOf 88 = .ok (.goto (-85), 3) := by decide +kernel
theorem dX8_decidesOf_91 : decode cX8_decidesOf 91 = .ok (.iconst (-1), 1) := by decide +kernel
theorem dX8_decidesOf_92 : decode cX8_decidesOf 92 = .ok (.ireturn, 1) := by decide +kernel
theorem dX8_allowsFor_0 : decode cX8_allowsFor 0 = .ok (.aload_n 0, 1) := by decide +kernel
theorem dX8_allowsFor_1 : decode cX8_allowsFor 1 = .ok (.iload_n 1, 1) := by decide +kernel
theorem dX8_allowsFor_2 : decode cX8_allowsFor 2 = .ok (.iload_n 2, 1) := by decide +kernel
theorem dX8_allowsFor_3 : decode cX8_allowsFor 3 = .ok (.iload_n 3, 1) := by decide +kernel
theorem dX8_allowsFor_4 : decode cX8_allowsFor 4 = .ok (.invokevirtual 277, 3) := by decide +kernel
theorem dX8_allowsFor_7 : decode cX8_allowsFor 7 = .ok (.istore 4, 2) := by decide +kernel
theorem dX8_allowsFor_9 : decode cX8_allowsFor 9 = .ok (.iload 4, 2) := by decide +kernel
theorem dX8_allowsFor_11 : decode cX8_allowsFor 11 = .ok (.iconst (-1), 1) := by decide +kernel
theorem dX8_allowsFor_12 : decode cX8_allowsFor 12 = .ok (.if_icmp .eq 22, 3) := by decide +kernel
theorem dX8_allowsFor_15 : decode cX8_allowsFor 15 = .ok (.aload_n 0, 1) := by decide +kernel
theorem dX8_allowsFor_16 : decode cX8_allowsFor 16 = .ok (.getfield 13, 3) := by decide +kernel
theorem dX8_allowsFor_19 : decode cX8_allowsFor 19 = .ok (.iload 4, 2) := by decide +kernel
theorem dX8_allowsFor_21 : decode cX8_allowsFor 21 = .ok (.iconst 1, 1) := by decide +kernel
theorem dX8_allowsFor_22 : decode cX8_allowsFor 22 = .ok (.invokestatic 167, 3) := by decide +kernel
theorem dX8_allowsFor_25 : decode cX8_allowsFor 25 = .ok (.iaload, 1) := by decide +kernel
theorem dX8_allowsFor_26 : decode cX8_allowsFor 26 = .ok (.iconst 1, 1) := by decide +kernel
theorem dX8_allowsFor_27 : decode cX8_allowsFor 27 = .ok (.if_icmp .ne 7, 3) := by decide +kernel
theorem dX8_allowsFor_30 : decode cX8_allowsFor 30 = .ok (.iconst 1, 1) := by decide +kernel
theorem dX8_allowsFor_31 : decode cX8_allowsFor 31 = .ok (.goto 4, 3) := by decide +kernel
theorem dX8_allowsFor_34 : decode cX8_allowsFor 34 = .ok (.iconst 0, 1) := by decide +kernel
theorem dX8_allowsFor_35 : decode cX8_allowsFor 35 = .ok (.ireturn, 1) := by decide +kernel
theorem dX8_reachOf_0 : decode cX8_reachOf 0 = .ok (.iconst 0, 1) := by decide +kernel
theorem dX8_reachOf_1 : decode cX8_reachOf 1 = .ok (.istore_n 2, 1) := by decide +kernel
theorem dX8_reachOf_2 : decode cX8_reachOf 2 = .ok (.iconst 0, 1) := by decide +kernel
theorem dX8_reachOf_3 : decode cX8_reachOf 3 = .ok (.istore_n 3, 1) := by decide +kernel
theorem dX8_reachOf_4 : decode cX8_reachOf 4 = .ok (.iload_n 3, 1) := by decide +kernel
theorem dX8_reachOf_5 : decode cX8_reachOf 5 = .ok (.aload_n 0, 1) := by decide +kernel
theorem dX8_reachOf_6 : decode cX8_reachOf 6 = .ok (.getfield 13, 3) := by decide +kernel
theorem dX8_reachOf_9 : decode cX8_reachOf 9 = .ok (.iconst 0, 1) := by decide +kernel
theorem dX8_reachOf_10 : decode cX8_reachOf 10 = .ok (.iaload, 1) := by decide +kernel
theorem dX8_reachOf_11 : decode cX8_reachOf 11 = .ok (.if_icmp .ge 56, 3) := by decide +kernel
theorem dX8_reachOf_14 : decode cX8_reachOf 14 = .ok (.iload_n 2, 1) := by decide +kernel
theorem dX8_reachOf_15 : decode cX8_reachOf 15 = .ok (.iload_n 3, 1) := by decide +kernel
theorem dX8_reachOf_16 : decode cX8_reachOf 16 = .ok (.iload_n 1, 1) := by decide +kernel
theorem dX8_reachOf_17 : decode cX8_reachOf 17 = .ok (.if_icmp .eq 41, 3) := by decide +kernel
theorem dX8_reachOf_20 : decode cX8_reachOf 20 = .ok (.aload_n 0, 1) := by decide +kernel
theorem dX8_reachOf_21 : decode cX8_reachOf 21 = .ok (.iload_n 1, 1) := by decide +kernel
theorem dX8_reachOf_22 : decode cX8_reachOf 22 = .ok (.iload_n 3, 1) := by decide +kernel
theorem dX8_reachOf_23 : decode cX8_reachOf 23 = .ok (.invokevirtual 233, 3) := by decide +kernel
theorem dX8_reachOf_26 : decode cX8_reachOf 26 = .ok (.ifCond .eq 32, 3) := by decide +kernel
theorem dX8_reachOf_29 : decode cX8_reachOf 29 = .ok (.aload_n 0, 1) := by decide +kernel
theorem dX8_reachOf_30 : decode cX8_reachOf 30 = .ok (.aload_n 0, 1) := by decide +kernel
theorem dX8_reachOf_31 : decode cX8_reachOf 31 = .ok (.iload_n 1, 1) := by decide +kernel
theorem dX8_reachOf_32 : decode cX8_reachOf 32 = .ok (.iconst 0, 1) := by decide +kernel
theorem dX8_reachOf_33 : decode cX8_reachOf 33 = .ok (.invokevirtual 218, 3) := by decide +kernel
theorem dX8_reachOf_36 : decode cX8_reachOf 36 = .ok (.aload_n 0, 1) := by decide +kernel
theorem dX8_reachOf_37 : decode cX8_reachOf 37 = .ok (.iload_n 1, 1) := by decide +kernel
theorem dX8_reachOf_38 : decode cX8_reachOf 38 = .ok (.iconst 1, 1) := by decide +kernel
theorem dX8_reachOf_39 : decode cX8_reachOf 39 = .ok (.invokevirtual 218, 3) := by decide +kernel
theorem dX8_reachOf_42 : decode cX8_reachOf 42 = .ok (.aload_n 0, 1) := by decide +kernel
theorem dX8_reachOf_43 : decode cX8_reachOf 43 = .ok (.iload_n 3, 1) := by decide +kernel
theorem dX8_reachOf_44 : decode cX8_reachOf 44 = .ok (.iconst 1, 1) := by decide +kernel
theorem dX8_reachOf_45 : decode cX8_reachOf 45 = .ok (.invokevirtual 218, 3) := by decide +kernel
theorem dX8_reachOf_48 : decode cX8_reachOf 48 = .ok (.invokevirtual 281, 3) := by decide +kernel
theorem dX8_reachOf_51 : decode cX8_reachOf 51 = .ok (.ifCond .eq 7, 3) := by decide +kernel
theorem dX8_reachOf_54 : decode cX8_reachOf 54 = .ok (.iconst 1, 1) := by decide +kernel
theorem dX8_reachOf_55 : decode cX8_reachOf 55 = .ok (.goto 4, 3) := by decide +kernel
theorem dX8_reachOf_58 : decode cX8_reachOf 58 = .ok (.iconst 0, 1) := by decide +kernel
theorem dX8_reachOf_59 : decode cX8_reachOf 59 = .ok (.iadd, 1) := by decide +kernel
theorem dX8_reachOf_60 : decode cX8_reachOf 60 = .ok (.istore_n 2, 1) := by decide +kernel
theorem dX8_reachOf_61 : decode cX8_reachOf 61 = .ok (.iinc 3 1, 3) := by decide +kernel
theorem dX8_reachOf_64 : decode cX8_reachOf 64 = .ok (.goto (-60), 3) := by decide +kernel
theorem dX8_reachOf_67 : decode cX8_reachOf 67 = .ok (.iload_n 2, 1) := by decide +kernel
theorem dX8_reachOf_68 : decode cX8_reachOf 68 = .ok (.ireturn, 1) := by decide +kernel
theorem dX8_plansNow_0 : decode cX8_plansNow 0 = .ok (.iconst 0, 1) := by decide +kernel
theorem dX8_plansNow_1 : decode cX8_plansNow 1 = .ok (.istore_n 1, 1) := by decide +kernel
theorem dX8_plansNow_2 : decode cX8_plansNow 2 = .ok (.iconst 0, 1) := by decide +kernel
theorem dX8_plansNow_3 : decode cX8_plansNow 3 = .ok (.istore_n 2, 1) := by decide +kernel
theorem dX8_plansNow_4 : decode cX8_plansNow 4 = .ok (.iload_n 2, 1) := by decide +kernel
theorem dX8_plansNow_5 : decode cX8_plansNow 5 = .ok (.aload_n 0, 1) := by decide +kernel
theorem dX8_plansNow_6 : decode cX8_plansNow 6 = .ok (.getfield 13, 3) := by decide +kernel
theorem dX8_plansNow_9 : decode cX8_plansNow 9 = .ok (.iconst 0, 1) := by decide +kernel
theorem dX8_plansNow_10 : decode cX8_plansNow 10 = .ok (.iaload, 1) := by decide +kernel
theorem dX8_plansNow_11 : decode cX8_plansNow 11 = .ok (.if_icmp .ge 26, 3) := by decide +kernel
theorem dX8_plansNow_14 : decode cX8_plansNow 14 = .ok (.iload_n 1, 1) := by decide +kernel
theorem dX8_plansNow_15 : decode cX8_plansNow 15 = .ok (.aload_n 0, 1) := by decide +kernel
theorem dX8_plansNow_16 : decode cX8_plansNow 16 = .ok (.iload_n 2, 1) := by decide +kernel
theorem dX8_plansNow_17 : decode cX8_plansNow 17 = .ok (.iconst 4, 1) := by decide +kernel
theorem dX8_plansNow_18 : decode cX8_plansNow 18 = .ok (.invokevirtual 218, 3) := by decide +kernel
theorem dX8_plansNow_21 : decode cX8_plansNow 21 = .ok (.ifCond .le 7, 3) := by decide +kernel
theorem dX8_plansNow_24 : decode cX8_plansNow 24 = .ok (.iconst 1, 1) := by decide +kernel
theorem dX8_plansNow_25 : decode cX8_plansNow 25 = .ok (.goto 4, 3) := by decide +kernel
theorem dX8_plansNow_28 : decode cX8_plansNow 28 = .ok (.iconst 0, 1) := by decide +kernel
theorem dX8_plansNow_29 : decode cX8_plansNow 29 = .ok (.iadd, 1) := by decide +kernel
theorem dX8_plansNow_30 : decode cX8_plansNow 30 = .ok (.istore_n 1, 1) := by decide +kernel
theorem dX8_plansNow_31 : decode cX8_plansNow 31 = .ok (.iinc 2 1, 3) := by decide +kernel
theorem dX8_plansNow_34 : decode cX8_plansNow 34 = .ok (.goto (-30), 3) := by decide +kernel
theorem dX8_plansNow_37 : decode cX8_plansNow 37 = .ok (.iload_n 1, 1) := by decide +kernel
theorem dX8_plansNow_38 : decode cX8_plansNow 38 = .ok (.ireturn, 1) := by decide +kernel
theorem dX8_keeping_0 : decode cX8_keeping 0 = .ok (.iconst 0, 1) := by decide +kernel
theorem dX8_keeping_1 : decode cX8_keeping 1 = .ok (.istore_n 1, 1) := by decide +kernel
theorem dX8_keeping_2 : decode cX8_keeping 2 = .ok (.iconst 0, 1) := by decide +kernel
theorem dX8_keeping_3 : decode cX8_keeping 3 = .ok (.istore_n 2, 1) := by decide +kernel
theorem dX8_keeping_4 : decode cX8_keeping 4 = .ok (.iload_n 2, 1) := by decide +kernel
theorem dX8_keeping_5 : decode cX8_keeping 5 = .ok (.aload_n 0, 1) := by decide +kernel
theorem dX8_keeping_6 : decode cX8_keeping 6 = .ok (.getfield 13, 3) := by decide +kernel
theorem dX8_keeping_9 : decode cX8_keeping 9 = .ok (.iconst 0, 1) := by decide +kernel
theorem dX8_keeping_10 : decode cX8_keeping 10 = .ok (.iaload, 1) := by decide +kernel
theorem dX8_keeping_11 : decode cX8_keeping 11 = .ok (.if_icmp .ge 25, 3) := by decide +kernel
theorem dX8_keeping_14 : decode cX8_keeping 14 = .ok (.iload_n 1, 1) := by decide +kernel
theorem dX8_keeping_15 : decode cX8_keeping 15 = .ok (.aload_n 0, 1) := by decide +kernel
theorem dX8_keeping_16 : decode cX8_keeping 16 = .ok (.iload_n 2, 1) := by decide +kernel
theorem dX8_keeping_17 : decode cX8_keeping 17 = .ok (.invokevirtual 227, 3) := by decide +kernel
theorem dX8_keeping_20 : decode cX8_keeping 20 = .ok (.ifCond .le 7, 3) := by decide +kernel
theorem dX8_keeping_23 : decode cX8_keeping 23 = .ok (.iconst 1, 1) := by decide +kernel
theorem dX8_keeping_24 : decode cX8_keeping 24 = .ok (.goto 4, 3) := by decide +kernel
theorem dX8_keeping_27 : decode cX8_keeping 27 = .ok (.iconst 0, 1) := by decide +kernel
theorem dX8_keeping_28 : decode cX8_keeping 28 = .ok (.iadd, 1) := by decide +kernel
theorem dX8_keeping_29 : decode cX8_keeping 29 = .ok (.istore_n 1, 1) := by decide +kernel
theorem dX8_keeping_30 : decode cX8_keeping 30 = .ok (.iinc 2 1, 3) := by decide +kernel
theorem dX8_keeping_33 : decode cX8_keeping 33 = .ok (.goto (-29), 3) := by decide +kernel
theorem dX8_keeping_36 : decode cX8_keeping 36 = .ok (.iload_n 1, 1) := by decide +kernel
theorem dX8_keeping_37 : decode cX8_keeping 37 = .ok (.ireturn, 1) := by decide +kernel
theorem dX8_size_0 : decode cX8_size 0 = .ok (.aload_n 0, 1) := by decide +kernel
theorem dX8_size_1 : decode cX8_size 1 = .ok (.iconst 0, 1) := by decide +kernel
theorem dX8_size_2 : decode cX8_size 2 = .ok (.putfield 1, 3) := by decide +kernel
theorem dX8_size_5 : decode cX8_size 5 = .ok (.aload_n 0, 1) := by decide +kernel
theorem dX8_size_6 : decode cX8_size 6 = .ok (.iload_n 1, 1) := by decide +kernel
theorem dX8_size_7 : decode cX8_size 7 = .ok (.i2l, 1) := by decide +kernel
theorem dX8_size_8 : decode cX8_size 8 = .ok (.lconst 0, 1) := by decide +kernel
theorem dX8_size_9 : decode cX8_size 9 = .ok (.ldc2_w 284, 3) := by decide +kernel
theorem dX8_size_12 : decode cX8_size 12 = .ok (.invokestatic 125, 3) := by decide +kernel
theorem dX8_size_15 : decode cX8_size 15 = .ok (.iconst 1, 1) := by decide +kernel
theorem dX8_size_16 : decode cX8_size 16 = .ok (.invokevirtual 201, 3) := by decide +kernel
theorem dX8_size_19 : decode cX8_size 19 = .ok (.ifCond .eq 5, 3) := by decide +kernel
theorem dX8_size_22 : decode cX8_size 22 = .ok (.iconst 0, 1) := by decide +kernel
theorem dX8_size_23 : decode cX8_size 23 = .ok (.ireturn, 1) := by decide +kernel
theorem dX8_size_24 : decode cX8_size 24 = .ok (.iload_n 1, 1) := by decide +kernel
theorem dX8_size_25 : decode cX8_size 25 = .ok (.tableswitch 123 0 9 #[55, 62, 69, 74, 81, 88, 95, 102, 110, 118], 55) := by decide +kernel
theorem dX8_size_80 : decode cX8_size 80 = .ok (.aload_n 0, 1) := by decide +kernel
theorem dX8_size_81 : decode cX8_size 81 = .ok (.getfield 13, 3) := by decide +kernel
theorem dX8_size_84 : decode cX8_size 84 = .ok (.iconst 0, 1) := by decide +kernel
theorem dX8_size_85 : decode cX8_size 85 = .ok (.iaload, 1) := by decide +kernel
theorem dX8_size_86 : decode cX8_size 86 = .ok (.ireturn, 1) := by decide +kernel
theorem dX8_size_87 : decode cX8_size 87 = .ok (.aload_n 0, 1) := by decide +kernel
theorem dX8_size_88 : decode cX8_size 88 = .ok (.getfield 13, 3) := by decide +kernel
theorem dX8_size_91 : decode cX8_size 91 = .ok (.iconst 1, 1) := by decide +kernel
theorem dX8_size_92 : decode cX8_size 92 = .ok (.iaload, 1) := by decide +kernel
theorem dX8_size_93 : decode cX8_size 93 = .ok (.ireturn, 1) := by decide +kernel
theorem dX8_size_94 : decode cX8_size 94 = .ok (.aload_n 0, 1) := by decide +kernel
theorem dX8_size_95 : decode cX8_size 95 = .ok (.invokevirtual 286, 3) := by decide +kernel
theorem dX8_size_98 : decode cX8_size 98 = .ok (.ireturn, 1) := by decide +kernel
theorem dX8_size_99 : decode cX8_size 99 = .ok (.aload_n 0, 1) := by decide +kernel
theorem dX8_size_100 : decode cX8_size 100 = .ok (.getfield 13, 3) := by decide +kernel
theorem dX8_size_103 : decode cX8_size 103 = .ok (.iconst 2, 1) := by decide +kernel
theorem dX8_size_104 : decode cX8_size 104 = .ok (.iaload, 1) := by decide +kernel
theorem dX8_size_105 : decode cX8_size 105 = .ok (.ireturn, 1) := by decide +kernel
theorem dX8_size_106 : decode cX8_size 106 = .ok (.aload_n 0, 1) := by decide +kernel
theorem dX8_size_107 : decode cX8_size 107 = .ok (.getfield 13, 3) := by decide +kernel
theorem dX8_size_110 : decode cX8_size 110 = .ok (.iconst 3, 1) := by decide +kernel
theorem dX8_size_111 : decode cX8_size 111 = .ok (.iaload, 1) := by decide +kernel
theorem dX8_size_112 : decode cX8_size 112 = .ok (.ireturn, 1) := by decide +kernel
theorem dX8_size_113 : decode cX8_size 113 = .ok (.aload_n 0, 1) := by decide +kernel
theorem dX8_size_114 : decode cX8_size 114 = .ok (.getfield 13, 3) := by decide +kernel
theorem dX8_size_117 : decode cX8_size 117 = .ok (.iconst 4, 1) := by decide +kernel
theorem dX8_size_118 : decode cX8_size 118 = .ok (.iaload, 1) := by decide +kernel
theorem dX8_size_119 : decode cX8_size 119 = .ok (.ireturn, 1) := by decide +kernel
theorem dX8_size_120 : decode cX8_size 120 = .ok (.aload_n 0, 1) := by decide +kernel
theorem dX8_size_121 : decode cX8_size 121 = .ok (.getfield 13, 3) := by decide +kernel
theorem dX8_size_124 : decode cX8_size 124 = .ok (.iconst 5, 1) := by decide +kernel
theorem dX8_size_125 : decode cX8_size 125 = .ok (.iaload, 1) := by decide +kernel
theorem dX8_size_126 : decode cX8_size 126 = .ok (.ireturn, 1) := by decide +kernel
theorem dX8_size_127 : decode cX8_size 127 = .ok (.aload_n 0, 1) := by decide +kernel
theorem dX8_size_128 : decode cX8_size 128 = .ok (.getfield 13, 3) := by decide +kernel
theorem dX8_size_131 : decode cX8_size 131 = .ok (.bipush 6, 2) := by decide +kernel
theorem dX8_size_133 : decode cX8_size 133 = .ok (.iaload, 1) := by decide +kernel
theorem dX8_size_134 : decode cX8_size 134 = .ok (.ireturn, 1) := by decide +kernel
theorem dX8_size_135 : decode cX8_size 135 = .ok (.aload_n 0, 1) := by decide +kernel
theorem dX8_size_136 : decode cX8_size 136 = .ok (.getfield 13, 3) := by decide +kernel
theorem dX8_size_139 : decode cX8_size 139 = .ok (.bipush 7, 2) := by decide +kernel
theorem dX8_size_141 : decode cX8_size 141 = .ok (.iaload, 1) := by decide +kernel
theorem dX8_size_142 : decode cX8_size 142 = .ok (.ireturn, 1) := by decide +kernel
theorem dX8_size_143 : decode cX8_size 143 = .ok (.aload_n 0, 1) := by decide +kernel
theorem dX8_size_144 : decode cX8_size 144 = .ok (.invokevirtual 289, 3) := by decide +kernel
theorem dX8_size_147 : decode cX8_size 147 = .ok (.ireturn, 1) := by decide +kernel
theorem dX8_size_148 : decode cX8_size 148 = .ok (.aload_n 0, 1) := by decide +kernel
theorem dX8_size_149 : decode cX8_size 149 = .ok (.invokevirtual 292, 3) := by decide +kernel
theorem dX8_size_152 : decode cX8_size 152 = .ok (.ireturn, 1) := by decide +kernel
theorem dX8_isHost_0 : decode cX8_isHost 0 = .ok (.iload_n 1, 1) := by decide +kernel
theorem dX8_isHost_1 : decode cX8_isHost 1 = .ok (.i2l, 1) := by decide +kernel
theorem dX8_isHost_2 : decode cX8_isHost 2 = .ok (.lconst 0, 1) := by decide +kernel
theorem dX8_isHost_3 : decode cX8_isHost 3 = .ok (.aload_n 0, 1) := by decide +kernel
theorem dX8_isHost_4 : decode cX8_isHost 4 = .ok (.getfield 13, 3) := by decide +kernel
theorem dX8_isHost_7 : decode cX8_isHost 7 = .ok (.iconst 0, 1) := by decide +kernel
theorem dX8_isHost_8 : decode cX8_isHost 8 = .ok (.iaload, 1) := by decide +kernel
theorem dX8_isHost_9 : decode cX8_isHost 9 = .ok (.iconst 1, 1) := by decide +kernel
theorem dX8_isHost_10 : decode cX8_isHost 10 = .ok (.isub, 1) := by decide +kernel
theorem dX8_isHost_11 : decode cX8_isHost 11 = .ok (.i2l, 1) := by decide +kernel
theorem dX8_isHost_12 : decode cX8_isHost 12 = .ok (.invokestatic 125, 3) := by decide +kernel
theorem dX8_isHost_15 : decode cX8_isHost 15 = .ok (.ireturn, 1) := by decide +kernel
theorem dX8_host_0 : decode cX8_host 0 = .ok (.aload_n 0, 1) := by decide +kernel
theorem dX8_host_1 : decode cX8_host 1 = .ok (.iconst 0, 1) := by decide +kernel
theorem dX8_host_2 : decode cX8_host 2 = .ok (.putfield 1, 3) := by decide +kernel
theorem dX8_host_5 : decode cX8_host 5 = .ok (.aload_n 0, 1) := by decide +kernel
theorem dX8_host_6 : decode cX8_host 6 = .ok (.aload_n 0, 1) := by decide +kernel
theorem dX8_host_7 : decode cX8_host 7 = .ok (.iload_n 1, 1) := by decide +kernel
theorem dX8_host_8 : decode cX8_host 8 = .ok (.invokevirtual 295, 3) := by decide +kernel
theorem dX8_host_11 : decode cX8_host 11 = .ok (.ifCond .eq 19, 3) := by decide +kernel
theorem dX8_host_14 : decode cX8_host 14 = .ok (.iload_n 2, 1) := by decide +kernel
theorem dX8_host_15 : decode cX8_host 15 = .ok (.i2l, 1) := by decide +kernel
theorem dX8_host_16 : decode cX8_host 16 = .ok (.lconst 0, 1) := by decide +kernel
theorem dX8_host_17 : decode cX8_host 17 = .ok (.ldc2_w 298, 3) := by decide +kernel
theorem dX8_host_20 : decode cX8_host 20 = .ok (.invokestatic 125, 3) := by decide +kernel
theorem dX8_host_23 : decode cX8_host 23 = .ok (.ifCond .eq 7, 3) := by decide +kernel
theorem dX8_host_26 : decode cX8_host 26 = .ok (.iconst 1, 1) := by decide +kernel
theorem dX8_host_27 : decode cX8_host 27 = .ok (.goto 4, 3) := by decide +kernel
theorem dX8_host_30 : decode cX8_host 30 = .ok (.iconst 0, 1) := by decide +kernel
theorem dX8_host_31 : decode cX8_host 31 = .ok (.iconst 1, 1) := by decide +kernel
theorem dX8_host_32 : decode cX8_host 32 = .ok (.invokevirtual 201, 3) := by decide +kernel
theorem dX8_host_35 : decode cX8_host 35 = .ok (.ifCond .eq 5, 3) := by decide +kernel
theorem dX8_host_38 : decode cX8_host 38 = .ok (.iconst 0, 1) := by decide +kernel
theorem dX8_host_39 : decode cX8_host 39 = .ok (.ireturn, 1) := by decide +kernel
theorem dX8_host_40 : decode cX8_host 40 = .ok (.iload_n 2, 1) := by decide +kernel
theorem dX8_host_41 : decode cX8_host 41 = .ok (.tableswitch 80 0 5 #[39, 46, 53, 59, 66, 73], 39) := by decide +kernel
theorem dX8_host_80 : decode cX8_host 80 = .ok (.aload_n 0, 1) := by decide +kernel
theorem dX8_host_81 : decode cX8_host 81 = .ok (.iload_n 1, 1) := by decide +kernel
theorem dX8_host_82 : decode cX8_host 82 = .ok (.iconst 0, 1) := by decide +kernel
theorem dX8_host_83 : decode cX8_host 83 = .ok (.invokevirtual 218, 3) := by decide +kernel
theorem dX8_host_86 : decode cX8_host 86 = .ok (.ireturn, 1) := by decide +kernel
theorem dX8_host_87 : decode cX8_host 87 = .ok (.aload_n 0, 1) := by decide +kernel
theorem dX8_host_88 : decode cX8_host 88 = .ok (.iload_n 1, 1) := by decide +kernel
theorem dX8_host_89 : decode cX8_host 89 = .ok (.iconst 1, 1) := by decide +kernel
theorem dX8_host_90 : decode cX8_host 90 = .ok (.invokevirtual 218, 3) := by decide +kernel
theorem dX8_host_93 : decode cX8_host 93 = .ok (.ireturn, 1) := by decide +kernel
theorem dX8_host_94 : decode cX8_host 94 = .ok (.aload_n 0, 1) := by decide +kernel
theorem dX8_host_95 : decode cX8_host 95 = .ok (.iload_n 1, 1) := by decide +kernel
theorem dX8_host_96 : decode cX8_host 96 = .ok (.invokevirtual 227, 3) := by decide +kernel
theorem dX8_host_99 : decode cX8_host 99 = .ok (.ireturn, 1) := by decide +kernel
theorem dX8_host_100 : decode cX8_host 100 = .ok (.aload_n 0, 1) := by decide +kernel
theorem dX8_host_101 : decode cX8_host 101 = .ok (.iload_n 1, 1) := by decide +kernel
theorem dX8_host_102 : decode cX8_host 102 = .ok (.iconst 2, 1) := by decide +kernel
theorem dX8_host_103 : decode cX8_host 103 = .ok (.invokevirtual 218, 3) := by decide +kernel
theorem dX8_host_106 : decode cX8_host 106 = .ok (.ireturn, 1) := by decide +kernel
theorem dX8_host_107 : decode cX8_host 107 = .ok (.aload_n 0, 1) := by decide +kernel
theorem dX8_host_108 : decode cX8_host 108 = .ok (.iload_n 1, 1) := by decide +kernel
theorem dX8_host_109 : decode cX8_host 109 = .ok (.iconst 3, 1) := by decide +kernel
theorem dX8_host_110 : decode cX8_host 110 = .ok (.invokevirtual 218, 3) := by decide +kernel
theorem dX8_host_113 : decode cX8_host 113 = .ok (.ireturn, 1) := by decide +kernel
theorem dX8_host_114 : decode cX8_host 114 = .ok (.aload_n 0, 1) := by decide +kernel
theorem dX8_host_115 : decode cX8_host 115 = .ok (.iload_n 1, 1) := by decide +kernel
theorem dX8_host_116 : decode cX8_host 116 = .ok (.iconst 4, 1) := by decide +kernel
theorem dX8_host_117 : decode cX8_host 117 = .ok (.invokevirtual 218, 3) := by decide +kernel
theorem dX8_host_120 : decode cX8_host 120 = .ok (.ireturn, 1) := by decide +kernel
theorem dX8_host_121 : decode cX8_host 121 = .ok (.aload_n 0, 1) := by decide +kernel
theorem dX8_host_122 : decode cX8_host 122 = .ok (.iload_n 1, 1) := by decide +kernel
theorem dX8_host_123 : decode cX8_host 123 = .ok (.invokevirtual 221, 3) := by decide +kernel
theorem dX8_host_126 : decode cX8_host 126 = .ok (.ireturn, 1) := by decide +kernel
theorem dX8_name_0 : decode cX8_name 0 = .ok (.aload_n 0, 1) := by decide +kernel
theorem dX8_name_1 : decode cX8_name 1 = .ok (.iconst 0, 1) := by decide +kernel
theorem dX8_name_2 : decode cX8_name 2 = .ok (.putfield 1, 3) := by decide +kernel
theorem dX8_name_5 : decode cX8_name 5 = .ok (.aload_n 0, 1) := by decide +kernel
theorem dX8_name_6 : decode cX8_name 6 = .ok (.aload_n 0, 1) := by decide +kernel
theorem dX8_name_7 : decode cX8_name 7 = .ok (.iload_n 1, 1) := by decide +kernel
theorem dX8_name_8 : decode cX8_name 8 = .ok (.invokevirtual 295, 3) := by decide +kernel
theorem dX8_name_11 : decode cX8_name 11 = .ok (.iconst 1, 1) := by decide +kernel
theorem dX8_name_12 : decode cX8_name 12 = .ok (.invokevirtual 201, 3) := by decide +kernel
theorem dX8_name_15 : decode cX8_name 15 = .ok (.ifCond .eq 5, 3) := by decide +kernel
theorem dX8_name_18 : decode cX8_name 18 = .ok (.iconst 0, 1) := by decide +kernel
theorem dX8_name_19 : decode cX8_name 19 = .ok (.ireturn, 1) := by decide +kernel
theorem dX8_name_20 : decode cX8_name 20 = .ok (.iload_n 2, 1) := by decide +kernel
theorem dX8_name_21 : decode cX8_name 21 = .ok (.i2l, 1) := by decide +kernel
theorem dX8_name_22 : decode cX8_name 22 = .ok (.lconst 0, 1) := by decide +kernel
theorem dX8_name_23 : decode cX8_name 23 = .ok (.aload_n 0, 1) := by decide +kernel
theorem dX8_name_24 : decode cX8_name 24 = .ok (.iload_n 1, 1) := by decide +kernel
theorem dX8_name_25 : decode cX8_name 25 = .ok (.iconst 5, 1) := by decide +kernel
theorem dX8_name_26 : decode cX8_name 26 = .ok (.invokevirtual 218, 3) := by decide +kernel
theorem dX8_name_29 : decode cX8_name 29 = .ok (.iconst 1, 1) := by decide +kernel
theorem dX8_name_30 : decode cX8_name 30 = .ok (.isub, 1) := by decide +kernel
theorem dX8_name_31 : decode cX8_name 31 = .ok (.i2l, 1) := by decide +kernel
theorem dX8_name_32 : decode cX8_name 32 = .ok (.invokestatic 125, 3) := by decide +kernel
theorem dX8_name_35 : decode cX8_name 35 = .ok (.ifCond .eq 15, 3) := by decide +kernel
theorem dX8_name_38 : decode cX8_name 38 = .ok (.aload_n 0, 1) := by decide +kernel
theorem dX8_name_39 : decode cX8_name 39 = .ok (.iload_n 1, 1) := by decide +kernel
theorem dX8_name_40 : decode cX8_name 40 = .ok (.bipush 6, 2) := by decide +kernel
theorem dX8_name_42 : decode cX8_name 42 = .ok (.iload_n 2, 1) := by decide +kernel
theorem dX8_name_43 : decode cX8_name 43 = .ok (.iadd, 1) := by decide +kernel
theorem dX8_name_44 : decode cX8_name 44 = .ok (.invokevirtual 218, 3) := by decide +kernel
theorem dX8_name_47 : decode cX8_name 47 = .ok (.goto 4, 3) := by decide +kernel
theorem dX8_name_50 : decode cX8_name 50 = .ok (.iconst (-1), 1) := by decide +kernel
theorem dX8_name_51 : decode cX8_name 51 = .ok (.ireturn, 1) := by decide +kernel
theorem dX8_isOffice_0 : decode cX8_isOffice 0 = .ok (.iload_n 0, 1) := by decide +kernel
theorem dX8_isOffice_1 : decode cX8_isOffice 1 = .ok (.i2l, 1) := by decide +kernel
theorem dX8_isOffice_2 : decode cX8_isOffice 2 = .ok (.lconst 0, 1) := by decide +kernel
theorem dX8_isOffice_3 : decode cX8_isOffice 3 = .ok (.lconst 1, 1) := by decide +kernel
theorem dX8_isOffice_4 : decode cX8_isOffice 4 = .ok (.invokestatic 125, 3) := by decide +kernel
theorem dX8_isOffice_7 : decode cX8_isOffice 7 = .ok (.ireturn, 1) := by decide +kernel
theorem dX8_isNumber_0 : decode cX8_isNumber 0 = .ok (.iload_n 0, 1) := by decide +kernel
theorem dX8_isNumber_1 : decode cX8_isNumber 1 = .ok (.i2l, 1) := by decide +kernel
theorem dX8_isNumber_2 : decode cX8_isNumber 2 = .ok (.lconst 1, 1) := by decide +kernel
theorem dX8_isNumber_3 : decode cX8_isNumber 3 = .ok (.ldc2_w 157, 3) := by decide +kernel
theorem dX8_isNumber_6 : decode cX8_isNumber 6 = .ok (.invokestatic 125, 3) := by decide +kernel
theorem dX8_isNumber_9 : decode cX8_isNumber 9 = .ok (.ireturn, 1) := by decide +kernel
theorem dX8_isWave_0 : decode cX8_isWave 0 = .ok (.iload_n 0, 1) := by decide +kernel
theorem dX8_isWave_1 : decode cX8_isWave 1 = .ok (.i2l, 1) := by decide +kernel
theorem dX8_isWave_2 : decode cX8_isWave 2 = .ok (.lconst 1, 1) := by decide +kernel
theorem dX8_isWave_3 : decode cX8_isWave 3 = .ok (.ldc2_w 177, 3) := by decide +kernel
theorem dX8_isWave_6 : decode cX8_isWave 6 = .ok (.invokestatic 125, 3) := by decide +kernel
theorem dX8_isWave_9 : decode cX8_isWave 9 = .ok (.ireturn, 1) := by decide +kernel
theorem dX8_holder_0 : decode cX8_holder 0 = .ok (.aload_n 0, 1) := by decide +kernel
theorem dX8_holder_1 : decode cX8_holder 1 = .ok (.iconst 0, 1) := by decide +kernel
theorem dX8_holder_2 : decode cX8_holder 2 = .ok (.putfield 1, 3) := by decide +kernel
theorem dX8_holder_5 : decode cX8_holder 5 = .ok (.aload_n 0, 1) := by decide +kernel
theorem dX8_holder_6 : decode cX8_holder 6 = .ok (.iload_n 1, 1) := by decide +kernel
theorem dX8_holder_7 : decode cX8_holder 7 = .ok (.invokestatic 300, 3) := by decide +kernel
theorem dX8_holder_10 : decode cX8_holder 10 = .ok (.iconst 1, 1) := by decide +kernel
theorem dX8_holder_11 : decode cX8_holder 11 = .ok (.invokevirtual 201, 3) := by decide +kernel
theorem dX8_holder_14 : decode cX8_holder 14 = .ok (.ifCond .ne 15, 3) := by decide +kernel
theorem dX8_holder_17 : decode cX8_holder 17 = .ok (.aload_n 0, 1) := by decide +kernel
theorem dX8_holder_18 : decode cX8_holder 18 = .ok (.iload_n 2, 1) := by decide +kernel
theorem dX8_holder_19 : decode cX8_holder 19 = .ok (.invokestatic 303, 3) := by decide +kernel
theorem dX8_holder_22 : decode cX8_holder 22 = .ok (.iconst 2, 1) := by decide +kernel
theorem dX8_holder_23 : decode cX8_holder 23 = .ok (.invokevirtual 201, 3) := by decide +kernel
theorem dX8_holder_26 : decode cX8_holder 26 = .ok (.ifCond .eq 7, 3) := by decide +kernel
theorem dX8_holder_29 : decode cX8_holder 29 = .ok (.iconst 0, 1) := by decide +kernel
theorem dX8_holder_30 : decode cX8_holder 30 = .ok (.goto 9, 3) := by decide +kernel
theorem dX8_holder_33 : decode cX8_holder 33 = .ok (.aload_n 0, 1) := by decide +kernel
theorem dX8_holder_34 : decode cX8_holder 34 = .ok (.iload_n 1, 1) := by decide +kernel
theorem dX8_holder_35 : decode cX8_holder 35 = .ok (.iload_n 2, 1) := by decide +kernel
theorem dX8_holder_36 : decode cX8_holder 36 = .ok (.invokevirtual 236, 3) := by decide +kernel
theorem dX8_holder_39 : decode cX8_holder 39 = .ok (.ireturn, 1) := by decide +kernel
theorem dX8_clash_0 : decode cX8_clash 0 = .ok (.aload_n 0, 1) := by decide +kernel
theorem dX8_clash_1 : decode cX8_clash 1 = .ok (.iconst 0, 1) := by decide +kernel
theorem dX8_clash_2 : decode cX8_clash 2 = .ok (.putfield 1, 3) := by decide +kernel
theorem dX8_clash_5 : decode cX8_clash 5 = .ok (.iload_n 1, 1) := by decide +kernel
theorem dX8_clash_6 : decode cX8_clash 6 = .ok (.istore_n 2, 1) := by decide +kernel
theorem dX8_clash_7 : decode cX8_clash 7 = .ok (.iconst 1, 1) := by decide +kernel
theorem dX8_clash_8 : decode cX8_clash 8 = .ok (.istore_n 3, 1) := by decide +kernel
theorem dX8_clash_9 : decode cX8_clash 9 = .ok (.iload_n 3, 1) := by decide +kernel
theorem dX8_clash_10 : decode cX8_clash 10 = .ok (.sipush 250, 3) := by decide +kernel
theorem dX8_clash_13 : decode cX8_clash 13 = .ok (.if_icmp .gt 29, 3) := by decide +kernel
theorem dX8_clash_16 : decode cX8_clash 16 = .ok (.aload_n 0, 1) := by decide +kernel
theorem dX8_clash_17 : decode cX8_clash 17 = .ok (.iload_n 3, 1) := by decide +kernel
theorem dX8_clash_18 : decode cX8_clash 18 = .ok (.invokevirtual 239, 3) := by decide +kernel
theorem dX8_clash_21 : decode cX8_clash 21 = .ok (.ifCond .ne 6, 3) := by decide +kernel
theorem dX8_clash_24 : decode cX8_clash 24 = .ok (.goto 12, 3) := by decide +kernel
theorem dX8_clash_27 : decode cX8_clash 27 = .ok (.iload_n 2, 1) := by decide +kernel
theorem dX8_clash_28 : decode cX8_clash 28 = .ok (.ifCond .ne 5, 3) := by decide +kernel
theorem dX8_clash_31 : decode cX8_clash 31 = .ok (.iload_n 3, 1) := by decide +kernel
theorem dX8_clash_32 : decode cX8_clash 32 = .ok (.ireturn, 1) := by decide +kernel
theorem dX8_clash_33 : decode cX8_clash 33 = .ok (.iinc 2 (-1), 3) := by decide +kernel
theorem dX8_clash_36 : decode cX8_clash 36 = .ok (.iinc 3 1, 3) := by decide +kernel
theorem dX8_clash_39 : decode cX8_clash 39 = .ok (.goto (-30), 3) := by decide +kernel
theorem dX8_clash_42 : decode cX8_clash 42 = .ok (.aload_n 0, 1) := by decide +kernel
theorem dX8_clash_43 : decode cX8_clash 43 = .ok (.iconst 1, 1) := by decide +kernel
theorem dX8_clash_44 : decode cX8_clash 44 = .ok (.putfield 1, 3) := by decide +kernel
theorem dX8_clash_47 : decode cX8_clash 47 = .ok (.iconst 0, 1) := by decide +kernel
theorem dX8_clash_48 : decode cX8_clash 48 = .ok (.ireturn, 1) := by decide +kernel
theorem dX8_plans_0 : decode cX8_plans 0 = .ok (.aload_n 0, 1) := by decide +kernel
theorem dX8_plans_1 : decode cX8_plans 1 = .ok (.iconst 0, 1) := by decide +kernel
theorem dX8_plans_2 : decode cX8_plans 2 = .ok (.putfield 1, 3) := by decide +kernel
theorem dX8_plans_5 : decode cX8_plans 5 = .ok (.aload_n 0, 1) := by decide +kernel
theorem dX8_plans_6 : decode cX8_plans 6 = .ok (.iload_n 1, 1) := by decide +kernel
theorem dX8_plans_7 : decode cX8_plans 7 = .ok (.invokestatic 306, 3) := by decide +kernel
theorem dX8_plans_10 : decode cX8_plans 10 = .ok (.iconst 1, 1) := by decide +kernel
theorem dX8_plans_11 : decode cX8_plans 11 = .ok (.invokevirtual 201, 3) := by decide +kernel
theorem dX8_plans_14 : decode cX8_plans 14 = .ok (.ifCond .eq 7, 3) := by decide +kernel
theorem dX8_plans_17 : decode cX8_plans 17 = .ok (.iconst 0, 1) := by decide +kernel
theorem dX8_plans_18 : decode cX8_plans 18 = .ok (.goto 12, 3) := by decide +kernel
theorem dX8_plans_21 : decode cX8_plans 21 = .ok (.aload_n 0, 1) := by decide +kernel
theorem dX8_plans_22 : decode cX8_plans 22 = .ok (.aload_n 0, 1) := by decide +kernel
theorem dX8_plans_23 : decode cX8_plans 23 = .ok (.getfield 13, 3) := by decide +kernel
theorem dX8_plans_26 : decode cX8_plans 26 = .ok (.iload_n 1, 1) := by decide +kernel
theorem dX8_plans_27 : decode cX8_plans 27 = .ok (.invokevirtual 179, 3) := by decide +kernel
theorem dX8_plans_30 : decode cX8_plans 30 = .ok (.ireturn, 1) := by decide +kernel
theorem dX8_isRule_0 : decode cX8_isRule 0 = .ok (.iload_n 1, 1) := by decide +kernel
theorem dX8_isRule_1 : decode cX8_isRule 1 = .ok (.i2l, 1) := by decide +kernel
theorem dX8_isRule_2 : decode cX8_isRule 2 = .ok (.lconst 0, 1) := by decide +kernel
theorem dX8_isRule_3 : decode cX8_isRule 3 = .ok (.aload_n 0, 1) := by decide +kernel
theorem dX8_isRule_4 : decode cX8_isRule 4 = .ok (.getfield 13, 3) := by decide +kernel
theorem dX8_isRule_7 : decode cX8_isRule 7 = .ok (.iconst 1, 1) := by decide +kernel
theorem dX8_isRule_8 : decode cX8_isRule 8 = .ok (.iaload, 1) := by decide +kernel
theorem dX8_isRule_9 : decode cX8_isRule 9 = .ok (.iconst 1, 1) := by decide +kernel
theorem dX8_isRule_10 : decode cX8_isRule 10 = .ok (.isub, 1) := by decide +kernel
theorem dX8_isRule_11 : decode cX8_isRule 11 = .ok (.i2l, 1) := by decide +kernel
theorem dX8_isRule_12 : decode cX8_isRule 12 = .ok (.invokestatic 125, 3) := by decide +kernel
theorem dX8_isRule_15 : decode cX8_isRule 15 = .ok (.ireturn, 1) := by decide +kernel
theorem dX8_rule_0 : decode cX8_rule 0 = .ok (.aload_n 0, 1) := by decide +kernel
theorem dX8_rule_1 : decode cX8_rule 1 = .ok (.iconst 0, 1) := by decide +kernel
theorem dX8_rule_2 : decode cX8_rule 2 = .ok (.putfield 1, 3) := by decide +kernel
theorem dX8_rule_5 : decode cX8_rule 5 = .ok (.aload_n 0, 1) := by decide +kernel
theorem dX8_rule_6 : decode cX8_rule 6 = .ok (.aload_n 0, 1) := by decide +kernel
theorem dX8_rule_7 : decode cX8_rule 7 = .ok (.iload_n 1, 1) := by decide +kernel
theorem dX8_rule_8 : decode cX8_rule 8 = .ok (.invokevirtual 309, 3) := by decide +kernel
theorem dX8_rule_11 : decode cX8_rule 11 = .ok (.ifCond .eq 19, 3) := by decide +kernel
theorem dX8_rule_14 : decode cX8_rule 14 = .ok (.iload_n 2, 1) := by decide +kernel
theorem dX8_rule_15 : decode cX8_rule 15 = .ok (.i2l, 1) := by decide +kernel
theorem dX8_rule_16 : decode cX8_rule 16 = .ok (.lconst 0, 1) := by decide +kernel
theorem dX8_rule_17 : decode cX8_rule 17 = .ok (.ldc2_w 312, 3) := by decide +kernel
theorem dX8_rule_20 : decode cX8_rule 20 = .ok (.invokestatic 125, 3) := by decide +kernel
theorem dX8_rule_23 : decode cX8_rule 23 = .ok (.ifCond .eq 7, 3) := by decide +kernel
theorem dX8_rule_26 : decode cX8_rule 26 = .ok (.iconst 1, 1) := by decide +kernel
theorem dX8_rule_27 : decode cX8_rule 27 = .ok (.goto 4, 3) := by decide +kernel
theorem dX8_rule_30 : decode cX8_rule 30 = .ok (.iconst 0, 1) := by decide +kernel
theorem dX8_rule_31 : decode cX8_rule 31 = .ok (.iconst 1, 1) := by decide +kernel
theorem dX8_rule_32 : decode cX8_rule 32 = .ok (.invokevirtual 201, 3) := by decide +kernel
theorem dX8_rule_35 : decode cX8_rule 35 = .ok (.ifCond .eq 7, 3) := by decide +kernel
theorem dX8_rule_38 : decode cX8_rule 38 = .ok (.iconst 0, 1) := by decide +kernel
theorem dX8_rule_39 : decode cX8_rule 39 = .ok (.goto 13, 3) := by decide +kernel
theorem dX8_rule_42 : decode cX8_rule 42 = .ok (.aload_n 0, 1) := by decide +kernel
theorem dX8_rule_43 : decode cX8_rule 43 = .ok (.getfield 13, 3) := by decide +kernel
theorem dX8_rule_46 : decode cX8_rule 46 = .ok (.iload_n 1, 1) := by decide +kernel
theorem dX8_rule_47 : decode cX8_rule 47 = .ok (.iload_n 2, 1) := by decide +kernel
theorem dX8_rule_48 : decode cX8_rule 48 = .ok (.invokestatic 167, 3) := by decide +kernel
theorem dX8_rule_51 : decode cX8_rule 51 = .ok (.iaload, 1) := by decide +kernel
theorem dX8_rule_52 : decode cX8_rule 52 = .ok (.ireturn, 1) := by decide +kernel
theorem dX8_decides_0 : decode cX8_decides 0 = .ok (.aload_n 0, 1) := by decide +kernel
theorem dX8_decides_1 : decode cX8_decides 1 = .ok (.iconst 0, 1) := by decide +kernel
theorem dX8_decides_2 : decode cX8_decides 2 = .ok (.putfield 1, 3) := by decide +kernel
theorem dX8_decides_5 : decode cX8_decides 5 = .ok (.aload_n 0, 1) := by decide +kernel
theorem dX8_decides_6 : decode cX8_decides 6 = .ok (.iload_n 1, 1) := by decide +kernel
theorem dX8_decides_7 : decode cX8_decides 7 = .ok (.invokestatic 300, 3) := by decide +kernel
theorem dX8_decides_10 : decode cX8_decides 10 = .ok (.iconst 1, 1) := by decide +kernel
theorem dX8_decides_11 : decode cX8_decides 11 = .ok (.invokevirtual 201, 3) := by decide +kernel
theorem dX8_decides_14 : decode cX8_decides 14 = .ok (.ifCond .ne 30, 3) := by decide +kernel
theorem dX8_decides_17 : decode cX8_decides 17 = .ok (.aload_n 0, 1) := by decide +kernel
theorem dX8_decides_18 : decode cX8_decides 18 = .ok (.iload_n 2, 1) := by decide +kernel
theorem dX8_decides_19 : decode cX8_decides 19 = .ok (.invokestatic 303, 3) := by decide +kernel
theorem dX8_decides_22 : decode cX8_decides 22 = .ok (.ifCond .eq 14, 3) := by decide +kernel
theorem dX8_decides_25 : decode cX8_decides 25 = .ok (.iload_n 3, 1) := by decide +kernel
theorem dX8_decides_26 : decode cX8_decides 26 = .ok (.invokestatic 303, 3) := by decide +kernel
theorem dX8_decides_29 : decode cX8_decides 29 = .ok (.ifCond .eq 7, 3) := by decide +kernel
theorem dX8_decides_32 : decode cX8_decides 32 = .ok (.iconst 1, 1) := by decide +kernel
theorem dX8_decides_33 : decode cX8_decides 33 = .ok (.goto 4, 3) := by decide +kernel
theorem dX8_decides_36 : decode cX8_decides 36 = .ok (.iconst 0, 1) := by decide +kernel
theorem dX8_decides_37 : decode cX8_decides 37 = .ok (.iconst 2, 1) := by decide +kernel
theorem dX8_decides_38 : decode cX8_decides 38 = .ok (.invokevirtual 201, 3) := by decide +kernel
theorem dX8_decides_41 : decode cX8_decides 41 = .ok (.ifCond .eq 7, 3) := by decide +kernel
theorem dX8_decides_44 : decode cX8_decides 44 = .ok (.iconst 0, 1) := by decide +kernel
theorem dX8_decides_45 : decode cX8_decides 45 = .ok (.goto 10, 3) := by decide +kernel
theorem dX8_decides_48 : decode cX8_decides 48 = .ok (.aload_n 0, 1) := by decide +kernel
theorem dX8_decides_49 : decode cX8_decides 49 = .ok (.iload_n 1, 1) := by decide +kernel
theorem dX8_decides_50 : decode cX8_decides 50 = .ok (.iload_n 2, 1) := by decide +kernel
theorem dX8_decides_51 : decode cX8_decides 51 = .ok (.iload_n 3, 1) := by decide +kernel
theorem dX8_decides_52 : decode cX8_decides 52 = .ok (.invokevirtual 277, 3) := by decide +kernel
theorem dX8_decides_55 : decode cX8_decides 55 = .ok (.ireturn, 1) := by decide +kernel
theorem dX8_allows_0 : decode cX8_allows 0 = .ok (.aload_n 0, 1) := by decide +kernel
theorem dX8_allows_1 : decode cX8_allows 1 = .ok (.iconst 0, 1) := by decide +kernel
theorem dX8_allows_2 : decode cX8_allows 2 = .ok (.putfield 1, 3) := by decide +kernel
theorem dX8_allows_5 : decode cX8_allows 5 = .ok (.aload_n 0, 1) := by decide +kernel
theorem dX8_allows_6 : decode cX8_allows 6 = .ok (.iload_n 1, 1) := by decide +kernel
theorem dX8_allows_7 : decode cX8_allows 7 = .ok (.invokestatic 300, 3) := by decide +kernel
theorem dX8_allows_10 : decode cX8_allows 10 = .ok (.iconst 1, 1) := by decide +kernel
theorem dX8_allows_11 : decode cX8_allows 11 = .ok (.invokevirtual 201, 3) := by decide +kernel
theorem dX8_allows_14 : decode cX8_allows 14 = .ok (.ifCond .ne 44, 3) := by decide +kernel
theorem dX8_allows_17 : decode cX8_allows 17 = .ok (.aload_n 0, 1) := by decide +kernel
theorem dX8_allows_18 : decode cX8_allows 18 = .ok (.iload_n 2, 1) := by decide +kernel
theorem dX8_allows_19 : decode cX8_allows 19 = .ok (.invokestatic 303, 3) := by decide +kernel
theorem dX8_allows_22 : decode cX8_allows 22 = .ok (.ifCond .eq 14, 3) := by decide +kernel
theorem dX8_allows_25 : decode cX8_allows 25 = .ok (.iload_n 3, 1) := by decide +kernel
theorem dX8_allows_26 : decode cX8_allows 26 = .ok (.invokestatic 303, 3) := by decide +kernel
theorem dX8_allows_29 : decode cX8_allows 29 = .ok (.ifCond .eq 7, 3) := by decide +kernel
theorem dX8_allows_32 : decode cX8_allows 32 = .ok (.iconst 1, 1) := by decide +kernel
theorem dX8_allows_33 : decode cX8_allows 33 = .ok (.goto 4, 3) := by decide +kernel
theorem dX8_allows_36 : decode cX8_allows 36 = .ok (.iconst 0, 1) := by decide +kernel
theorem dX8_allows_37 : decode cX8_allows 37 = .ok (.iconst 2, 1) := by decide +kernel
theorem dX8_allows_38 : decode cX8_allows 38 = .ok (.invokevirtual 201, 3) := by decide +kernel
theorem dX8_allows_41 : decode cX8_allows 41 = .ok (.ifCond .ne 17, 3) := by decide +kernel
theorem dX8_allows_44 : decode cX8_allows 44 = .ok (.aload_n 0, 1) := by decide +kernel
theorem dX8_allows_45 : decode cX8_allows 45 = .ok (.iload_n 1, 1) := by decide +kernel
theorem dX8_allows_46 : decode cX8_allows 46 = .ok (.iload_n 2, 1) := by decide +kernel
theorem dX8_allows_47 : decode cX8_allows 47 = .ok (.iload_n 3, 1) := by decide +kernel
theorem dX8_allows_48 : decode cX8_allows 48 = .ok (.invokevirtual 281, 3) := by decide +kernel
theorem dX8_allows_51 : decode cX8_allows 51 = .ok (.ifCond .eq 7, 3) := by decide +kernel
theorem dX8_allows_54 : decode cX8_allows 54 = .ok (.iconst 1, 1) := by decide +kernel
theorem dX8_allows_55 : decode cX8_allows 55 = .ok (.goto 4, 3) := by decide +kernel
theorem dX8_allows_58 : decode cX8_allows 58 = .ok (.iconst 0, 1) := by decide +kernel
theorem dX8_allows_59 : decode cX8_allows 59 = .ok (.ireturn, 1) := by decide +kernel
theorem dX8_reach_0 : decode cX8_reach 0 = .ok (.aload_n 0, 1) := by decide +kernel
theorem dX8_reach_1 : decode cX8_reach 1 = .ok (.iconst 0, 1) := by decide +kernel
theorem dX8_reach_2 : decode cX8_reach 2 = .ok (.putfield 1, 3) := by decide +kernel
theorem dX8_reach_5 : decode cX8_reach 5 = .ok (.aload_n 0, 1) := by decide +kernel
theorem dX8_reach_6 : decode cX8_reach 6 = .ok (.aload_n 0, 1) := by decide +kernel
theorem dX8_reach_7 : decode cX8_reach 7 = .ok (.iload_n 1, 1) := by decide +kernel
theorem dX8_reach_8 : decode cX8_reach 8 = .ok (.invokevirtual 295, 3) := by decide +kernel
theorem dX8_reach_11 : decode cX8_reach 11 = .ok (.iconst 1, 1) := by decide +kernel
theorem dX8_reach_12 : decode cX8_reach 12 = .ok (.invokevirtual 201, 3) := by decide +kernel
theorem dX8_reach_15 : decode cX8_reach 15 = .ok (.ifCond .eq 7, 3) := by decide +kernel
theorem dX8_reach_18 : decode cX8_reach 18 = .ok (.iconst 0, 1) := by decide +kernel
theorem dX8_reach_19 : decode cX8_reach 19 = .ok (.goto 8, 3) := by decide +kernel
theorem dX8_reach_22 : decode cX8_reach 22 = .ok (.aload_n 0, 1) := by decide +kernel
theorem dX8_reach_23 : decode cX8_reach 23 = .ok (.iload_n 1, 1) := by decide +kernel
theorem dX8_reach_24 : decode cX8_reach 24 = .ok (.invokevirtual 314, 3) := by decide +kernel
theorem dX8_reach_27 : decode cX8_reach 27 = .ok (.ireturn, 1) := by decide +kernel
theorem dX8_isFree_0 : decode cX8_isFree 0 = .ok (.iconst 0, 1) := by decide +kernel
theorem dX8_isFree_1 : decode cX8_isFree 1 = .ok (.istore_n 2, 1) := by decide +kernel
theorem dX8_isFree_2 : decode cX8_isFree 2 = .ok (.iload_n 2, 1) := by decide +kernel
theorem dX8_isFree_3 : decode cX8_isFree 3 = .ok (.aload_n 0, 1) := by decide +kernel
theorem dX8_isFree_4 : decode cX8_isFree 4 = .ok (.getfield 13, 3) := by decide +kernel
theorem dX8_isFree_7 : decode cX8_isFree 7 = .ok (.iconst 0, 1) := by decide +kernel
theorem dX8_isFree_8 : decode cX8_isFree 8 = .ok (.iaload, 1) := by decide +kernel
theorem dX8_isFree_9 : decode cX8_isFree 9 = .ok (.if_icmp .ge 30, 3) := by decide +kernel
theorem dX8_isFree_12 : decode cX8_isFree 12 = .ok (.aload_n 0, 1) := by decide +kernel
theorem dX8_isFree_13 : decode cX8_isFree 13 = .ok (.iload_n 2, 1) := by decide +kernel
theorem dX8_isFree_14 : decode cX8_isFree 14 = .ok (.iload_n 1, 1) := by decide +kernel
theorem dX8_isFree_15 : decode cX8_isFree 15 = .ok (.invokevirtual 230, 3) := by decide +kernel
theorem dX8_isFree_18 : decode cX8_isFree 18 = .ok (.ifCond .ne 13, 3) := by decide +kernel
theorem dX8_isFree_21 : decode cX8_isFree 21 = .ok (.aload_n 0, 1) := by decide +kernel
theorem dX8_isFree_22 : decode cX8_isFree 22 = .ok (.iload_n 2, 1) := by decide +kernel
theorem dX8_isFree_23 : decode cX8_isFree 23 = .ok (.iconst 3, 1) := by decide +kernel
theorem dX8_isFree_24 : decode cX8_isFree 24 = .ok (.invokevirtual 218, 3) := by decide +kernel
theorem dX8_isFree_27 : decode cX8_isFree 27 = .ok (.iload_n 1, 1) := by decide +kernel
theorem dX8_isFree_28 : decode cX8_isFree 28 = .ok (.if_icmp .ne 5, 3) := by decide +kernel
theorem dX8_isFree_31 : decode cX8_isFree 31 = .ok (.iconst 0, 1) := by decide +kernel
theorem dX8_isFree_32 : decode cX8_isFree 32 = .ok (.ireturn, 1) := by decide +kernel
theorem dX8_isFree_33 : decode cX8_isFree 33 = .ok (.iinc 2 1, 3) := by decide +kernel
theorem dX8_isFree_36 : decode cX8_isFree 36 = .ok (.goto (-34), 3) := by decide +kernel
theorem dX8_isFree_39 : decode cX8_isFree 39 = .ok (.iconst 1, 1) := by decide +kernel
theorem dX8_isFree_40 : decode cX8_isFree 40 = .ok (.ireturn, 1) := by decide +kernel
theorem dX8_firstFree_0 : decode cX8_firstFree 0 = .ok (.aload_n 0, 1) := by decide +kernel
theorem dX8_firstFree_1 : decode cX8_firstFree 1 = .ok (.getfield 13, 3) := by decide +kernel
theorem dX8_firstFree_4 : decode cX8_firstFree 4 = .ok (.iconst 5, 1) := by decide +kernel
theorem dX8_firstFree_5 : decode cX8_firstFree 5 = .ok (.iaload, 1) := by decide +kernel
theorem dX8_firstFree_6 : decode cX8_firstFree 6 = .ok (.istore_n 1, 1) := by decide +kernel
theorem dX8_firstFree_7 : decode cX8_firstFree 7 = .ok (.iload_n 1, 1) := by decide +kernel
theorem dX8_firstFree_8 : decode cX8_firstFree 8 = .ok (.aload_n 0, 1) := by decide +kernel
theorem dX8_firstFree_9 : decode cX8_firstFree 9 = .ok (.getfield 13, 3) := by decide +kernel
theorem dX8_firstFree_12 : decode cX8_firstFree 12 = .ok (.bipush 6, 2) := by decide +kernel
theorem dX8_firstFree_14 : decode cX8_firstFree 14 = .ok (.iaload, 1) := by decide +kernel
theorem dX8_firstFree_15 : decode cX8_firstFree 15 = .ok (.if_icmp .gt 19, 3) := by decide +kernel
theorem dX8_firstFree_18 : decode cX8_firstFree 18 = .ok (.aload_n 0, 1) := by decide +kernel
theorem dX8_firstFree_19 : decode cX8_firstFree 19 = .ok (.iload_n 1, 1) := by decide +kernel
theorem dX8_firstFree_20 : decode cX8_firstFree 20 = .ok (.invokevirtual 317, 3) := by decide +kernel
theorem dX8_firstFree_23 : decode cX8_firstFree 23 = .ok (.ifCond .eq 5, 3) := by decide +kernel
theorem dX8_firstFree_26 : decode cX8_firstFree 26 = .ok (.iload_n 1, 1) := by decide +kernel
theorem dX8_firstFree_27 : decode cX8_firstFree 27 = .ok (.ireturn, 1) := by decide +kernel
theorem dX8_firstFree_28 : decode cX8_firstFree 28 = .ok (.iinc 1 1, 3) := by decide +kernel
theorem dX8_firstFree_31 : decode cX8_firstFree 31 = .ok (.goto (-24), 3) := by decide +kernel
theorem dX8_firstFree_34 : decode cX8_firstFree 34 = .ok (.iconst (-1), 1) := by decide +kernel
theorem dX8_firstFree_35 : decode cX8_firstFree 35 = .ok (.ireturn, 1) := by decide +kernel
theorem dX8_freeNumber_0 : decode cX8_freeNumber 0 = .ok (.aload_n 0, 1) := by decide +kernel
theorem dX8_freeNumber_1 : decode cX8_freeNumber 1 = .ok (.iconst 0, 1) := by decide +kernel
theorem dX8_freeNumber_2 : decode cX8_freeNumber 2 = .ok (.putfield 1, 3) := by decide +kernel
theorem dX8_freeNumber_5 : decode cX8_freeNumber 5 = .ok (.aload_n 0, 1) := by decide +kernel
theorem dX8_freeNumber_6 : decode cX8_freeNumber 6 = .ok (.invokevirtual 320, 3) := by decide +kernel
theorem dX8_freeNumber_9 : decode cX8_freeNumber 9 = .ok (.ireturn, 1) := by decide +kernel
theorem dX8_whyNot_0 : decode cX8_whyNot 0 = .ok (.aload_n 0, 1) := by decide +kernel
theorem dX8_whyNot_1 : decode cX8_whyNot 1 = .ok (.iconst 0, 1) := by decide +kernel
theorem dX8_whyNot_2 : decode cX8_whyNot 2 = .ok (.putfield 1, 3) := by decide +kernel
theorem dX8_whyNot_5 : decode cX8_whyNot 5 = .ok (.aload_n 0, 1) := by decide +kernel
theorem dX8_whyNot_6 : decode cX8_whyNot 6 = .ok (.invokevirtual 323, 3) := by decide +kernel
theorem dX8_whyNot_9 : decode cX8_whyNot 9 = .ok (.aload_n 0, 1) := by decide +kernel
theorem dX8_whyNot_10 : decode cX8_whyNot 10 = .ok (.invokevirtual 326, 3) := by decide +kernel
theorem dX8_whyNot_13 : decode cX8_whyNot 13 = .ok (.istore_n 1, 1) := by decide +kernel
theorem dX8_whyNot_14 : decode cX8_whyNot 14 = .ok (.aload_n 0, 1) := by decide +kernel
theorem dX8_whyNot_15 : decode cX8_whyNot 15 = .ok (.invokevirtual 329, 3) := by decide +kernel
theorem dX8_whyNot_18 : decode cX8_whyNot 18 = .ok (.iload_n 1, 1) := by decide +kernel
theorem dX8_whyNot_19 : decode cX8_whyNot 19 = .ok (.ireturn, 1) := by decide +kernel
theorem dX8_conflict_0 : decode cX8_conflict 0 = .ok (.aload_n 0, 1) := by decide +kernel
theorem dX8_conflict_1 : decode cX8_conflict 1 = .ok (.iconst 0, 1) := by decide +kernel
theorem dX8_conflict_2 : decode cX8_conflict 2 = .ok (.putfield 1, 3) := by decide +kernel
theorem dX8_conflict_5 : decode cX8_conflict 5 = .ok (.aload_n 0, 1) := by decide +kernel
theorem dX8_conflict_6 : decode cX8_conflict 6 = .ok (.getfield 13, 3) := by decide +kernel
theorem dX8_conflict_9 : decode cX8_conflict 9 = .ok (.iconst 2, 1) := by decide +kernel
theorem dX8_conflict_10 : decode cX8_conflict 10 = .ok (.iaload, 1) := by decide +kernel
theorem dX8_conflict_11 : decode cX8_conflict 11 = .ok (.bipush 9, 2) := by decide +kernel
theorem dX8_conflict_13 : decode cX8_conflict 13 = .ok (.if_icmp .ne 5, 3) := by decide +kernel
theorem dX8_conflict_16 : decode cX8_conflict 16 = .ok (.iconst (-1), 1) := by decide +kernel
theorem dX8_conflict_17 : decode cX8_conflict 17 = .ok (.ireturn, 1) := by decide +kernel
theorem dX8_conflict_18 : decode cX8_conflict 18 = .ok (.aload_n 0, 1) := by decide +kernel
theorem dX8_conflict_19 : decode cX8_conflict 19 = .ok (.invokevirtual 323, 3) := by decide +kernel
theorem dX8_conflict_22 : decode cX8_conflict 22 = .ok (.aload_n 0, 1) := by decide +kernel
theorem dX8_conflict_23 : decode cX8_conflict 23 = .ok (.invokevirtual 267, 3) := by decide +kernel
theorem dX8_conflict_26 : decode cX8_conflict 26 = .ok (.aload_n 0, 1) := by decide +kernel
theorem dX8_conflict_27 : decode cX8_conflict 27 = .ok (.invokevirtual 270, 3) := by decide +kernel
theorem dX8_conflict_30 : decode cX8_conflict 30 = .ok (.istore_n 1, 1) := by decide +kernel
theorem dX8_conflict_31 : decode cX8_conflict 31 = .ok (.aload_n 0, 1) := by decide +kernel
theorem dX8_conflict_32 : decode cX8_conflict 32 = .ok (.invokevirtual 329, 3) := by decide +kernel
theorem dX8_conflict_35 : decode cX8_conflict 35 = .ok (.iload_n 1, 1) := by decide +kernel
theorem dX8_conflict_36 : decode cX8_conflict 36 = .ok (.ireturn, 1) := by decide +kernel
theorem dX8_rewrites_0 : decode cX8_rewrites 0 = .ok (.aload_n 0, 1) := by decide +kernel
theorem dX8_rewrites_1 : decode cX8_rewrites 1 = .ok (.iconst 0, 1) := by decide +kernel
theorem dX8_rewrites_2 : decode cX8_rewrites 2 = .ok (.putfield 1, 3) := by decide +kernel
theorem dX8_rewrites_5 : decode cX8_rewrites 5 = .ok (.aload_n 0, 1) := by decide +kernel
theorem dX8_rewrites_6 : decode cX8_rewrites 6 = .ok (.invokevirtual 323, 3) := by decide +kernel
theorem dX8_rewrites_9 : decode cX8_rewrites 9 = .ok (.aload_n 0, 1) := by decide +kernel
theorem dX8_rewrites_10 : decode cX8_rewrites 10 = .ok (.invokevirtual 326, 3) := by decide +kernel
theorem dX8_rewrites_13 : decode cX8_rewrites 13 = .ok (.istore_n 1, 1) := by decide +kernel
theorem dX8_rewrites_14 : decode cX8_rewrites 14 = .ok (.aload_n 0, 1) := by decide +kernel
theorem dX8_rewrites_15 : decode cX8_rewrites 15 = .ok (.invokevirtual 329, 3) := by decide +kernel
theorem dX8_rewrites_18 : decode cX8_rewrites 18 = .ok (.iload_n 1, 1) := by decide +kernel
theorem dX8_rewrites_19 : decode cX8_rewrites 19 = .ok (.ifCond .ne 10, 3) := by decide +kernel
theorem dX8_rewrites_22 : decode cX8_rewrites 22 = .ok (.aload_n 0, 1) := by decide +kernel
theorem dX8_rewrites_23 : decode cX8_rewrites 23 = .ok (.getfield 261, 3) := by decide +kernel
theorem dX8_rewrites_26 : decode cX8_rewrites 26 = .ok (.goto 4, 3) := by decide +kernel
theorem dX8_rewrites_29 : decode cX8_rewrites 29 = .ok (.iconst (-1), 1) := by decide +kernel
theorem dX8_rewrites_30 : decode cX8_rewrites 30 = .ok (.ireturn, 1) := by decide +kernel
theorem dX8_clashesIn_0 : decode cX8_clashesIn 0 = .ok (.aload_n 0, 1) := by decide +kernel
theorem dX8_clashesIn_1 : decode cX8_clashesIn 1 = .ok (.iconst 0, 1) := by decide +kernel
theorem dX8_clashesIn_2 : decode cX8_clashesIn 2 = .ok (.putfield 1, 3) := by decide +kernel
theorem dX8_clashesIn_5 : decode cX8_clashesIn 5 = .ok (.aload_n 0, 1) := by decide +kernel
theorem dX8_clashesIn_6 : decode cX8_clashesIn 6 = .ok (.iload_n 1, 1) := by decide +kernel
theorem dX8_clashesIn_7 : decode cX8_clashesIn 7 = .ok (.i2l, 1) := by decide +kernel
theorem dX8_clashesIn_8 : decode cX8_clashesIn 8 = .ok (.lconst 0, 1) := by decide +kernel
theorem dX8_clashesIn_9 : decode cX8_clashesIn 9 = .ok (.ldc2_w 177, 3) := by decide +kernel
theorem dX8_clashesIn_12 : decode cX8_clashesIn 12 = .ok (.invokestatic 125, 3) := by decide +kernel
theorem dX8_clashesIn_15 : decode cX8_clashesIn 15 = .ok (.iconst 1, 1) := by decide +kernel
theorem dX8_clashesIn_16 : decode cX8_clashesIn 16 = .ok (.invokevirtual 201, 3) := by decide +kernel
theorem dX8_clashesIn_19 : decode cX8_clashesIn 19 = .ok (.ifCond .eq 5, 3) := by decide +kernel
theorem dX8_clashesIn_22 : decode cX8_clashesIn 22 = .ok (.iconst 0, 1) := by decide +kernel
theorem dX8_clashesIn_23 : decode cX8_clashesIn 23 = .ok (.ireturn, 1) := by decide +kernel
theorem dX8_clashesIn_24 : decode cX8_clashesIn 24 = .ok (.aload_n 0, 1) := by decide +kernel
theorem dX8_clashesIn_25 : decode cX8_clashesIn 25 = .ok (.invokevirtual 323, 3) := by decide +kernel
theorem dX8_clashesIn_28 : decode cX8_clashesIn 28 = .ok (.iconst 0, 1) := by decide +kernel
theorem dX8_clashesIn_29 : decode cX8_clashesIn 29 = .ok (.istore_n 2, 1) := by decide +kernel
theorem dX8_clashesIn_30 : decode cX8_clashesIn 30 = .ok (.iconst 0, 1) := by decide +kernel
theorem dX8_clashesIn_31 : decode cX8_clashesIn 31 = .ok (.istore_n 3, 1) := by decide +kernel
theorem dX8_clashesIn_32 : decode cX8_clashesIn 32 = .ok (.iload_n 3, 1) := by decide +kernel
theorem dX8_clashesIn_33 : decode cX8_clashesIn 33 = .ok (.iload_n 1, 1) := by decide +kernel
theorem dX8_clashesIn_34 : decode cX8_clashesIn 34 = .ok (.if_icmp .ge 18, 3) := by decide +kernel
theorem dX8_clashesIn_37 : decode cX8_clashesIn 37 = .ok (.iload_n 2, 1) := by decide +kernel
theorem dX8_clashesIn_38 : decode cX8_clashesIn 38 = .ok (.ifCond .ne 14, 3) := by decide +kernel
theorem dX8_clashesIn_41 : decode cX8_clashesIn 41 = .ok (.aload_n 0, 1) := by decide +kernel
theorem dX8_clashesIn_42 : decode cX8_clashesIn 42 = .ok (.invokevirtual 326, 3) := by decide +kernel
theorem dX8_clashesIn_45 : decode cX8_clashesIn 45 = .ok (.istore_n 2, 1) := by decide +kernel
theorem dX8_clashesIn_46 : decode cX8_clashesIn 46 = .ok (.iinc 3 1, 3) := by decide +kernel
theorem dX8_clashesIn_49 : decode cX8_clashesIn 49 = .ok (.goto (-17), 3) := by decide +kernel
theorem dX8_clashesIn_52 : decode cX8_clashesIn 52 = .ok (.iload_n 2, 1) := by decide +kernel
theorem dX8_clashesIn_53 : decode cX8_clashesIn 53 = .ok (.ifCond .ne 10, 3) := by decide +kernel
theorem dX8_clashesIn_56 : decode cX8_clashesIn 56 = .ok (.aload_n 0, 1) := by decide +kernel
theorem dX8_clashesIn_57 : decode cX8_clashesIn 57 = .ok (.invokevirtual 289, 3) := by decide +kernel
theorem dX8_clashesIn_60 : decode cX8_clashesIn 60 = .ok (.goto 4, 3) := by decide +kernel
theorem dX8_clashesIn_63 : decode cX8_clashesIn 63 = .ok (.iconst (-1), 1) := by decide +kernel
theorem dX8_clashesIn_64 : decode cX8_clashesIn 64 = .ok (.istore_n 3, 1) := by decide +kernel
theorem dX8_clashesIn_65 : decode cX8_clashesIn 65 = .ok (.aload_n 0, 1) := by decide +kernel
theorem dX8_clashesIn_66 : decode cX8_clashesIn 66 = .ok (.invokevirtual 329, 3) := by decide +kernel
theorem dX8_clashesIn_69 : decode cX8_clashesIn 69 = .ok (.iload_n 3, 1) := by decide +kernel
theorem dX8_clashesIn_70 : decode cX8_clashesIn 70 = .ok (.ireturn, 1) := by decide +kernel
theorem dX8_openIn_0 : decode cX8_openIn 0 = .ok (.aload_n 0, 1) := by decide +kernel
theorem dX8_openIn_1 : decode cX8_openIn 1 = .ok (.iconst 0, 1) := by decide +kernel
theorem dX8_openIn_2 : decode cX8_openIn 2 = .ok (.putfield 1, 3) := by decide +kernel
theorem dX8_openIn_5 : decode cX8_openIn 5 = .ok (.aload_n 0, 1) := by decide +kernel
theorem dX8_openIn_6 : decode cX8_openIn 6 = .ok (.invokevirtual 323, 3) := by decide +kernel
theorem dX8_openIn_9 : decode cX8_openIn 9 = .ok (.iconst 0, 1) := by decide +kernel
theorem dX8_openIn_10 : decode cX8_openIn 10 = .ok (.istore_n 1, 1) := by decide +kernel
theorem dX8_openIn_11 : decode cX8_openIn 11 = .ok (.iconst 0, 1) := by decide +kernel
theorem dX8_openIn_12 : decode cX8_openIn 12 = .ok (.istore_n 2, 1) := by decide +kernel
theorem dX8_openIn_13 : decode cX8_openIn 13 = .ok (.iload_n 2, 1) := by decide +kernel
theorem dX8_openIn_14 : decode cX8_openIn 14 = .ok (.ifCond .ne 21, 3) := by decide +kernel
theorem dX8_openIn_17 : decode cX8_openIn 17 = .ok (.aload_n 0, 1) := by decide +kernel
theorem dX8_openIn_18 : decode cX8_openIn 18 = .ok (.invokevirtual 289, 3) := by decide +kernel
theorem dX8_openIn_21 : decode cX8_openIn 21 = .ok (.ifCond .le 14, 3) := by decide +kernel
theorem dX8_openIn_24 : decode cX8_openIn 24 = .ok (.aload_n 0, 1) := by decide +kernel
theorem dX8_openIn_25 : decode cX8_openIn 25 = .ok (.invokevirtual 326, 3) := by decide +kernel
theorem dX8_openIn_28 : decode cX8_openIn 28 = .ok (.istore_n 2, 1) := by decide +kernel
theorem dX8_openIn_29 : decode cX8_openIn 29 = .ok (.iinc 1 1, 3) := by decide +kernel
theorem dX8_openIn_32 : decode cX8_openIn 32 = .ok (.goto (-19), 3) := by decide +kernel
theorem dX8_openIn_35 : decode cX8_openIn 35 = .ok (.aload_n 0, 1) := by decide +kernel
theorem dX8_openIn_36 : decode cX8_openIn 36 = .ok (.invokevirtual 329, 3) := by decide +kernel
theorem dX8_openIn_39 : decode cX8_openIn 39 = .ok (.iload_n 2, 1) := by decide +kernel
theorem dX8_openIn_40 : decode cX8_openIn 40 = .ok (.ifCond .ne 7, 3) := by decide +kernel
theorem dX8_openIn_43 : decode cX8_openIn 43 = .ok (.iload_n 1, 1) := by decide +kernel
theorem dX8_openIn_44 : decode cX8_openIn 44 = .ok (.goto 4, 3) := by decide +kernel
theorem dX8_openIn_47 : decode cX8_openIn 47 = .ok (.iconst (-1), 1) := by decide +kernel
theorem dX8_openIn_48 : decode cX8_openIn 48 = .ok (.ireturn, 1) := by decide +kernel
theorem dX8_movedShare_0 : decode cX8_movedShare 0 = .ok (.aload_n 0, 1) := by decide +kernel
theorem dX8_movedShare_1 : decode cX8_movedShare 1 = .ok (.iconst 0, 1) := by decide +kernel
theorem dX8_movedShare_2 : decode cX8_movedShare 2 = .ok (.putfield 1, 3) := by decide +kernel
theorem dX8_movedShare_5 : decode cX8_movedShare 5 = .ok (.iconst 0, 1) := by decide +kernel
theorem dX8_movedShare_6 : decode cX8_movedShare 6 = .ok (.istore_n 1, 1) := by decide +kernel
theorem dX8_movedShare_7 : decode cX8_movedShare 7 = .ok (.iconst 0, 1) := by decide +kernel
theorem dX8_movedShare_8 : decode cX8_movedShare 8 = .ok (.istore_n 2, 1) := by decide +kernel
theorem dX8_movedShare_9 : decode cX8_movedShare 9 = .ok (.iload_n 2, 1) := by decide +kernel
theorem dX8_movedShare_10 : decode cX8_movedShare 10 = .ok (.aload_n 0, 1) := by decide +kernel
theorem dX8_movedShare_11 : decode cX8_movedShare 11 = .ok (.getfield 13, 3) := by decide +kernel
theorem dX8_movedShare_14 : decode cX8_movedShare 14 = .ok (.iconst 0, 1) := by decide +kernel
theorem dX8_movedShare_15 : decode cX8_movedShare 15 = .ok (.iaload, 1) := by decide +kernel
theorem dX8_movedShare_16 : decode cX8_movedShare 16 = .ok (.if_icmp .ge 25, 3) := by decide +kernel
theorem dX8_movedShare_19 : decode cX8_movedShare 19 = .ok (.iload_n 1, 1) := by decide +kernel
theorem dX8_movedShare_20 : decode cX8_movedShare 20 = .ok (.aload_n 0, 1) := by decide +kernel
theorem dX8_movedShare_21 : decode cX8_movedShare 21 = .ok (.iload_n 2, 1) := by decide +kernel
theorem dX8_movedShare_22 : decode cX8_movedShare 22 = .ok (.invokevirtual 221, 3) := by decide +kernel
theorem dX8_movedShare_25 : decode cX8_movedShare 25 = .ok (.ifCond .le 7, 3) := by decide +kernel
theorem dX8_movedShare_28 : decode cX8_movedShare 28 = .ok (.iconst 1, 1) := by decide +kernel
theorem dX8_movedShare_29 : decode cX8_movedShare 29 = .ok (.goto 4, 3) := by decide +kernel
theorem dX8_movedShare_32 : decode cX8_movedShare 32 = .ok (.iconst 0, 1) := by decide +kernel
theorem dX8_movedShare_33 : decode cX8_movedShare 33 = .ok (.iadd, 1) := by decide +kernel
theorem dX8_movedShare_34 : decode cX8_movedShare 34 = .ok (.istore_n 1, 1) := by decide +kernel
theorem dX8_movedShare_35 : decode cX8_movedShare 35 = .ok (.iinc 2 1, 3) := by decide +kernel
theorem dX8_movedShare_38 : decode cX8_movedShare 38 = .ok (.goto (-29), 3) := by decide +kernel
theorem dX8_movedShare_41 : decode cX8_movedShare 41 = .ok (.aload_n 0, 1) := by decide +kernel
theorem dX8_movedShare_42 : decode cX8_movedShare 42 = .ok (.getfield 13, 3) := by decide +kernel
theorem dX8_movedShare_45 : decode cX8_movedShare 45 = .ok (.iconst 0, 1) := by decide +kernel
theorem dX8_movedShare_46 : decode cX8_movedShare 46 = .ok (.iaload, 1) := by decide +kernel
theorem dX8_movedShare_47 : decode cX8_movedShare 47 = .ok (.ifCond .ne 7, 3) := by decide +kernel
theorem dX8_movedShare_50 : decode cX8_movedShare 50 = .ok (.fconst 0, 1) := by decide +kernel
theorem dX8_movedShare_51 : decode cX8_movedShare 51 = .ok (.goto 13, 3) := by decide +kernel
theorem dX8_movedShare_54 : decode cX8_movedShare 54 = .ok (.iload_n 1, 1) := by decide +kernel
theorem dX8_movedShare_55 : decode cX8_movedShare 55 = .ok (.i2f, 1) := by decide +kernel
theorem dX8_movedShare_56 : decode cX8_movedShare 56 = .ok (.aload_n 0, 1) := by decide +kernel
theorem dX8_movedShare_57 : decode cX8_movedShare 57 = .ok (.getfield 13, 3) := by decide +kernel
theorem dX8_movedShare_60 : decode cX8_movedShare 60 = .ok (.iconst 0, 1) := by decide +kernel
theorem dX8_movedShare_61 : decode cX8_movedShare 61 = .ok (.iaload, 1) := by decide +kernel
theorem dX8_movedShare_62 : decode cX8_movedShare 62 = .ok (.i2f, 1) := by decide +kernel
theorem dX8_movedShare_63 : decode cX8_movedShare 63 = .ok (.fdiv, 1) := by decide +kernel
theorem dX8_movedShare_64 : decode cX8_movedShare 64 = .ok (.freturn, 1) := by decide +kernel
theorem dX8_meanReach_0 : decode cX8_meanReach 0 = .ok (.aload_n 0, 1) := by decide +kernel
theorem dX8_meanReach_1 : decode cX8_meanReach 1 = .ok (.iconst 0, 1) := by decide +kernel
theorem dX8_meanReach_2 : decode cX8_meanReach 2 = .ok (.putfield 1, 3) := by decide +kernel
theorem dX8_meanReach_5 : decode cX8_meanReach 5 = .ok (.iconst 0, 1) := by decide +kernel
theorem dX8_meanReach_6 : decode cX8_meanReach 6 = .ok (.istore_n 1, 1) := by decide +kernel
theorem dX8_meanReach_7 : decode cX8_meanReach 7 = .ok (.iconst 0, 1) := by decide +kernel
theorem dX8_meanReach_8 : decode cX8_meanReach 8 = .ok (.istore_n 2, 1) := by decide +kernel
theorem dX8_meanReach_9 : decode cX8_meanReach 9 = .ok (.iload_n 2, 1) := by decide +kernel
theorem dX8_meanReach_10 : decode cX8_meanReach 10 = .ok (.aload_n 0, 1) := by decide +kernel
theorem dX8_meanReach_11 : decode cX8_meanReach 11 = .ok (.getfield 13, 3) := by decide +kernel
theorem dX8_meanReach_14 : decode cX8_meanReach 14 = .ok (.iconst 0, 1) := by decide +kernel
theorem dX8_meanReach_15 : decode cX8_meanReach 15 = .ok (.iaload, 1) := by decide +kernel
theorem dX8_meanReach_16 : decode cX8_meanReach 16 = .ok (.if_icmp .ge 17, 3) := by decide +kernel
theorem dX8_meanReach_19 : decode cX8_meanReach 19 = .ok (.iload_n 1, 1) := by decide +kernel
theorem dX8_meanReach_20 : decode cX8_meanReach 20 = .ok (.aload_n 0, 1) := by decide +kernel
theorem dX8_meanReach_21 : decode cX8_meanReach 21 = .ok (.iload_n 2, 1) := by decide +kernel
theorem dX8_meanReach_22 : decode cX8_meanReach 22 = .ok (.invokevirtual 314, 3) := by decide +kernel
theorem dX8_meanReach_25 : decode cX8_meanReach 25 = .ok (.iadd, 1) := by decide +kernel
theorem dX8_meanReach_26 : decode cX8_meanReach 26 = .ok (.istore_n 1, 1) := by decide +kernel
theorem dX8_meanReach_27 : decode cX8_meanReach 27 = .ok (.iinc 2 1, 3) := by decide +kernel
theorem dX8_meanReach_30 : decode cX8_meanReach 30 = .ok (.goto (-21), 3) := by decide +kernel
theorem dX8_meanReach_33 : decode cX8_meanReach 33 = .ok (.aload_n 0, 1) := by decide +kernel
theorem dX8_meanReach_34 : decode cX8_meanReach 34 = .ok (.getfield 13, 3) := by decide +kernel
theorem dX8_meanReach_37 : decode cX8_meanReach 37 = .ok (.iconst 0, 1) := by decide +kernel
theorem dX8_meanReach_38 : decode cX8_meanReach 38 = .ok (.iaload, 1) := by decide +kernel
theorem dX8_meanReach_39 : decode cX8_meanReach 39 = .ok (.ifCond .ne 7, 3) := by decide +kernel
theorem dX8_meanReach_42 : decode cX8_meanReach 42 = .ok (.dconst 0, 1) := by decide +kernel
theorem dX8_meanReach_43 : decode cX8_meanReach 43 = .ok (.goto 13, 3) := by decide +kernel
theorem dX8_meanReach_46 : decode cX8_meanReach 46 = .ok (.iload_n 1, 1) := by decide +kernel
theorem dX8_meanReach_47 : decode cX8_meanReach 47 = .ok (.i2d, 1) := by decide +kernel
theorem dX8_meanReach_48 : decode cX8_meanReach 48 = .ok (.aload_n 0, 1) := by decide +kernel
theorem dX8_meanReach_49 : decode cX8_meanReach 49 = .ok (.getfield 13, 3) := by decide +kernel
theorem dX8_meanReach_52 : decode cX8_meanReach 52 = .ok (.iconst 0, 1) := by decide +kernel
theorem dX8_meanReach_53 : decode cX8_meanReach 53 = .ok (.iaload, 1) := by decide +kernel
theorem dX8_meanReach_54 : decode cX8_meanReach 54 = .ok (.i2d, 1) := by decide +kernel
theorem dX8_meanReach_55 : decode cX8_meanReach 55 = .ok (.ddiv, 1) := by decide +kernel
theorem dX8_meanReach_56 : decode cX8_meanReach 56 = .ok (.dreturn, 1) := by decide +kernel
theorem dX8_keeps_0 : decode cX8_keeps 0 = .ok (.aload_n 0, 1) := by decide +kernel
theorem dX8_keeps_1 : decode cX8_keeps 1 = .ok (.getfield 211, 3) := by decide +kernel
theorem dX8_keeps_4 : decode cX8_keeps 4 = .ok (.bipush 10, 2) := by decide +kernel
theorem dX8_keeps_6 : decode cX8_keeps 6 = .ok (.if_icmp .ne 52, 3) := by decide +kernel
theorem dX8_keeps_9 : decode cX8_keeps 9 = .ok (.aload_n 0, 1) := by decide +kernel
theorem dX8_keeps_10 : decode cX8_keeps 10 = .ok (.dup, 1) := by decide +kernel
theorem dX8_keeps_11 : decode cX8_keeps 11 = .ok (.getfield 211, 3) := by decide +kernel
theorem dX8_keeps_14 : decode cX8_keeps 14 = .ok (.iconst 1, 1) := by decide +kernel
theorem dX8_keeps_15 : decode cX8_keeps 15 = .ok (.isub, 1) := by decide +kernel
theorem dX8_keeps_16 : decode cX8_keeps 16 = .ok (.putfield 211, 3) := by decide +kernel
theorem dX8_keeps_19 : decode cX8_keeps 19 = .ok (.iconst 0, 1) := by decide +kernel
theorem dX8_keeps_20 : decode cX8_keeps 20 = .ok (.istore_n 2, 1) := by decide +kernel
theorem dX8_keeps_21 : decode cX8_keeps 21 = .ok (.iload_n 2, 1) := by decide +kernel
theorem dX8_keeps_22 : decode cX8_keeps 22 = .ok (.aload_n 0, 1) := by decide +kernel
theorem dX8_keeps_23 : decode cX8_keeps 23 = .ok (.getfield 211, 3) := by decide +kernel
theorem dX8_keeps_26 : decode cX8_keeps 26 = .ok (.if_icmp .ge 32, 3) := by decide +kernel
theorem dX8_keeps_29 : decode cX8_keeps 29 = .ok (.aload_n 0, 1) := by decide +kernel
theorem dX8_keeps_30 : decode cX8_keeps 30 = .ok (.getfield 26, 3) := by decide +kernel
theorem dX8_keeps_33 : decode cX8_keeps 33 = .ok (.sipush 1096, 3) := by decide +kernel
theorem dX8_keeps_36 : decode cX8_keeps 36 = .ok (.iload_n 2, 1) := by decide +kernel
theorem dX8_keeps_37 : decode cX8_keeps 37 = .ok (.iconst 1, 1) := by decide +kernel
theorem dX8_keeps_38 : decode cX8_keeps 38 = .ok (.iadd, 1) := by decide +kernel
theorem dX8_keeps_39 : decode cX8_keeps 39 = .ok (.imul, 1) := by decide +kernel
theorem dX8_keeps_40 : decode cX8_keeps 40 = .ok (.aload_n 0, 1) := by decide +kernel
theorem dX8_keeps_41 : decode cX8_keeps 41 = .ok (.getfield 26, 3) := by decide +kernel
theorem dX8_keeps_44 : decode cX8_keeps 44 = .ok (.sipush 1096, 3) := by decide +kernel
theorem dX8_keeps_47 : decode cX8_keeps 47 = .ok (.iload_n 2, 1) := by decide +kernel
theorem dX8_keeps_48 : decode cX8_keeps 48 = .ok (.imul, 1) := by decide +kernel
theorem dX8_keeps_49 : decode cX8_keeps 49 = .ok (.invokestatic 53, 3) := by decide +kernel
theorem dX8_keeps_52 : decode cX8_keeps 52 = .ok (.iinc 2 1, 3) := by decide +kernel
theorem dX8_keeps_55 : decode cX8_keeps 55 = .ok (.goto (-34), 3) := by decide +kernel
theorem dX8_keeps_58 : decode cX8_keeps 58 = .ok (.aload_n 1, 1) := by decide +kernel
theorem dX8_keeps_59 : decode cX8_keeps 59 = .ok (.iconst 0, 1) := by decide +kernel
theorem dX8_keeps_60 : decode cX8_keeps 60 = .ok (.aload_n 0, 1) := by decide +kernel
theorem dX8_keeps_61 : decode cX8_keeps 61 = .ok (.getfield 26, 3) := by decide +kernel
theorem dX8_keeps_64 : decode cX8_keeps 64 = .ok (.sipush 1096, 3) := by decide +kernel
theorem dX8_keeps_67 : decode cX8_keeps 67 = .ok (.aload_n 0, 1) := by decide +kernel
theorem dX8_keeps_68 : decode cX8_keeps 68 = .ok (.getfield 211, 3) := by decide +kernel
theorem dX8_keeps_71 : decode cX8_keeps 71 = .ok (.imul, 1) := by decide +kernel
theorem dX8_keeps_72 : decode cX8_keeps 72 = .ok (.invokestatic 53, 3) := by decide +kernel
theorem dX8_keeps_75 : decode cX8_keeps 75 = .ok (.aload_n 0, 1) := by decide +kernel
theorem dX8_keeps_76 : decode cX8_keeps 76 = .ok (.dup, 1) := by decide +kernel
theorem dX8_keeps_77 : decode cX8_keeps 77 = .ok (.getfield 211, 3) := by decide +kernel
theorem dX8_keeps_80 : decode cX8_keeps 80 = .ok (.iconst 1, 1) := by decide +kernel
theorem dX8_keeps_81 : decode cX8_keeps 81 = .ok (.iadd, 1) := by decide +kernel
theorem dX8_keeps_82 : decode cX8_keeps 82 = .ok (.putfield 211, 3) := by decide +kernel
theorem dX8_keeps_85 : decode cX8_keeps 85 = .ok (.return_, 1) := by decide +kernel
theorem dX8_isHeldIn_0 : decode cX8_isHeldIn 0 = .ok (.iconst 0, 1) := by decide +kernel
theorem dX8_isHeldIn_1 : decode cX8_isHeldIn 1 = .ok (.istore_n 3, 1) := by decide +kernel
theorem dX8_isHeldIn_2 : decode cX8_isHeldIn 2 = .ok (.iload_n 3, 1) := by decide +kernel
theorem dX8_isHeldIn_3 : decode cX8_isHeldIn 3 = .ok (.aload_n 0, 1) := by decide +kernel
theorem dX8_isHeldIn_4 : decode cX8_isHeldIn 4 = .ok (.getfield 13, 3) := by decide +kernel
theorem dX8_isHeldIn_7 : decode cX8_isHeldIn 7 = .ok (.iconst 0, 1) := by decide +kernel
theorem dX8_isHeldIn_8 : decode cX8_isHeldIn 8 = .ok (.iaload, 1) := by decide +kernel
theorem dX8_isHeldIn_9 : decode cX8_isHeldIn 9 = .ok (.if_icmp .ge 29, 3) := by decide +kernel
theorem dX8_isHeldIn_12 : decode cX8_isHeldIn 12 = .ok (.aload_n 0, 1) := by decide +kernel
theorem dX8_isHeldIn_13 : decode cX8_isHeldIn 13 = .ok (.iload_n 3, 1) := by decide +kernel
theorem dX8_isHeldIn_14 : decode cX8_isHeldIn 14 = .ok (.iload_n 1, 1) := by decide +kernel
theorem dX8_isHeldIn_15 : decode cX8_isHeldIn 15 = .ok (.invokevirtual 242, 3) := by decide +kernel
theorem dX8_isHeldIn_18 : decode cX8_isHeldIn 18 = .ok (.ifCond .eq 14, 3) := by decide +kernel
theorem dX8_isHeldIn_21 : decode cX8_isHeldIn 21 = .ok (.aload_n 0, 1) := by decide +kernel
theorem dX8_isHeldIn_22 : decode cX8_isHeldIn 22 = .ok (.iload_n 3, 1) := by decide +kernel
theorem dX8_isHeldIn_23 : decode cX8_isHeldIn 23 = .ok (.iload_n 2, 1) := by decide +kernel
theorem dX8_isHeldIn_24 : decode cX8_isHeldIn 24 = .ok (.invokevirtual 230, 3) := by decide +kernel
theorem dX8_isHeldIn_27 : decode cX8_isHeldIn 27 = .ok (.ifCond .eq 5, 3) := by decide +kernel
theorem dX8_isHeldIn_30 : decode cX8_isHeldIn 30 = .ok (.iconst 1, 1) := by decide +kernel
theorem dX8_isHeldIn_31 : decode cX8_isHeldIn 31 = .ok (.ireturn, 1) := by decide +kernel
theorem dX8_isHeldIn_32 : decode cX8_isHeldIn 32 = .ok (.iinc 3 1, 3) := by decide +kernel
theorem dX8_isHeldIn_35 : decode cX8_isHeldIn 35 = .ok (.goto (-33), 3) := by decide +kernel
theorem dX8_isHeldIn_38 : decode cX8_isHeldIn 38 = .ok (.iconst 0, 1) := by decide +kernel
theorem dX8_isHeldIn_39 : decode cX8_isHeldIn 39 = .ok (.ireturn, 1) := by decide +kernel
theorem dX8_addHost_0 : decode cX8_addHost 0 = .ok (.aload_n 0, 1) := by decide +kernel
theorem dX8_addHost_1 : decode cX8_addHost 1 = .ok (.iconst 0, 1) := by decide +kernel
theorem dX8_addHost_2 : decode cX8_addHost 2 = .ok (.putfield 1, 3) := by decide +kernel
theorem dX8_addHost_5 : decode cX8_addHost 5 = .ok (.aload_n 0, 1) := by decide +kernel
theorem dX8_addHost_6 : decode cX8_addHost 6 = .ok (.iload_n 1, 1) := by decide +kernel
theorem dX8_addHost_7 : decode cX8_addHost 7 = .ok (.invokestatic 300, 3) := by decide +kernel
theorem dX8_addHost_10 : decode cX8_addHost 10 = .ok (.iconst 1, 1) := by decide +kernel
theorem dX8_addHost_11 : decode cX8_addHost 11 = .ok (.invokevirtual 201, 3) := by decide +kernel
theorem dX8_addHost_14 : decode cX8_addHost 14 = .ok (.ifCond .ne 15, 3) := by decide +kernel
theorem dX8_addHost_17 : decode cX8_addHost 17 = .ok (.aload_n 0, 1) := by decide +kernel
theorem dX8_addHost_18 : decode cX8_addHost 18 = .ok (.iload_n 2, 1) := by decide +kernel
theorem dX8_addHost_19 : decode cX8_addHost 19 = .ok (.invokestatic 303, 3) := by decide +kernel
theorem dX8_addHost_22 : decode cX8_addHost 22 = .ok (.iconst 2, 1) := by decide +kernel
theorem dX8_addHost_23 : decode cX8_addHost 23 = .ok (.invokevirtual 201, 3) := by decide +kernel
theorem dX8_addHost_26 : decode cX8_addHost 26 = .ok (.ifCond .eq 5, 3) := by decide +kernel
theorem dX8_addHost_29 : decode cX8_addHost 29 = .ok (.iconst 0, 1) := by decide +kernel
theorem dX8_addHost_30 : decode cX8_addHost 30 = .ok (.ireturn, 1) := by decide +kernel
theorem dX8_addHost_31 : decode cX8_addHost 31 = .ok (.aload_n 0, 1) := by decide +kernel
theorem dX8_addHost_32 : decode cX8_addHost 32 = .ok (.getfield 13, 3) := by decide +kernel
theorem dX8_addHost_35 : decode cX8_addHost 35 = .ok (.iconst 0, 1) := by decide +kernel
theorem dX8_addHost_36 : decode cX8_addHost 36 = .ok (.iaload, 1) := by decide +kernel
theorem dX8_addHost_37 : decode cX8_addHost 37 = .ok (.istore_n 3, 1) := by decide +kernel
theorem dX8_addHost_38 : decode cX8_addHost 38 = .ok (.iload_n 3, 1) := by decide +kernel
theorem dX8_addHost_39 : decode cX8_addHost 39 = .ok (.bipush 40, 2) := by decide +kernel
theorem dX8_addHost_41 : decode cX8_addHost 41 = .ok (.if_icmp .ne 6, 3) := by decide +kernel
theorem dX8_addHost_44 : decode cX8_addHost 44 = .ok (.bipush (-2), 2) := by decide +kernel
theorem dX8_addHost_46 : decode cX8_addHost 46 = .ok (.ireturn, 1) := by decide +kernel
theorem dX8_addHost_47 : decode cX8_addHost 47 = .ok (.aload_n 0, 1) := by decide +kernel
theorem dX8_addHost_48 : decode cX8_addHost 48 = .ok (.iload_n 1, 1) := by decide +kernel
theorem dX8_addHost_49 : decode cX8_addHost 49 = .ok (.iload_n 2, 1) := by decide +kernel
theorem dX8_addHost_50 : decode cX8_addHost 50 = .ok (.invokevirtual 332, 3) := by decide +kernel
theorem dX8_addHost_53 : decode cX8_addHost 53 = .ok (.ifCond .eq 6, 3) := by decide +kernel
theorem dX8_addHost_56 : decode cX8_addHost 56 = .ok (.bipush (-3), 2) := by decide +kernel
theorem dX8_addHost_58 : decode cX8_addHost 58 = .ok (.ireturn, 1) := by decide +kernel
theorem dX8_addHost_59 : decode cX8_addHost 59 = .ok (.aload_n 0, 1) := by decide +kernel
theorem dX8_addHost_60 : decode cX8_addHost 60 = .ok (.aload_n 0, 1) := by decide +kernel
theorem dX8_addHost_61 : decode cX8_addHost 61 = .ok (.getfield 13, 3) := by decide +kernel
theorem dX8_addHost_64 : decode cX8_addHost 64 = .ok (.invokevirtual 335, 3) := by decide +kernel
theorem dX8_addHost_67 : decode cX8_addHost 67 = .ok (.iconst 0, 1) := by decide +kernel
theorem dX8_addHost_68 : decode cX8_addHost 68 = .ok (.istore 4, 2) := by decide +kernel
theorem dX8_addHost_70 : decode cX8_addHost 70 = .ok (.iload 4, 2) := by decide +kernel
theorem dX8_addHost_72 : decode cX8_addHost 72 = .ok (.bipush 24, 2) := by decide +kernel
theorem dX8_addHost_74 : decode cX8_addHost 74 = .ok (.if_icmp .ge 21, 3) := by decide +kernel
theorem dX8_addHost_77 : decode cX8_addHost 77 = .ok (.aload_n 0, 1) := by decide +kernel
theorem dX8_addHost_78 : decode cX8_addHost 78 = .ok (.getfield 13, 3) := by decide +kernel
theorem dX8_addHost_81 : decode cX8_addHost 81 = .ok (.iload_n 3, 1) := by decide +kernel
theorem dX8_addHost_82 : decode cX8_addHost 82 = .ok (.iload 4, 2) := by decide +kernel
theorem dX8_addHost_84 : decode cX8_addHost 84 = .ok (.invokestatic 129, 3) := by decide +kernel
theorem dX8_addHost_87 : decode cX8_addHost 87 = .ok (.iconst 0, 1) := by decide +kernel
theorem dX8_addHost_88 : decode cX8_addHost 88 = .ok (.iastore, 1) := by decide +kernel
theorem dX8_addHost_89 : decode cX8_addHost 89 = .ok (.iinc 4 1, 3) := by decide +kernel
theorem dX8_addHost_92 : decode cX8_addHost 92 = .ok (.goto (-22), 3) := by decide +kernel
theorem dX8_addHost_95 : decode cX8_addHost 95 = .ok (.aload_n 0, 1) := by decide +kernel
theorem dX8_addHost_96 : decode cX8_addHost 96 = .ok (.getfield 13, 3) := by decide +kernel
theorem dX8_addHost_99 : decode cX8_addHost 99 = .ok (.iload_n 3, 1) := by decide +kernel
theorem dX8_addHost_100 : decode cX8_addHost 100 = .ok (.iconst 0, 1) := by decide +kernel
theorem dX8_addHost_101 : decode cX8_addHost 101 = .ok (.invokestatic 129, 3) := by decide +kernel
theorem dX8_addHost_104 : decode cX8_addHost 104 = .ok (.iload_n 1, 1) := by decide +kernel
theorem dX8_addHost_105 : decode cX8_addHost 105 = .ok (.iastore, 1) := by decide +kernel
theorem dX8_addHost_106 : decode cX8_addHost 106 = .ok (.aload_n 0, 1) := by decide +kernel
theorem dX8_addHost_107 : decode cX8_addHost 107 = .ok (.getfield 13, 3) := by decide +kernel
theorem dX8_addHost_110 : decode cX8_addHost 110 = .ok (.iload_n 3, 1) := by decide +kernel
theorem dX8_addHost_111 : decode cX8_addHost 111 = .ok (.iconst 1, 1) := by decide +kernel
theorem dX8_addHost_112 : decode cX8_addHost 112 = .ok (.invokestatic 129, 3) := by decide +kernel
theorem dX8_addHost_115 : decode cX8_addHost 115 = .ok (.iload_n 2, 1) := by decide +kernel
theorem dX8_addHost_116 : decode cX8_addHost 116 = .ok (.iastore, 1) := by decide +kernel
theorem dX8_addHost_117 : decode cX8_addHost 117 = .ok (.aload_n 0, 1) := by decide +kernel
theorem dX8_addHost_118 : decode cX8_addHost 118 = .ok (.getfield 13, 3) := by decide +kernel
theorem dX8_addHost_121 : decode cX8_addHost 121 = .ok (.iconst 0, 1) := by decide +kernel
theorem dX8_addHost_122 : decode cX8_addHost 122 = .ok (.iload_n 3, 1) := by decide +kernel
theorem dX8_addHost_123 : decode cX8_addHost 123 = .ok (.iconst 1, 1) := by decide +kernel
theorem dX8_addHost_124 : decode cX8_addHost 124 = .ok (.iadd, 1) := by decide +kernel
theorem dX8_addHost_125 : decode cX8_addHost 125 = .ok (.iastore, 1) := by decide +kernel
theorem dX8_addHost_126 : decode cX8_addHost 126 = .ok (.iload_n 3, 1) := by decide +kernel
theorem dX8_addHost_127 : decode cX8_addHost 127 = .ok (.ireturn, 1) := by decide +kernel
theorem dX8_removeHost_0 : decode cX8_removeHost 0 = .ok (.aload_n 0, 1) := by decide +kernel
theorem dX8_removeHost_1 : decode cX8_removeHost 1 = .ok (.iconst 0, 1) := by decide +kernel
theorem dX8_removeHost_2 : decode cX8_removeHost 2 = .ok (.putfield 1, 3) := by decide +kernel
theorem dX8_removeHost_5 : decode cX8_removeHost 5 = .ok (.aload_n 0, 1) := by decide +kernel
theorem dX8_removeHost_6 : decode cX8_removeHost 6 = .ok (.aload_n 0, 1) := by decide +kernel
theorem dX8_removeHost_7 : decode cX8_removeHost 7 = .ok (.iload_n 1, 1) := by decide +kernel
theorem dX8_removeHost_8 : decode cX8_removeHost 8 = .ok (.invokevirtual 295, 3) := by decide +kernel
theorem dX8_removeHost_11 : decode cX8_removeHost 11 = .ok (.iconst 1, 1) := by decide +kernel
theorem dX8_removeHost_12 : decode cX8_removeHost 12 = .ok (.invokevirtual 201, 3) := by decide +kernel
theorem dX8_removeHost_15 : decode cX8_removeHost 15 = .ok (.ifCond .eq 5, 3) := by decide +kernel
theorem dX8_removeHost_18 : decode cX8_removeHost 18 = .ok (.iconst 0, 1) := by decide +kernel
theorem dX8_removeHost_19 : decode cX8_removeHost 19 = .ok (.ireturn, 1) := by decide +kernel
theorem dX8_removeHost_20 : decode cX8_removeHost 20 = .ok (.aload_n 0, 1) := by decide +kernel
theorem dX8_removeHost_21 : decode cX8_removeHost 21 = .ok (.aload_n 0, 1) := by decide +kernel
theorem dX8_removeHost_22 : decode cX8_removeHost 22 = .ok (.getfield 13, 3) := by decide +kernel
theorem dX8_removeHost_25 : decode cX8_removeHost 25 = .ok (.invokevirtual 335, 3) := by decide +kernel
theorem dX8_removeHost_28 : decode cX8_removeHost 28 = .ok (.aload_n 0, 1) := by decide +kernel
theorem dX8_removeHost_29 : decode cX8_removeHost 29 = .ok (.getfield 13, 3) := by decide +kernel
theorem dX8_removeHost_32 : decode cX8_removeHost 32 = .ok (.iconst 0, 1) := by decide +kernel
theorem dX8_removeHost_33 : decode cX8_removeHost 33 = .ok (.dup2, 1) := by decide +kernel
theorem dX8_removeHost_34 : decode cX8_removeHost 34 = .ok (.iaload, 1) := by decide +kernel
theorem dX8_removeHost_35 : decode cX8_removeHost 35 = .ok (.iconst 1, 1) := by decide +kernel
theorem dX8_removeHost_36 : decode cX8_removeHost 36 = .ok (.isub, 1) := by decide +kernel
theorem dX8_removeHost_37 : decode cX8_removeHost 37 = .ok (.iastore, 1) := by decide +kernel
theorem dX8_removeHost_38 : decode cX8_removeHost 38 = .ok (.iload_n 1, 1) := by decide +kernel
theorem dX8_removeHost_39 : decode cX8_removeHost 39 = .ok (.iconst 0, 1) := by decide +kernel
theorem dX8_removeHost_40 : decode cX8_removeHost 40 = .ok (.invokestatic 129, 3) := by decide +kernel
theorem dX8_removeHost_43 : decode cX8_removeHost 43 = .ok (.istore_n 2, 1) := by decide +kernel
theorem dX8_removeHost_44 : decode cX8_removeHost 44 = .ok (.iload_n 2, 1) := by decide +kernel
theorem dX8_removeHost_45 : decode cX8_removeHost 45 = .ok (.aload_n 0, 1) := by decide +kernel
theorem dX8_removeHost_46 : decode cX8_removeHost 46 = .ok (.getfield 13, 3) := by decide +kernel
theorem dX8_removeHost_49 : decode cX8_removeHost 49 = .ok (.iconst 0, 1) := by decide +kernel
theorem dX8_removeHost_50 : decode cX8_removeHost 50 = .ok (.iaload, 1) := by decide +kernel
theorem dX8_removeHost_51 : decode cX8_removeHost 51 = .ok (.iconst 0, 1) := by decide +kernel
theorem dX8_removeHost_52 : decode cX8_removeHost 52 = .ok (.invokestatic 129, 3) := by decide +kernel
theorem dX8_removeHost_55 : decode cX8_removeHost 55 = .ok (.if_icmp .ge 24, 3) := by decide +kernel
theorem dX8_removeHost_58 : decode cX8_removeHost 58 = .ok (.aload_n 0, 1) := by decide +kernel
theorem dX8_removeHost_59 : decode cX8_removeHost 59 = .ok (.getfield 13, 3) := by decide +kernel
theorem dX8_removeHost_62 : decode cX8_removeHost 62 = .ok (.iload_n 2, 1) := by decide +kernel
theorem dX8_removeHost_63 : decode cX8_removeHost 63 = .ok (.aload_n 0, 1) := by decide +kernel
theorem dX8_removeHost_64 : decode cX8_removeHost 64 = .ok (.getfield 13, 3) := by decide +kernel
theorem dX8_removeHost_67 : decode cX8_removeHost 67 = .ok (.iload_n 2, 1) := by decide +kernel
theorem dX8_removeHost_68 : decode cX8_removeHost 68 = .ok (.bipush 24, 2) := by decide +kernel
theorem dX8_removeHost_70 : decode cX8_removeHost 70 = .ok (.iadd, 1) := by decide +kernel
theorem dX8_removeHost_71 : decode cX8_removeHost 71 = .ok (.iaload, 1) := by decide +kernel
theorem dX8_removeHost_72 : decode cX8_removeHost 72 = .ok (.iastore, 1) := by decide +kernel
theorem dX8_removeHost_73 : decode cX8_removeHost 73 = .ok (.iinc 2 1, 3) := by decide +kernel
theorem dX8_removeHost_76 : decode cX8_removeHost 76 = .ok (.goto (-32), 3) := by decide +kernel
theorem dX8_removeHost_79 : decode cX8_removeHost 79 = .ok (.aload_n 0, 1) := by decide +kernel
theorem dX8_removeHost_80 : decode cX8_removeHost 80 = .ok (.getfield 13, 3) := by decide +kernel
theorem dX8_removeHost_83 : decode cX8_removeHost 83 = .ok (.iconst 0, 1) := by decide +kernel
theorem dX8_removeHost_84 : decode cX8_removeHost 84 = .ok (.iaload, 1) := by decide +kernel
theorem dX8_removeHost_85 : decode cX8_removeHost 85 = .ok (.ireturn, 1) := by decide +kernel
theorem dX8_plan_0 : decode cX8_plan 0 = .ok (.aload_n 0, 1) := by decide +kernel
theorem dX8_plan_1 : decode cX8_plan 1 = .ok (.iconst 0, 1) := by decide +kernel
theorem dX8_plan_2 : decode cX8_plan 2 = .ok (.putfield 1, 3) := by decide +kernel
theorem dX8_plan_5 : decode cX8_plan 5 = .ok (.aload_n 0, 1) := by decide +kernel
theorem dX8_plan_6 : decode cX8_plan 6 = .ok (.aload_n 0, 1) := by decide +kernel
theorem dX8_plan_7 : decode cX8_plan 7 = .ok (.iload_n 1, 1) := by decide +kernel
theorem dX8_plan_8 : decode cX8_plan 8 = .ok (.invokevirtual 295, 3) := by decide +kernel
theorem dX8_plan_11 : decode cX8_plan 11 = .ok (.iconst 1, 1) := by decide +kernel
theorem dX8_plan_12 : decode cX8_plan 12 = .ok (.invokevirtual 201, 3) := by decide +kernel
theorem dX8_plan_15 : decode cX8_plan 15 = .ok (.ifCond .ne 30, 3) := by decide +kernel
theorem dX8_plan_18 : decode cX8_plan 18 = .ok (.aload_n 0, 1) := by decide +kernel
theorem dX8_plan_19 : decode cX8_plan 19 = .ok (.iload_n 2, 1) := by decide +kernel
theorem dX8_plan_20 : decode cX8_plan 20 = .ok (.invokestatic 303, 3) := by decide +kernel
theorem dX8_plan_23 : decode cX8_plan 23 = .ok (.ifCond .eq 14, 3) := by decide +kernel
theorem dX8_plan_26 : decode cX8_plan 26 = .ok (.iload_n 3, 1) := by decide +kernel
theorem dX8_plan_27 : decode cX8_plan 27 = .ok (.invokestatic 306, 3) := by decide +kernel
theorem dX8_plan_30 : decode cX8_plan 30 = .ok (.ifCond .eq 7, 3) := by decide +kernel
theorem dX8_plan_33 : decode cX8_plan 33 = .ok (.iconst 1, 1) := by decide +kernel
theorem dX8_plan_34 : decode cX8_plan 34 = .ok (.goto 4, 3) := by decide +kernel
theorem dX8_plan_37 : decode cX8_plan 37 = .ok (.iconst 0, 1) := by decide +kernel
theorem dX8_plan_38 : decode cX8_plan 38 = .ok (.iconst 2, 1) := by decide +kernel
theorem dX8_plan_39 : decode cX8_plan 39 = .ok (.invokevirtual 201, 3) := by decide +kernel
theorem dX8_plan_42 : decode cX8_plan 42 = .ok (.ifCond .eq 5, 3) := by decide +kernel
theorem dX8_plan_45 : decode cX8_plan 45 = .ok (.iconst 0, 1) := by decide +kernel
theorem dX8_plan_46 : decode cX8_plan 46 = .ok (.ireturn, 1) := by decide +kernel
theorem dX8_plan_47 : decode cX8_plan 47 = .ok (.aload_n 0, 1) := by decide +kernel
theorem dX8_plan_48 : decode cX8_plan 48 = .ok (.iload_n 1, 1) := by decide +kernel
theorem dX8_plan_49 : decode cX8_plan 49 = .ok (.iconst 2, 1) := by decide +kernel
theorem dX8_plan_50 : decode cX8_plan 50 = .ok (.invokevirtual 218, 3) := by decide +kernel
theorem dX8_plan_53 : decode cX8_plan 53 = .ok (.iconst 1, 1) := by decide +kernel
theorem dX8_plan_54 : decode cX8_plan 54 = .ok (.if_icmp .ne 6, 3) := by decide +kernel
theorem dX8_plan_57 : decode cX8_plan 57 = .ok (.bipush (-2), 2) := by decide +kernel
theorem dX8_plan_59 : decode cX8_plan 59 = .ok (.ireturn, 1) := by decide +kernel
theorem dX8_plan_60 : decode cX8_plan 60 = .ok (.iload_n 3, 1) := by decide +kernel
theorem dX8_plan_61 : decode cX8_plan 61 = .ok (.aload_n 0, 1) := by decide +kernel
theorem dX8_plan_62 : decode cX8_plan 62 = .ok (.getfield 13, 3) := by decide +kernel
theorem dX8_plan_65 : decode cX8_plan 65 = .ok (.iconst 2, 1) := by decide +kernel
theorem dX8_plan_66 : decode cX8_plan 66 = .ok (.iaload, 1) := by decide +kernel
theorem dX8_plan_67 : decode cX8_plan 67 = .ok (.if_icmp .gt 6, 3) := by decide +kernel
theorem dX8_plan_70 : decode cX8_plan 70 = .ok (.bipush (-3), 2) := by decide +kernel
theorem dX8_plan_72 : decode cX8_plan 72 = .ok (.ireturn, 1) := by decide +kernel
theorem dX8_plan_73 : decode cX8_plan 73 = .ok (.aload_n 0, 1) := by decide +kernel
theorem dX8_plan_74 : decode cX8_plan 74 = .ok (.aload_n 0, 1) := by decide +kernel
theorem dX8_plan_75 : decode cX8_plan 75 = .ok (.getfield 13, 3) := by decide +kernel
theorem dX8_plan_78 : decode cX8_plan 78 = .ok (.iload_n 3, 1) := by decide +kernel
theorem dX8_plan_79 : decode cX8_plan 79 = .ok (.invokevirtual 179, 3) := by decide +kernel
theorem dX8_plan_82 : decode cX8_plan 82 = .ok (.aload_n 0, 1) := by decide +kernel
theorem dX8_plan_83 : decode cX8_plan 83 = .ok (.iload_n 1, 1) := by decide +kernel
theorem dX8_plan_84 : decode cX8_plan 84 = .ok (.iconst 4, 1) := by decide +kernel
theorem dX8_plan_85 : decode cX8_plan 85 = .ok (.invokevirtual 218, 3) := by decide +kernel
theorem dX8_plan_88 : decode cX8_plan 88 = .ok (.iload_n 3, 1) := by decide +kernel
theorem dX8_plan_89 : decode cX8_plan 89 = .ok (.if_icmp .ne 7, 3) := by decide +kernel
theorem dX8_plan_92 : decode cX8_plan 92 = .ok (.iconst 1, 1) := by decide +kernel
theorem dX8_plan_93 : decode cX8_plan 93 = .ok (.goto 4, 3) := by decide +kernel
theorem dX8_plan_96 : decode cX8_plan 96 = .ok (.iconst 0, 1) := by decide +kernel
theorem dX8_plan_97 : decode cX8_plan 97 = .ok (.isub, 1) := by decide +kernel
theorem dX8_plan_98 : decode cX8_plan 98 = .ok (.aload_n 0, 1) := by decide +kernel
theorem dX8_plan_99 : decode cX8_plan 99 = .ok (.getfield 13, 3) := by decide +kernel
theorem dX8_plan_102 : decode cX8_plan 102 = .ok (.iconst 4, 1) := by decide +kernel
theorem dX8_plan_103 : decode cX8_plan 103 = .ok (.iaload, 1) := by decide +kernel
theorem dX8_plan_104 : decode cX8_plan 104 = .ok (.if_icmp .lt 6, 3) := by decide +kernel
theorem dX8_plan_107 : decode cX8_plan 107 = .ok (.bipush (-4), 2) := by decide +kernel
theorem dX8_plan_109 : decode cX8_plan 109 = .ok (.ireturn, 1) := by decide +kernel
theorem dX8_plan_110 : decode cX8_plan 110 = .ok (.aload_n 0, 1) := by decide +kernel
theorem dX8_plan_111 : decode cX8_plan 111 = .ok (.aload_n 0, 1) := by decide +kernel
theorem dX8_plan_112 : decode cX8_plan 112 = .ok (.getfield 13, 3) := by decide +kernel
theorem dX8_plan_115 : decode cX8_plan 115 = .ok (.invokevirtual 335, 3) := by decide +kernel
theorem dX8_plan_118 : decode cX8_plan 118 = .ok (.aload_n 0, 1) := by decide +kernel
theorem dX8_plan_119 : decode cX8_plan 119 = .ok (.getfield 13, 3) := by decide +kernel
theorem dX8_plan_122 : decode cX8_plan 122 = .ok (.iload_n 1, 1) := by decide +kernel
theorem dX8_plan_123 : decode cX8_plan 123 = .ok (.iconst 3, 1) := by decide +kernel
theorem dX8_plan_124 : decode cX8_plan 124 = .ok (.invokestatic 129, 3) := by decide +kernel
theorem dX8_plan_127 : decode cX8_plan 127 = .ok (.iload_n 2, 1) := by decide +kernel
theorem dX8_plan_128 : decode cX8_plan 128 = .ok (.iastore, 1) := by decide +kernel
theorem dX8_plan_129 : decode cX8_plan 129 = .ok (.aload_n 0, 1) := by decide +kernel
theorem dX8_plan_130 : decode cX8_plan 130 = .ok (.getfield 13, 3) := by decide +kernel
theorem dX8_plan_133 : decode cX8_plan 133 = .ok (.iload_n 1, 1) := by decide +kernel
theorem dX8_plan_134 : decode cX8_plan 134 = .ok (.iconst 4, 1) := by decide +kernel
theorem dX8_plan_135 : decode cX8_plan 135 = .ok (.invokestatic 129, 3) := by decide +kernel
theorem dX8_plan_138 : decode cX8_plan 138 = .ok (.iload_n 3, 1) := by decide +kernel
theorem dX8_plan_139 : decode cX8_plan 139 = .ok (.iastore, 1) := by decide +kernel
theorem dX8_plan_140 : decode cX8_plan 140 = .ok (.aload_n 0, 1) := by decide +kernel
theorem dX8_plan_141 : decode cX8_plan 141 = .ok (.aload_n 0, 1) := by decide +kernel
theorem dX8_plan_142 : decode cX8_plan 142 = .ok (.getfield 13, 3) := by decide +kernel
theorem dX8_plan_145 : decode cX8_plan 145 = .ok (.iload_n 3, 1) := by decide +kernel
theorem dX8_plan_146 : decode cX8_plan 146 = .ok (.invokevirtual 179, 3) := by decide +kernel
theorem dX8_plan_149 : decode cX8_plan 149 = .ok (.ireturn, 1) := by decide +kernel
theorem dX8_drops_0 : decode cX8_drops 0 = .ok (.aload_n 0, 1) := by decide +kernel
theorem dX8_drops_1 : decode cX8_drops 1 = .ok (.getfield 13, 3) := by decide +kernel
theorem dX8_drops_4 : decode cX8_drops 4 = .ok (.iload_n 1, 1) := by decide +kernel
theorem dX8_drops_5 : decode cX8_drops 5 = .ok (.iconst 3, 1) := by decide +kernel
theorem dX8_drops_6 : decode cX8_drops 6 = .ok (.invokestatic 129, 3) := by decide +kernel
theorem dX8_drops_9 : decode cX8_drops 9 = .ok (.iconst 0, 1) := by decide +kernel
theorem dX8_drops_10 : decode cX8_drops 10 = .ok (.iastore, 1) := by decide +kernel
theorem dX8_drops_11 : decode cX8_drops 11 = .ok (.aload_n 0, 1) := by decide +kernel
theorem dX8_drops_12 : decode cX8_drops 12 = .ok (.getfield 13, 3) := by decide +kernel
theorem dX8_drops_15 : decode cX8_drops 15 = .ok (.iload_n 1, 1) := by decide +kernel
theorem dX8_drops_16 : decode cX8_drops 16 = .ok (.iconst 4, 1) := by decide +kernel
theorem dX8_drops_17 : decode cX8_drops 17 = .ok (.invokestatic 129, 3) := by decide +kernel
theorem dX8_drops_20 : decode cX8_drops 20 = .ok (.iconst 0, 1) := by decide +kernel
theorem dX8_drops_21 : decode cX8_drops 21 = .ok (.iastore, 1) := by decide +kernel
theorem dX8_drops_22 : decode cX8_drops 22 = .ok (.return_, 1) := by decide +kernel
theorem dX8_unplan_0 : decode cX8_unplan 0 = .ok (.aload_n 0, 1) := by decide +kernel
theorem dX8_unplan_1 : decode cX8_unplan 1 = .ok (.iconst 0, 1) := by decide +kernel
theorem dX8_unplan_2 : decode cX8_unplan 2 = .ok (.putfield 1, 3) := by decide +kernel
theorem dX8_unplan_5 : decode cX8_unplan 5 = .ok (.aload_n 0, 1) := by decide +kernel
theorem dX8_unplan_6 : decode cX8_unplan 6 = .ok (.aload_n 0, 1) := by decide +kernel
theorem dX8_unplan_7 : decode cX8_unplan 7 = .ok (.iload_n 1, 1) := by decide +kernel
theorem dX8_unplan_8 : decode cX8_unplan 8 = .ok (.invokevirtual 295, 3) := by decide +kernel
theorem dX8_unplan_11 : decode cX8_unplan 11 = .ok (.iconst 1, 1) := by decide +kernel
theorem dX8_unplan_12 : decode cX8_unplan 12 = .ok (.invokevirtual 201, 3) := by decide +kernel
theorem dX8_unplan_15 : decode cX8_unplan 15 = .ok (.ifCond .eq 5, 3) := by decide +kernel
theorem dX8_unplan_18 : decode cX8_unplan 18 = .ok (.iconst 0, 1) := by decide +kernel
theorem dX8_unplan_19 : decode cX8_unplan 19 = .ok (.ireturn, 1) := by decide +kernel
theorem dX8_unplan_20 : decode cX8_unplan 20 = .ok (.aload_n 0, 1) := by decide +kernel
theorem dX8_unplan_21 : decode cX8_unplan 21 = .ok (.aload_n 0, 1) := by decide +kernel
theorem dX8_unplan_22 : decode cX8_unplan 22 = .ok (.getfield 13, 3) := by decide +kernel
theorem dX8_unplan_25 : decode cX8_unplan 25 = .ok (.invokevirtual 335, 3) := by decide +kernel
theorem dX8_unplan_28 : decode cX8_unplan 28 = .ok (.aload_n 0, 1) := by decide +kernel
theorem dX8_unplan_29 : decode cX8_unplan 29 = .ok (.iload_n 1, 1) := by decide +kernel
theorem dX8_unplan_30 : decode cX8_unplan 30 = .ok (.iconst 4, 1) := by decide +kernel
theorem dX8_unplan_31 : decode cX8_unplan 31 = .ok (.invokevirtual 218, 3) := by decide +kernel
theorem dX8_unplan_34 : decode cX8_unplan 34 = .ok (.istore_n 2, 1) := by decide +kernel
theorem dX8_unplan_35 : decode cX8_unplan 35 = .ok (.aload_n 0, 1) := by decide +kernel
theorem dX8_unplan_36 : decode cX8_unplan 36 = .ok (.iload_n 1, 1) := by decide +kernel
theorem dX8_unplan_37 : decode cX8_unplan 37 = .ok (.invokevirtual 339, 3) := by decide +kernel
theorem dX8_unplan_40 : decode cX8_unplan 40 = .ok (.iload_n 2, 1) := by decide +kernel
theorem dX8_unplan_41 : decode cX8_unplan 41 = .ok (.ireturn, 1) := by decide +kernel
theorem dX8_choosen_0 : decode cX8_choosen 0 = .ok (.iconst 0, 1) := by decide +kernel
theorem dX8_choosen_1 : decode cX8_choosen 1 = .ok (.istore_n 3, 1) := by decide +kernel
theorem dX8_choosen_2 : decode cX8_choosen 2 = .ok (.iload_n 3, 1) := by decide +kernel
theorem dX8_choosen_3 : decode cX8_choosen 3 = .ok (.aload_n 0, 1) := by decide +kernel
theorem dX8_choosen_4 : decode cX8_choosen 4 = .ok (.getfield 13, 3) := by decide +kernel
theorem dX8_choosen_7 : decode cX8_choosen 7 = .ok (.iconst 0, 1) := by decide +kernel
theorem dX8_choosen_8 : decode cX8_choosen 8 = .ok (.iaload, 1) := by decide +kernel
theorem dX8_choosen_9 : decode cX8_choosen 9 = .ok (.if_icmp .ge 40, 3) := by decide +kernel
theorem dX8_choosen_12 : decode cX8_choosen 12 = .ok (.aload_n 0, 1) := by decide +kernel
theorem dX8_choosen_13 : decode cX8_choosen 13 = .ok (.iload_n 3, 1) := by decide +kernel
theorem dX8_choosen_14 : decode cX8_choosen 14 = .ok (.iconst 0, 1) := by decide +kernel
theorem dX8_choosen_15 : decode cX8_choosen 15 = .ok (.invokevirtual 218, 3) := by decide +kernel
theorem dX8_choosen_18 : decode cX8_choosen 18 = .ok (.iload_n 1, 1) := by decide +kernel
theorem dX8_choosen_19 : decode cX8_choosen 19 = .ok (.if_icmp .ne 24, 3) := by decide +kernel
theorem dX8_choosen_22 : decode cX8_choosen 22 = .ok (.aload_n 0, 1) := by decide +kernel
theorem dX8_choosen_23 : decode cX8_choosen 23 = .ok (.iload_n 3, 1) := by decide +kernel
theorem dX8_choosen_24 : decode cX8_choosen 24 = .ok (.iconst 1, 1) := by decide +kernel
theorem dX8_choosen_25 : decode cX8_choosen 25 = .ok (.invokevirtual 218, 3) := by decide +kernel
theorem dX8_choosen_28 : decode cX8_choosen 28 = .ok (.iload_n 2, 1) := by decide +kernel
theorem dX8_choosen_29 : decode cX8_choosen 29 = .ok (.if_icmp .ne 14, 3) := by decide +kernel
theorem dX8_choosen_32 : decode cX8_choosen 32 = .ok (.aload_n 0, 1) := by decide +kernel
theorem dX8_choosen_33 : decode cX8_choosen 33 = .ok (.iload_n 3, 1) := by decide +kernel
theorem dX8_choosen_34 : decode cX8_choosen 34 = .ok (.iconst 2, 1) := by decide +kernel
theorem dX8_choosen_35 : decode cX8_choosen 35 = .ok (.invokevirtual 218, 3) := by decide +kernel
theorem dX8_choosen_38 : decode cX8_choosen 38 = .ok (.ifCond .ne 5, 3) := by decide +kernel
theorem dX8_choosen_41 : decode cX8_choosen 41 = .ok (.iload_n 3, 1) := by decide +kernel
theorem dX8_choosen_42 : decode cX8_choosen 42 = .ok (.ireturn, 1) := by decide +kernel
theorem dX8_choosen_43 : decode cX8_choosen 43 = .ok (.iinc 3 1, 3) := by decide +kernel
theorem dX8_choosen_46 : decode cX8_choosen 46 = .ok (.goto (-44), 3) := by decide +kernel
theorem dX8_choosen_49 : decode cX8_choosen 49 = .ok (.iconst (-1), 1) := by decide +kernel
theorem dX8_choosen_50 : decode cX8_choosen 50 = .ok (.ireturn, 1) := by decide +kernel
theorem dX8_firstWave_0 : decode cX8_firstWave 0 = .ok (.aload_n 0, 1) := by decide +kernel
theorem dX8_firstWave_1 : decode cX8_firstWave 1 = .ok (.getfield 13, 3) := by decide +kernel
theorem dX8_firstWave_4 : decode cX8_firstWave 4 = .ok (.iconst 2, 1) := by decide +kernel
theorem dX8_firstWave_5 : decode cX8_firstWave 5 = .ok (.iaload, 1) := by decide +kernel
theorem dX8_firstWave_6 : decode cX8_firstWave 6 = .ok (.iconst 1, 1) := by decide +kernel
theorem dX8_firstWave_7 : decode cX8_firstWave 7 = .ok (.iadd, 1) := by decide +kernel
theorem dX8_firstWave_8 : decode cX8_firstWave 8 = .ok (.istore_n 1, 1) := by decide +kernel
theorem dX8_firstWave_9 : decode cX8_firstWave 9 = .ok (.iload_n 1, 1) := by decide +kernel
theorem dX8_firstWave_10 : decode cX8_firstWave 10 = .ok (.bipush 9, 2) := by decide +kernel
theorem dX8_firstWave_12 : decode cX8_firstWave 12 = .ok (.if_icmp .gt 29, 3) := by decide +kernel
theorem dX8_firstWave_15 : decode cX8_firstWave 15 = .ok (.aload_n 0, 1) := by decide +kernel
theorem dX8_firstWave_16 : decode cX8_firstWave 16 = .ok (.aload_n 0, 1) := by decide +kernel
theorem dX8_firstWave_17 : decode cX8_firstWave 17 = .ok (.getfield 13, 3) := by decide +kernel
theorem dX8_firstWave_20 : decode cX8_firstWave 20 = .ok (.iload_n 1, 1) := by decide +kernel
theorem dX8_firstWave_21 : decode cX8_firstWave 21 = .ok (.invokevirtual 179, 3) := by decide +kernel
theorem dX8_firstWave_24 : decode cX8_firstWave 24 = .ok (.aload_n 0, 1) := by decide +kernel
theorem dX8_firstWave_25 : decode cX8_firstWave 25 = .ok (.getfield 13, 3) := by decide +kernel
theorem dX8_firstWave_28 : decode cX8_firstWave 28 = .ok (.iconst 4, 1) := by decide +kernel
theorem dX8_firstWave_29 : decode cX8_firstWave 29 = .ok (.iaload, 1) := by decide +kernel
theorem dX8_firstWave_30 : decode cX8_firstWave 30 = .ok (.if_icmp .ge 5, 3) := by decide +kernel
theorem dX8_firstWave_33 : decode cX8_firstWave 33 = .ok (.iload_n 1, 1) := by decide +kernel
theorem dX8_firstWave_34 : decode cX8_firstWave 34 = .ok (.ireturn, 1) := by decide +kernel
theorem dX8_firstWave_35 : decode cX8_firstWave 35 = .ok (.iinc 1 1, 3) := by decide +kernel
theorem dX8_firstWave_38 : decode cX8_firstWave 38 = .ok (.goto (-29), 3) := by decide +kernel
theorem dX8_firstWave_41 : decode cX8_firstWave 41 = .ok (.iconst (-1), 1) := by decide +kernel
theorem dX8_firstWave_42 : decode cX8_firstWave 42 = .ok (.ireturn, 1) := by decide +kernel
theorem dX8_settle_0 : decode cX8_settle 0 = .ok (.aload_n 0, 1) := by decide +kernel
theorem dX8_settle_1 : decode cX8_settle 1 = .ok (.iconst 0, 1) := by decide +kernel
theorem dX8_settle_2 : decode cX8_settle 2 = .ok (.putfield 1, 3) := by decide +kernel
theorem dX8_settle_5 : decode cX8_settle 5 = .ok (.aload_n 0, 1) := by decide +kernel
theorem dX8_settle_6 : decode cX8_settle 6 = .ok (.aload_n 0, 1) := by decide +kernel
theorem dX8_settle_7 : decode cX8_settle 7 = .ok (.getfield 13, 3) := by decide +kernel
theorem dX8_settle_10 : decode cX8_settle 10 = .ok (.invokevirtual 335, 3) := by decide +kernel
theorem dX8_settle_13 : decode cX8_settle 13 = .ok (.iconst 0, 1) := by decide +kernel
theorem dX8_settle_14 : decode cX8_settle 14 = .ok (.istore_n 1, 1) := by decide +kernel
theorem dX8_settle_15 : decode cX8_settle 15 = .ok (.iconst 1, 1) := by decide +kernel
theorem dX8_settle_16 : decode cX8_settle 16 = .ok (.istore_n 2, 1) := by decide +kernel
theorem dX8_settle_17 : decode cX8_settle 17 = .ok (.iload_n 2, 1) := by decide +kernel
theorem dX8_settle_18 : decode cX8_settle 18 = .ok (.sipush 250, 3) := by decide +kernel
theorem dX8_settle_21 : decode cX8_settle 21 = .ok (.if_icmp .gt 109, 3) := by decide +kernel
theorem dX8_settle_24 : decode cX8_settle 24 = .ok (.aload_n 0, 1) := by decide +kernel
theorem dX8_settle_25 : decode cX8_settle 25 = .ok (.iload_n 2, 1) := by decide +kernel
theorem dX8_settle_26 : decode cX8_settle 26 = .ok (.invokevirtual 239, 3) := by decide +kernel
theorem dX8_settle_29 : decode cX8_settle 29 = .ok (.ifCond .ne 6, 3) := by decide +kernel
theorem dX8_settle_32 : decode cX8_settle 32 = .ok (.goto 92, 3) := by decide +kernel
theorem dX8_settle_35 : decode cX8_settle 35 = .ok (.aload_n 0, 1) := by decide +kernel
theorem dX8_settle_36 : decode cX8_settle 36 = .ok (.iconst 1, 1) := by decide +kernel
theorem dX8_settle_37 : decode cX8_settle 37 = .ok (.iload_n 2, 1) := by decide +kernel
theorem dX8_settle_38 : decode cX8_settle 38 = .ok (.invokevirtual 342, 3) := by decide +kernel
theorem dX8_settle_41 : decode cX8_settle 41 = .ok (.istore_n 3, 1) := by decide +kernel
theorem dX8_settle_42 : decode cX8_settle 42 = .ok (.iload_n 3, 1) := by decide +kernel
theorem dX8_settle_43 : decode cX8_settle 43 = .ok (.iconst (-1), 1) := by decide +kernel
theorem dX8_settle_44 : decode cX8_settle 44 = .ok (.if_icmp .ne 10, 3) := by decide +kernel
theorem dX8_settle_47 : decode cX8_settle 47 = .ok (.aload_n 0, 1) := by decide +kernel
theorem dX8_settle_48 : decode cX8_settle 48 = .ok (.iconst 0, 1) := by decide +kernel
theorem dX8_settle_49 : decode cX8_settle 49 = .ok (.iload_n 2, 1) := by decide +kernel
theorem dX8_settle_50 : decode cX8_settle 50 = .ok (.invokevirtual 342, 3) := by decide +kernel
theorem dX8_settle_53 : decode cX8_settle 53 = .ok (.istore_n 3, 1) := by decide +kernel
theorem dX8_settle_54 : decode cX8_settle 54 = .ok (.iload_n 3, 1) := by decide +kernel
theorem dX8_settle_55 : decode cX8_settle 55 = .ok (.iconst (-1), 1) := by decide +kernel
theorem dX8_settle_56 : decode cX8_settle 56 = .ok (.if_icmp .eq 68, 3) := by decide +kernel
theorem dX8_settle_59 : decode cX8_settle 59 = .ok (.aload_n 0, 1) := by decide +kernel
theorem dX8_settle_60 : decode cX8_settle 60 = .ok (.iload_n 3, 1) := by decide +kernel
theorem dX8_settle_61 : decode cX8_settle 61 = .ok (.iconst 4, 1) := by decide +kernel
theorem dX8_settle_62 : decode cX8_settle 62 = .ok (.invokevirtual 218, 3) := by decide +kernel
theorem dX8_settle_65 : decode cX8_settle 65 = .ok (.ifCond .eq 6, 3) := by decide +kernel
theorem dX8_settle_68 : decode cX8_settle 68 = .ok (.goto 56, 3) := by decide +kernel
theorem dX8_settle_71 : decode cX8_settle 71 = .ok (.aload_n 0, 1) := by decide +kernel
theorem dX8_settle_72 : decode cX8_settle 72 = .ok (.invokevirtual 320, 3) := by decide +kernel
theorem dX8_settle_75 : decode cX8_settle 75 = .ok (.istore 4, 2) := by decide +kernel
theorem dX8_settle_77 : decode cX8_settle 77 = .ok (.aload_n 0, 1) := by decide +kernel
theorem dX8_settle_78 : decode cX8_settle 78 = .ok (.invokevirtual 345, 3) := by decide +kernel
theorem dX8_settle_81 : decode cX8_settle 81 = .ok (.istore 5, 2) := by decide +kernel
theorem dX8_settle_83 : decode cX8_settle 83 = .ok (.iload 4, 2) := by decide +kernel
theorem dX8_settle_85 : decode cX8_settle 85 = .ok (.iconst (-1), 1) := by decide +kernel
theorem dX8_settle_86 : decode cX8_settle 86 = .ok (.if_icmp .eq 9, 3) := by decide +kernel
theorem dX8_settle_89 : decode cX8_settle 89 = .ok (.iload 5, 2) := by decide +kernel
theorem dX8_settle_91 : decode cX8_settle 91 = .ok (.iconst (-1), 1) := by decide +kernel
theorem dX8_settle_92 : decode cX8_settle 92 = .ok (.if_icmp .ne 5, 3) := by decide +kernel
theorem dX8_settle_95 : decode cX8_settle 95 = .ok (.iload_n 1, 1) := by decide +kernel
theorem dX8_settle_96 : decode cX8_settle 96 = .ok (.ireturn, 1) := by decide +kernel
theorem dX8_settle_97 : decode cX8_settle 97 = .ok (.aload_n 0, 1) := by decide +kernel
theorem dX8_settle_98 : decode cX8_settle 98 = .ok (.getfield 13, 3) := by decide +kernel
theorem dX8_settle_101 : decode cX8_settle 101 = .ok (.iload_n 3, 1) := by decide +kernel
theorem dX8_settle_102 : decode cX8_settle 102 = .ok (.iconst 3, 1) := by decide +kernel
theorem dX8_settle_103 : decode cX8_settle 103 = .ok (.invokestatic 129, 3) := by decide +kernel
theorem dX8_settle_106 : decode cX8_settle 106 = .ok (.iload 4, 2) := by decide +kernel
theorem dX8_settle_108 : decode cX8_settle 108 = .ok (.iastore, 1) := by decide +kernel
theorem dX8_settle_109 : decode cX8_settle 109 = .ok (.aload_n 0, 1) := by decide +kernel
theorem dX8_settle_110 : decode cX8_settle 110 = .ok (.getfield 13, 3) := by decide +kernel
theorem dX8_settle_113 : decode cX8_settle 113 = .ok (.iload_n 3, 1) := by decide +kernel
theorem dX8_settle_114 : decode cX8_settle 114 = .ok (.iconst 4, 1) := by decide +kernel
theorem dX8_settle_115 : decode cX8_settle 115 = .ok (.invokestatic 129, 3) := by decide +kernel
theorem dX8_settle_118 : decode cX8_settle 118 = .ok (.iload 5, 2) := by decide +kernel
theorem dX8_settle_120 : decode cX8_settle 120 = .ok (.iastore, 1) := by decide +kernel
theorem dX8_settle_121 : decode cX8_settle 121 = .ok (.iinc 1 1, 3) := by decide +kernel
theorem dX8_settle_124 : decode cX8_settle 124 = .ok (.iinc 2 1, 3) := by decide +kernel
theorem dX8_settle_127 : decode cX8_settle 127 = .ok (.goto (-110), 3) := by decide +kernel
theorem dX8_settle_130 : decode cX8_settle 130 = .ok (.iload_n 1, 1) := by decide +kernel
theorem dX8_settle_131 : decode cX8_settle 131 = .ok (.ireturn, 1) := by decide +kernel
theorem dX8_wave_0 : decode cX8_wave 0 = .ok (.aload_n 0, 1) := by decide +kernel
theorem dX8_wave_1 : decode cX8_wave 1 = .ok (.iconst 0, 1) := by decide +kernel
theorem dX8_wave_2 : decode cX8_wave 2 = .ok (.putfield 1, 3) := by decide +kernel
theorem dX8_wave_5 : decode cX8_wave 5 = .ok (.aload_n 0, 1) := by decide +kernel
theorem dX8_wave_6 : decode cX8_wave 6 = .ok (.invokevirtual 323, 3) := by decide +kernel
theorem dX8_wave_9 : decode cX8_wave 9 = .ok (.aload_n 0, 1) := by decide +kernel
theorem dX8_wave_10 : decode cX8_wave 10 = .ok (.invokevirtual 326, 3) := by decide +kernel
theorem dX8_wave_13 : decode cX8_wave 13 = .ok (.istore_n 1, 1) := by decide +kernel
theorem dX8_wave_14 : decode cX8_wave 14 = .ok (.iload_n 1, 1) := by decide +kernel
theorem dX8_wave_15 : decode cX8_wave 15 = .ok (.ifCond .eq 9, 3) := by decide +kernel
theorem dX8_wave_18 : decode cX8_wave 18 = .ok (.aload_n 0, 1) := by decide +kernel
theorem dX8_wave_19 : decode cX8_wave 19 = .ok (.invokevirtual 329, 3) := by decide +kernel
theorem dX8_wave_22 : decode cX8_wave 22 = .ok (.iload_n 1, 1) := by decide +kernel
theorem dX8_wave_23 : decode cX8_wave 23 = .ok (.ireturn, 1) := by decide +kernel
theorem dX8_wave_24 : decode cX8_wave 24 = .ok (.aload_n 0, 1) := by decide +kernel
theorem dX8_wave_25 : decode cX8_wave 25 = .ok (.aload_n 0, 1) := by decide +kernel
theorem dX8_wave_26 : decode cX8_wave 26 = .ok (.getfield 23, 3) := by decide +kernel
theorem dX8_wave_29 : decode cX8_wave 29 = .ok (.invokevirtual 335, 3) := by decide +kernel
theorem dX8_wave_32 : decode cX8_wave 32 = .ok (.aload_n 0, 1) := by decide +kernel
theorem dX8_wave_33 : decode cX8_wave 33 = .ok (.getfield 248, 3) := by decide +kernel
theorem dX8_wave_36 : decode cX8_wave 36 = .ok (.ireturn, 1) := by decide +kernel
theorem dX8_back_0 : decode cX8_back 0 = .ok (.aload_n 0, 1) := by decide +kernel
theorem dX8_back_1 : decode cX8_back 1 = .ok (.iconst 0, 1) := by decide +kernel
theorem dX8_back_2 : decode cX8_back 2 = .ok (.putfield 1, 3) := by decide +kernel
theorem dX8_back_5 : decode cX8_back 5 = .ok (.aload_n 0, 1) := by decide +kernel
theorem dX8_back_6 : decode cX8_back 6 = .ok (.getfield 13, 3) := by decide +kernel
theorem dX8_back_9 : decode cX8_back 9 = .ok (.iconst 2, 1) := by decide +kernel
theorem dX8_back_10 : decode cX8_back 10 = .ok (.iaload, 1) := by decide +kernel
theorem dX8_back_11 : decode cX8_back 11 = .ok (.ifCond .ne 6, 3) := by decide +kernel
theorem dX8_back_14 : decode cX8_back 14 = .ok (.bipush (-2), 2) := by decide +kernel
theorem dX8_back_16 : decode cX8_back 16 = .ok (.ireturn, 1) := by decide +kernel
theorem dX8_back_17 : decode cX8_back 17 = .ok (.aload_n 0, 1) := by decide +kernel
theorem dX8_back_18 : decode cX8_back 18 = .ok (.invokevirtual 323, 3) := by decide +kernel
theorem dX8_back_21 : decode cX8_back 21 = .ok (.aload_n 0, 1) := by decide +kernel
theorem dX8_back_22 : decode cX8_back 22 = .ok (.invokevirtual 348, 3) := by decide +kernel
theorem dX8_back_25 : decode cX8_back 25 = .ok (.aload_n 0, 1) := by decide +kernel
theorem dX8_back_26 : decode cX8_back 26 = .ok (.invokevirtual 270, 3) := by decide +kernel
theorem dX8_back_29 : decode cX8_back 29 = .ok (.iconst (-1), 1) := by decide +kernel
theorem dX8_back_30 : decode cX8_back 30 = .ok (.if_icmp .eq 10, 3) := by decide +kernel
theorem dX8_back_33 : decode cX8_back 33 = .ok (.aload_n 0, 1) := by decide +kernel
theorem dX8_back_34 : decode cX8_back 34 = .ok (.invokevirtual 329, 3) := by decide +kernel
theorem dX8_back_37 : decode cX8_back 37 = .ok (.bipush (-3), 2) := by decide +kernel
theorem dX8_back_39 : decode cX8_back 39 = .ok (.ireturn, 1) := by decide +kernel
theorem dX8_back_40 : decode cX8_back 40 = .ok (.aload_n 0, 1) := by decide +kernel
theorem dX8_back_41 : decode cX8_back 41 = .ok (.aload_n 0, 1) := by decide +kernel
theorem dX8_back_42 : decode cX8_back 42 = .ok (.getfield 23, 3) := by decide +kernel
theorem dX8_back_45 : decode cX8_back 45 = .ok (.invokevirtual 335, 3) := by decide +kernel
theorem dX8_back_48 : decode cX8_back 48 = .ok (.aload_n 0, 1) := by decide +kernel
theorem dX8_back_49 : decode cX8_back 49 = .ok (.getfield 13, 3) := by decide +kernel
theorem dX8_back_52 : decode cX8_back 52 = .ok (.iconst 2, 1) := by decide +kernel
theorem dX8_back_53 : decode cX8_back 53 = .ok (.iaload, 1) := by decide +kernel
theorem dX8_back_54 : decode cX8_back 54 = .ok (.ireturn, 1) := by decide +kernel
theorem dX8_open_0 : decode cX8_open 0 = .ok (.aload_n 0, 1) := by decide +kernel
theorem dX8_open_1 : decode cX8_open 1 = .ok (.iconst 0, 1) := by decide +kernel
theorem dX8_open_2 : decode cX8_open 2 = .ok (.putfield 1, 3) := by decide +kernel
theorem dX8_open_5 : decode cX8_open 5 = .ok (.aload_n 0, 1) := by decide +kernel
theorem dX8_open_6 : decode cX8_open 6 = .ok (.getfield 13, 3) := by decide +kernel
theorem dX8_open_9 : decode cX8_open 9 = .ok (.bipush 7, 2) := by decide +kernel
theorem dX8_open_11 : decode cX8_open 11 = .ok (.iaload, 1) := by decide +kernel
theorem dX8_open_12 : decode cX8_open 12 = .ok (.iconst 1, 1) := by decide +kernel
theorem dX8_open_13 : decode cX8_open 13 = .ok (.if_icmp .ne 6, 3) := by decide +kernel
theorem dX8_open_16 : decode cX8_open 16 = .ok (.bipush (-2), 2) := by decide +kernel
theorem dX8_open_18 : decode cX8_open 18 = .ok (.ireturn, 1) := by decide +kernel
theorem dX8_open_19 : decode cX8_open 19 = .ok (.aload_n 0, 1) := by decide +kernel
theorem dX8_open_20 : decode cX8_open 20 = .ok (.invokevirtual 289, 3) := by decide +kernel
theorem dX8_open_23 : decode cX8_open 23 = .ok (.ifCond .le 6, 3) := by decide +kernel
theorem dX8_open_26 : decode cX8_open 26 = .ok (.bipush (-3), 2) := by decide +kernel
theorem dX8_open_28 : decode cX8_open 28 = .ok (.ireturn, 1) := by decide +kernel
theorem dX8_open_29 : decode cX8_open 29 = .ok (.aload_n 0, 1) := by decide +kernel
theorem dX8_open_30 : decode cX8_open 30 = .ok (.aload_n 0, 1) := by decide +kernel
theorem dX8_open_31 : decode cX8_open 31 = .ok (.getfield 13, 3) := by decide +kernel
theorem dX8_open_34 : decode cX8_open 34 = .ok (.invokevirtual 335, 3) := by decide +kernel
theorem dX8_open_37 : decode cX8_open 37 = .ok (.aload_n 0, 1) := by decide +kernel
theorem dX8_open_38 : decode cX8_open 38 = .ok (.getfield 13, 3) := by decide +kernel
theorem dX8_open_41 : decode cX8_open 41 = .ok (.bipush 7, 2) := by decide +kernel
theorem dX8_open_43 : decode cX8_open 43 = .ok (.iconst 1, 1) := by decide +kernel
theorem dX8_open_44 : decode cX8_open 44 = .ok (.iastore, 1) := by decide +kernel
theorem dX8_open_45 : decode cX8_open 45 = .ok (.aload_n 0, 1) := by decide +kernel
theorem dX8_open_46 : decode cX8_open 46 = .ok (.getfield 13, 3) := by decide +kernel
theorem dX8_open_49 : decode cX8_open 49 = .ok (.iconst 0, 1) := by decide +kernel
theorem dX8_open_50 : decode cX8_open 50 = .ok (.iaload, 1) := by decide +kernel
theorem dX8_open_51 : decode cX8_open 51 = .ok (.ireturn, 1) := by decide +kernel
theorem dX8_close_0 : decode cX8_close 0 = .ok (.aload_n 0, 1) := by decide +kernel
theorem dX8_close_1 : decode cX8_close 1 = .ok (.iconst 0, 1) := by decide +kernel
theorem dX8_close_2 : decode cX8_close 2 = .ok (.putfield 1, 3) := by decide +kernel
theorem dX8_close_5 : decode cX8_close 5 = .ok (.aload_n 0, 1) := by decide +kernel
theorem dX8_close_6 : decode cX8_close 6 = .ok (.getfield 13, 3) := by decide +kernel
theorem dX8_close_9 : decode cX8_close 9 = .ok (.bipush 7, 2) := by decide +kernel
theorem dX8_close_11 : decode cX8_close 11 = .ok (.iaload, 1) := by decide +kernel
theorem dX8_close_12 : decode cX8_close 12 = .ok (.ifCond .ne 6, 3) := by decide +kernel
theorem dX8_close_15 : decode cX8_close 15 = .ok (.bipush (-2), 2) := by decide +kernel
theorem dX8_close_17 : decode cX8_close 17 = .ok (.ireturn, 1) := by decide +kernel
theorem dX8_close_18 : decode cX8_close 18 = .ok (.aload_n 0, 1) := by decide +kernel
theorem dX8_close_19 : decode cX8_close 19 = .ok (.aload_n 0, 1) := by decide +kernel
theorem dX8_close_20 : decode cX8_close 20 = .ok (.getfield 13, 3) := by decide +kernel
theorem dX8_close_23 : decode cX8_close 23 = .ok (.invokevirtual 335, 3) := by decide +kernel
theorem dX8_close_26 : decode cX8_close 26 = .ok (.aload_n 0, 1) := by decide +kernel
theorem dX8_close_27 : decode cX8_close 27 = .ok (.getfield 13, 3) := by decide +kernel
theorem dX8_close_30 : decode cX8_close 30 = .ok (.bipush 7, 2) := by decide +kernel
theorem dX8_close_32 : decode cX8_close 32 = .ok (.iconst 0, 1) := by decide +kernel
theorem dX8_close_33 : decode cX8_close 33 = .ok (.iastore, 1) := by decide +kernel
theorem dX8_close_34 : decode cX8_close 34 = .ok (.iconst 0, 1) := by decide +kernel
theorem dX8_close_35 : decode cX8_close 35 = .ok (.istore_n 1, 1) := by decide +kernel
theorem dX8_close_36 : decode cX8_close 36 = .ok (.iconst 0, 1) := by decide +kernel
theorem dX8_close_37 : decode cX8_close 37 = .ok (.istore_n 2, 1) := by decide +kernel
theorem dX8_close_38 : decode cX8_close 38 = .ok (.iload_n 2, 1) := by decide +kernel
theorem dX8_close_39 : decode cX8_close 39 = .ok (.aload_n 0, 1) := by decide +kernel
theorem dX8_close_40 : decode cX8_close 40 = .ok (.getfield 13, 3) := by decide +kernel
theorem dX8_close_43 : decode cX8_close 43 = .ok (.iconst 0, 1) := by decide +kernel
theorem dX8_close_44 : decode cX8_close 44 = .ok (.iaload, 1) := by decide +kernel
theorem dX8_close_45 : decode cX8_close 45 = .ok (.if_icmp .ge 26, 3) := by decide +kernel
theorem dX8_close_48 : decode cX8_close 48 = .ok (.iload_n 1, 1) := by decide +kernel
theorem dX8_close_49 : decode cX8_close 49 = .ok (.aload_n 0, 1) := by decide +kernel
theorem dX8_close_50 : decode cX8_close 50 = .ok (.iload_n 2, 1) := by decide +kernel
theorem dX8_close_51 : decode cX8_close 51 = .ok (.iconst 0, 1) := by decide +kernel
theorem dX8_close_52 : decode cX8_close 52 = .ok (.invokevirtual 218, 3) := by decide +kernel
theorem dX8_close_55 : decode cX8_close 55 = .ok (.ifCond .ne 7, 3) := by decide +kernel
theorem dX8_close_58 : decode cX8_close 58 = .ok (.iconst 1, 1) := by decide +kernel
theorem dX8_close_59 : decode cX8_close 59 = .ok (.goto 4, 3) := by decide +kernel
theorem dX8_close_62 : decode cX8_close 62 = .ok (.iconst 0, 1) := by decide +kernel
theorem dX8_close_63 : decode cX8_close 63 = .ok (.iadd, 1) := by decide +kernel
theorem dX8_close_64 : decode cX8_close 64 = .ok (.istore_n 1, 1) := by decide +kernel
theorem dX8_close_65 : decode cX8_close 65 = .ok (.iinc 2 1, 3) := by decide +kernel
theorem dX8_close_68 : decode cX8_close 68 = .ok (.goto (-30), 3) := by decide +kernel
theorem dX8_close_71 : decode cX8_close 71 = .ok (.iload_n 1, 1) := by decide +kernel
theorem dX8_close_72 : decode cX8_close 72 = .ok (.ireturn, 1) := by decide +kernel
theorem dX8_isSide_0 : decode cX8_isSide 0 = .ok (.iload_n 0, 1) := by decide +kernel
theorem dX8_isSide_1 : decode cX8_isSide 1 = .ok (.i2l, 1) := by decide +kernel
theorem dX8_isSide_2 : decode cX8_isSide 2 = .ok (.lconst 0, 1) := by decide +kernel
theorem dX8_isSide_3 : decode cX8_isSide 3 = .ok (.ldc2_w 157, 3) := by decide +kernel
theorem dX8_isSide_6 : decode cX8_isSide 6 = .ok (.invokestatic 125, 3) := by decide +kernel
theorem dX8_isSide_9 : decode cX8_isSide 9 = .ok (.ireturn, 1) := by decide +kernel
theorem dX8_addRule_0 : decode cX8_addRule 0 = .ok (.aload_n 0, 1) := by decide +kernel
theorem dX8_addRule_1 : decode cX8_addRule 1 = .ok (.iconst 0, 1) := by decide +kernel
theorem dX8_addRule_2 : decode cX8_addRule 2 = .ok (.putfield 1, 3) := by decide +kernel
theorem dX8_addRule_5 : decode cX8_addRule 5 = .ok (.aload_n 0, 1) := by decide +kernel
theorem dX8_addRule_6 : decode cX8_addRule 6 = .ok (.iload_n 1, 1) := by decide +kernel
theorem dX8_addRule_7 : decode cX8_addRule 7 = .ok (.invokestatic 300, 3) := by decide +kernel
theorem dX8_addRule_10 : decode cX8_addRule 10 = .ok (.iconst 1, 1) := by decide +kernel
theorem dX8_addRule_11 : decode cX8_addRule 11 = .ok (.invokevirtual 201, 3) := by decide +kernel
theorem dX8_addRule_14 : decode cX8_addRule 14 = .ok (.ifCond .ne 31, 3) := by decide +kernel
theorem dX8_addRule_17 : decode cX8_addRule 17 = .ok (.aload_n 0, 1) := by decide +kernel
theorem dX8_addRule_18 : decode cX8_addRule 18 = .ok (.iload_n 3, 1) := by decide +kernel
theorem dX8_addRule_19 : decode cX8_addRule 19 = .ok (.invokestatic 351, 3) := by decide +kernel
theorem dX8_addRule_22 : decode cX8_addRule 22 = .ok (.ifCond .eq 15, 3) := by decide +kernel
theorem dX8_addRule_25 : decode cX8_addRule 25 = .ok (.iload 4, 2) := by decide +kernel
theorem dX8_addRule_27 : decode cX8_addRule 27 = .ok (.invokestatic 351, 3) := by decide +kernel
theorem dX8_addRule_30 : decode cX8_addRule 30 = .ok (.ifCond .eq 7, 3) := by decide +kernel
theorem dX8_addRule_33 : decode cX8_addRule 33 = .ok (.iconst 1, 1) := by decide +kernel
theorem dX8_addRule_34 : decode cX8_addRule 34 = .ok (.goto 4, 3) := by decide +kernel
theorem dX8_addRule_37 : decode cX8_addRule 37 = .ok (.iconst 0, 1) := by decide +kernel
theorem dX8_addRule_38 : decode cX8_addRule 38 = .ok (.iconst 2, 1) := by decide +kernel
theorem dX8_addRule_39 : decode cX8_addRule 39 = .ok (.invokevirtual 201, 3) := by decide +kernel
theorem dX8_addRule_42 : decode cX8_addRule 42 = .ok (.ifCond .eq 5, 3) := by decide +kernel
theorem dX8_addRule_45 : decode cX8_addRule 45 = .ok (.iconst 0, 1) := by decide +kernel
theorem dX8_addRule_46 : decode cX8_addRule 46 = .ok (.ireturn, 1) := by decide +kernel
theorem dX8_addRule_47 : decode cX8_addRule 47 = .ok (.aload_n 0, 1) := by decide +kernel
theorem dX8_addRule_48 : decode cX8_addRule 48 = .ok (.getfield 13, 3) := by decide +kernel
theorem dX8_addRule_51 : decode cX8_addRule 51 = .ok (.iconst 1, 1) := by decide +kernel
theorem dX8_addRule_52 : decode cX8_addRule 52 = .ok (.iaload, 1) := by decide +kernel
theorem dX8_addRule_53 : decode cX8_addRule 53 = .ok (.istore 5, 2) := by decide +kernel
theorem dX8_addRule_55 : decode cX8_addRule 55 = .ok (.iload 5, 2) := by decide +kernel
theorem dX8_addRule_57 : decode cX8_addRule 57 = .ok (.bipush 30, 2) := by decide +kernel
theorem dX8_addRule_59 : decode cX8_addRule 59 = .ok (.if_icmp .ne 6, 3) := by decide +kernel
theorem dX8_addRule_62 : decode cX8_addRule 62 = .ok (.bipush (-2), 2) := by decide +kernel
theorem dX8_addRule_64 : decode cX8_addRule 64 = .ok (.ireturn, 1) := by decide +kernel
theorem dX8_addRule_65 : decode cX8_addRule 65 = .ok (.aload_n 0, 1) := by decide +kernel
theorem dX8_addRule_66 : decode cX8_addRule 66 = .ok (.aload_n 0, 1) := by decide +kernel
theorem dX8_addRule_67 : decode cX8_addRule 67 = .ok (.getfield 13, 3) := by decide +kernel
theorem dX8_addRule_70 : decode cX8_addRule 70 = .ok (.invokevirtual 335, 3) := by decide +kernel
theorem dX8_addRule_73 : decode cX8_addRule 73 = .ok (.aload_n 0, 1) := by decide +kernel
theorem dX8_addRule_74 : decode cX8_addRule 74 = .ok (.getfield 13, 3) := by decide +kernel
theorem dX8_addRule_77 : decode cX8_addRule 77 = .ok (.iload 5, 2) := by decide +kernel
theorem dX8_addRule_79 : decode cX8_addRule 79 = .ok (.iconst 0, 1) := by decide +kernel
theorem dX8_addRule_80 : decode cX8_addRule 80 = .ok (.invokestatic 167, 3) := by decide +kernel
theorem dX8_addRule_83 : decode cX8_addRule 83 = .ok (.iload_n 1, 1) := by decide +kernel
theorem dX8_addRule_84 : decode cX8_addRule 84 = .ok (.iastore, 1) := by decide +kernel
theorem dX8_addRule_85 : decode cX8_addRule 85 = .ok (.aload_n 0, 1) := by decide +kernel
theorem dX8_addRule_86 : decode cX8_addRule 86 = .ok (.getfield 13, 3) := by decide +kernel
theorem dX8_addRule_89 : decode cX8_addRule 89 = .ok (.iload 5, 2) := by decide +kernel
theorem dX8_addRule_91 : decode cX8_addRule 91 = .ok (.iconst 1, 1) := by decide +kernel
theorem dX8_addRule_92 : decode cX8_addRule 92 = .ok (.invokestatic 167, 3) := by decide +kernel
theorem dX8_addRule_95 : decode cX8_addRule 95 = .ok (.iload_n 2, 1) := by decide +kernel
theorem dX8_addRule_96 : decode cX8_addRule 96 = .ok (.ifCond .eq 7, 3) := by decide +kernel
theorem dX8_addRule_99 : decode cX8_addRule 99 = .ok (.iconst 1, 1) := by decide +kernel
theorem dX8_addRule_100 : decode cX8_addRule 100 = .ok (.goto 4, 3) := by decide +kernel
theorem dX8_addRule_103 : decode cX8_addRule 103 = .ok (.iconst 0, 1) := by decide +kernel
theorem dX8_addRule_104 : decode cX8_addRule 104 = .ok (.iastore, 1) := by decide +kernel
theorem dX8_addRule_105 : decode cX8_addRule 105 = .ok (.aload_n 0, 1) := by decide +kernel
theorem dX8_addRule_106 : decode cX8_addRule 106 = .ok (.getfield 13, 3) := by decide +kernel
theorem dX8_addRule_109 : decode cX8_addRule 109 = .ok (.iload 5, 2) := by decide +kernel
theorem dX8_addRule_111 : decode cX8_addRule 111 = .ok (.iconst 2, 1) := by decide +kernel
theorem dX8_addRule_112 : decode cX8_addRule 112 = .ok (.invokestatic 167, 3) := by decide +kernel
theorem dX8_addRule_115 : decode cX8_addRule 115 = .ok (.iload_n 3, 1) := by decide +kernel
theorem dX8_addRule_116 : decode cX8_addRule 116 = .ok (.iastore, 1) := by decide +kernel
theorem dX8_addRule_117 : decode cX8_addRule 117 = .ok (.aload_n 0, 1) := by decide +kernel
theorem dX8_addRule_118 : decode cX8_addRule 118 = .ok (.getfield 13, 3) := by decide +kernel
theorem dX8_addRule_121 : decode cX8_addRule 121 = .ok (.iload 5, 2) := by decide +kernel
theorem dX8_addRule_123 : decode cX8_addRule 123 = .ok (.iconst 3, 1) := by decide +kernel
theorem dX8_addRule_124 : decode cX8_addRule 124 = .ok (.invokestatic 167, 3) := by decide +kernel
theorem dX8_addRule_127 : decode cX8_addRule 127 = .ok (.iload 4, 2) := by decide +kernel
theorem dX8_addRule_129 : decode cX8_addRule 129 = .ok (.iastore, 1) := by decide +kernel
theorem dX8_addRule_130 : decode cX8_addRule 130 = .ok (.aload_n 0, 1) := by decide +kernel
theorem dX8_addRule_131 : decode cX8_addRule 131 = .ok (.getfield 13, 3) := by decide +kernel
theorem dX8_addRule_134 : decode cX8_addRule 134 = .ok (.iconst 1, 1) := by decide +kernel
theorem dX8_addRule_135 : decode cX8_addRule 135 = .ok (.iload 5, 2) := by decide +kernel
theorem dX8_addRule_137 : decode cX8_addRule 137 = .ok (.iconst 1, 1) := by decide +kernel
theorem dX8_addRule_138 : decode cX8_addRule 138 = .ok (.iadd, 1) := by decide +kernel
theorem dX8_addRule_139 : decode cX8_addRule 139 = .ok (.iastore, 1) := by decide +kernel
theorem dX8_addRule_140 : decode cX8_addRule 140 = .ok (.iload 5, 2) := by decide +kernel
theorem dX8_addRule_142 : decode cX8_addRule 142 = .ok (.ireturn, 1) := by decide +kernel
theorem dX8_removeRule_0 : decode cX8_removeRule 0 = .ok (.aload_n 0, 1) := by decide +kernel
theorem dX8_removeRule_1 : decode cX8_removeRule 1 = .ok (.iconst 0, 1) := by decide +kernel
theorem dX8_removeRule_2 : decode cX8_removeRule 2 = .ok (.putfield 1, 3) := by decide +kernel
theorem dX8_removeRule_5 : decode cX8_removeRule 5 = .ok (.aload_n 0, 1) := by decide +kernel
theorem dX8_removeRule_6 : decode cX8_removeRule 6 = .ok (.aload_n 0, 1) := by decide +kernel
theorem dX8_removeRule_7 : decode cX8_removeRule 7 = .ok (.iload_n 1, 1) := by decide +kernel
theorem dX8_removeRule_8 : decode cX8_removeRule 8 = .ok (.invokevirtual 309, 3) := by decide +kernel
theorem dX8_removeRule_11 : decode cX8_removeRule 11 = .ok (.iconst 1, 1) := by decide +kernel
theorem dX8_removeRule_12 : decode cX8_removeRule 12 = .ok (.invokevirtual 201, 3) := by decide +kernel
theorem dX8_removeRule_15 : decode cX8_removeRule 15 = .ok (.ifCond .eq 5, 3) := by decide +kernel
theorem dX8_removeRule_18 : decode cX8_removeRule 18 = .ok (.iconst 0, 1) := by decide +kernel
theorem dX8_removeRule_19 : decode cX8_removeRule 19 = .ok (.ireturn, 1) := by decide +kernel
theorem dX8_removeRule_20 : decode cX8_removeRule 20 = .ok (.aload_n 0, 1) := by decide +kernel
theorem dX8_removeRule_21 : decode cX8_removeRule 21 = .ok (.aload_n 0, 1) := by decide +kernel
theorem dX8_removeRule_22 : decode cX8_removeRule 22 = .ok (.getfield 13, 3) := by decide +kernel
theorem dX8_removeRule_25 : decode cX8_removeRule 25 = .ok (.invokevirtual 335, 3) := by decide +kernel
theorem dX8_removeRule_28 : decode cX8_removeRule 28 = .ok (.aload_n 0, 1) := by decide +kernel
theorem dX8_removeRule_29 : decode cX8_removeRule 29 = .ok (.getfield 13, 3) := by decide +kernel
theorem dX8_removeRule_32 : decode cX8_removeRule 32 = .ok (.iconst 1, 1) := by decide +kernel
theorem dX8_removeRule_33 : decode cX8_removeRule 33 = .ok (.dup2, 1) := by decide +kernel
theorem dX8_removeRule_34 : decode cX8_removeRule 34 = .ok (.iaload, 1) := by decide +kernel
theorem dX8_removeRule_35 : decode cX8_removeRule 35 = .ok (.iconst 1, 1) := by decide +kernel
theorem dX8_removeRule_36 : decode cX8_removeRule 36 = .ok (.isub, 1) := by decide +kernel
theorem dX8_removeRule_37 : decode cX8_removeRule 37 = .ok (.iastore, 1) := by decide +kernel
theorem dX8_removeRule_38 : decode cX8_removeRule 38 = .ok (.iload_n 1, 1) := by decide +kernel
theorem dX8_removeRule_39 : decode cX8_removeRule 39 = .ok (.iconst 0, 1) := by decide +kernel
theorem dX8_removeRule_40 : decode cX8_removeRule 40 = .ok (.invokestatic 167, 3) := by decide +kernel
theorem dX8_removeRule_43 : decode cX8_removeRule 43 = .ok (.istore_n 2, 1) := by decide +kernel
theorem dX8_removeRule_44 : decode cX8_removeRule 44 = .ok (.iload_n 2, 1) := by decide +kernel
theorem dX8_removeRule_45 : decode cX8_removeRule 45 = .ok (.aload_n 0, 1) := by decide +kernel
theorem dX8_removeRule_46 : decode cX8_removeRule 46 = .ok (.getfield 13, 3) := by decide +kernel
theorem dX8_removeRule_49 : decode cX8_removeRule 49 = .ok (.iconst 1, 1) := by decide +kernel
theorem dX8_removeRule_50 : decode cX8_removeRule 50 = .ok (.iaload, 1) := by decide +kernel
theorem dX8_removeRule_51 : decode cX8_removeRule 51 = .ok (.iconst 0, 1) := by decide +kernel
theorem dX8_removeRule_52 : decode cX8_removeRule 52 = .ok (.invokestatic 167, 3) := by decide +kernel
theorem dX8_removeRule_55 : decode cX8_removeRule 55 = .ok (.if_icmp .ge 23, 3) := by decide +kernel
theorem dX8_removeRule_58 : decode cX8_removeRule 58 = .ok (.aload_n 0, 1) := by decide +kernel
theorem dX8_removeRule_59 : decode cX8_removeRule 59 = .ok (.getfield 13, 3) := by decide +kernel
theorem dX8_removeRule_62 : decode cX8_removeRule 62 = .ok (.iload_n 2, 1) := by decide +kernel
theorem dX8_removeRule_63 : decode cX8_removeRule 63 = .ok (.aload_n 0, 1) := by decide +kernel
theorem dX8_removeRule_64 : decode cX8_removeRule 64 = .ok (.getfield 13, 3) := by decide +kernel
theorem dX8_removeRule_67 : decode cX8_removeRule 67 = .ok (.iload_n 2, 1) := by decide +kernel
theorem dX8_removeRule_68 : decode cX8_removeRule 68 = .ok (.iconst 4, 1) := by decide +kernel
theorem dX8_removeRule_69 : decode cX8_removeRule 69 = .ok (.iadd, 1) := by decide +kernel
theorem dX8_removeRule_70 : decode cX8_removeRule 70 = .ok (.iaload, 1) := by decide +kernel
theorem dX8_removeRule_71 : decode cX8_removeRule 71 = .ok (.iastore, 1) := by decide +kernel
theorem dX8_removeRule_72 : decode cX8_removeRule 72 = .ok (.iinc 2 1, 3) := by decide +kernel
theorem dX8_removeRule_75 : decode cX8_removeRule 75 = .ok (.goto (-31), 3) := by decide +kernel
theorem dX8_removeRule_78 : decode cX8_removeRule 78 = .ok (.aload_n 0, 1) := by decide +kernel
theorem dX8_removeRule_79 : decode cX8_removeRule 79 = .ok (.getfield 13, 3) := by decide +kernel
theorem dX8_removeRule_82 : decode cX8_removeRule 82 = .ok (.iconst 1, 1) := by decide +kernel
theorem dX8_removeRule_83 : decode cX8_removeRule 83 = .ok (.iaload, 1) := by decide +kernel
theorem dX8_removeRule_84 : decode cX8_removeRule 84 = .ok (.ireturn, 1) := by decide +kernel
theorem dX8_setKeep_0 : decode cX8_setKeep 0 = .ok (.aload_n 0, 1) := by decide +kernel
theorem dX8_setKeep_1 : decode cX8_setKeep 1 = .ok (.iconst 0, 1) := by decide +kernel
theorem dX8_setKeep_2 : decode cX8_setKeep 2 = .ok (.putfield 1, 3) := by decide +kernel
theorem dX8_setKeep_5 : decode cX8_setKeep 5 = .ok (.aload_n 0, 1) := by decide +kernel
theorem dX8_setKeep_6 : decode cX8_setKeep 6 = .ok (.iload_n 1, 1) := by decide +kernel
theorem dX8_setKeep_7 : decode cX8_setKeep 7 = .ok (.i2l, 1) := by decide +kernel
theorem dX8_setKeep_8 : decode cX8_setKeep 8 = .ok (.lconst 0, 1) := by decide +kernel
theorem dX8_setKeep_9 : decode cX8_setKeep 9 = .ok (.ldc2_w 312, 3) := by decide +kernel
theorem dX8_setKeep_12 : decode cX8_setKeep 12 = .ok (.invokestatic 125, 3) := by decide +kernel
theorem dX8_setKeep_15 : decode cX8_setKeep 15 = .ok (.iconst 1, 1) := by decide +kernel
theorem dX8_setKeep_16 : decode cX8_setKeep 16 = .ok (.invokevirtual 201, 3) := by decide +kernel
theorem dX8_setKeep_19 : decode cX8_setKeep 19 = .ok (.ifCond .eq 5, 3) := by decide +kernel
theorem dX8_setKeep_22 : decode cX8_setKeep 22 = .ok (.iconst 0, 1) := by decide +kernel
theorem dX8_setKeep_23 : decode cX8_setKeep 23 = .ok (.ireturn, 1) := by decide +kernel
theorem dX8_setKeep_24 : decode cX8_setKeep 24 = .ok (.aload_n 0, 1) := by decide +kernel
theorem dX8_setKeep_25 : decode cX8_setKeep 25 = .ok (.invokevirtual 323, 3) := by decide +kernel
theorem dX8_setKeep_28 : decode cX8_setKeep 28 = .ok (.aload_n 0, 1) := by decide +kernel
theorem dX8_setKeep_29 : decode cX8_setKeep 29 = .ok (.getfield 13, 3) := by decide +kernel
theorem dX8_setKeep_32 : decode cX8_setKeep 32 = .ok (.iconst 3, 1) := by decide +kernel
theorem dX8_setKeep_33 : decode cX8_setKeep 33 = .ok (.iaload, 1) := by decide +kernel
theorem dX8_setKeep_34 : decode cX8_setKeep 34 = .ok (.istore_n 2, 1) := by decide +kernel
theorem dX8_setKeep_35 : decode cX8_setKeep 35 = .ok (.aload_n 0, 1) := by decide +kernel
theorem dX8_setKeep_36 : decode cX8_setKeep 36 = .ok (.getfield 13, 3) := by decide +kernel
theorem dX8_setKeep_39 : decode cX8_setKeep 39 = .ok (.iconst 3, 1) := by decide +kernel
theorem dX8_setKeep_40 : decode cX8_setKeep 40 = .ok (.iload_n 1, 1) := by decide +kernel
theorem dX8_setKeep_41 : decode cX8_setKeep 41 = .ok (.iastore, 1) := by decide +kernel
theorem dX8_setKeep_42 : decode cX8_setKeep 42 = .ok (.aload_n 0, 1) := by decide +kernel
theorem dX8_setKeep_43 : decode cX8_setKeep 43 = .ok (.invokevirtual 270, 3) := by decide +kernel
theorem dX8_setKeep_46 : decode cX8_setKeep 46 = .ok (.iconst (-1), 1) := by decide +kernel
theorem dX8_setKeep_47 : decode cX8_setKeep 47 = .ok (.if_icmp .eq 10, 3) := by decide +kernel
theorem dX8_setKeep_50 : decode cX8_setKeep 50 = .ok (.aload_n 0, 1) := by decide +kernel
theorem dX8_setKeep_51 : decode cX8_setKeep 51 = .ok (.invokevirtual 329, 3) := by decide +kernel
theorem dX8_setKeep_54 : decode cX8_setKeep 54 = .ok (.bipush (-2), 2) := by decide +kernel
theorem dX8_setKeep_56 : decode cX8_setKeep 56 = .ok (.ireturn, 1) := by decide +kernel
theorem dX8_setKeep_57 : decode cX8_setKeep 57 = .ok (.aload_n 0, 1) := by decide +kernel
theorem dX8_setKeep_58 : decode cX8_setKeep 58 = .ok (.aload_n 0, 1) := by decide +kernel
theorem dX8_setKeep_59 : decode cX8_setKeep 59 = .ok (.getfield 23, 3) := by decide +kernel
theorem dX8_setKeep_62 : decode cX8_setKeep 62 = .ok (.invokevirtual 335, 3) := by decide +kernel
theorem dX8_setKeep_65 : decode cX8_setKeep 65 = .ok (.iload_n 2, 1) := by decide +kernel
theorem dX8_setKeep_66 : decode cX8_setKeep 66 = .ok (.ireturn, 1) := by decide +kernel
theorem dX8_setPinned_0 : decode cX8_setPinned 0 = .ok (.aload_n 0, 1) := by decide +kernel
theorem dX8_setPinned_1 : decode cX8_setPinned 1 = .ok (.iconst 0, 1) := by decide +kernel
theorem dX8_setPinned_2 : decode cX8_setPinned 2 = .ok (.putfield 1, 3) := by decide +kernel
theorem dX8_setPinned_5 : decode cX8_setPinned 5 = .ok (.aload_n 0, 1) := by decide +kernel
theorem dX8_setPinned_6 : decode cX8_setPinned 6 = .ok (.aload_n 0, 1) := by decide +kernel
theorem dX8_setPinned_7 : decode cX8_setPinned 7 = .ok (.iload_n 1, 1) := by decide +kernel
theorem dX8_setPinned_8 : decode cX8_setPinned 8 = .ok (.invokevirtual 295, 3) := by decide +kernel
theorem dX8_setPinned_11 : decode cX8_setPinned 11 = .ok (.iconst 1, 1) := by decide +kernel
theorem dX8_setPinned_12 : decode cX8_setPinned 12 = .ok (.invokevirtual 201, 3) := by decide +kernel
theorem dX8_setPinned_15 : decode cX8_setPinned 15 = .ok (.ifCond .eq 5, 3) := by decide +kernel
theorem dX8_setPinned_18 : decode cX8_setPinned 18 = .ok (.iconst 0, 1) := by decide +kernel
theorem dX8_setPinned_19 : decode cX8_setPinned 19 = .ok (.ireturn, 1) := by decide +kernel
theorem dX8_setPinned_20 : decode cX8_setPinned 20 = .ok (.aload_n 0, 1) := by decide +kernel
theorem dX8_setPinned_21 : decode cX8_setPinned 21 = .ok (.aload_n 0, 1) := by decide +kernel
theorem dX8_setPinned_22 : decode cX8_setPinned 22 = .ok (.getfield 13, 3) := by decide +kernel
theorem dX8_setPinned_25 : decode cX8_setPinned 25 = .ok (.invokevirtual 335, 3) := by decide +kernel
theorem dX8_setPinned_28 : decode cX8_setPinned 28 = .ok (.aload_n 0, 1) := by decide +kernel
theorem dX8_setPinned_29 : decode cX8_setPinned 29 = .ok (.iload_n 1, 1) := by decide +kernel
theorem dX8_setPinned_30 : decode cX8_setPinned 30 = .ok (.iconst 2, 1) := by decide +kernel
theorem dX8_setPinned_31 : decode cX8_setPinned 31 = .ok (.invokevirtual 218, 3) := by decide +kernel
theorem dX8_setPinned_34 : decode cX8_setPinned 34 = .ok (.istore_n 3, 1) := by decide +kernel
theorem dX8_setPinned_35 : decode cX8_setPinned 35 = .ok (.aload_n 0, 1) := by decide +kernel
theorem dX8_setPinned_36 : decode cX8_setPinned 36 = .ok (.getfield 13, 3) := by decide +kernel
theorem dX8_setPinned_39 : decode cX8_setPinned 39 = .ok (.iload_n 1, 1) := by decide +kernel
theorem dX8_setPinned_40 : decode cX8_setPinned 40 = .ok (.iconst 2, 1) := by decide +kernel
theorem dX8_setPinned_41 : decode cX8_setPinned 41 = .ok (.invokestatic 129, 3) := by decide +kernel
theorem dX8_setPinned_44 : decode cX8_setPinned 44 = .ok (.iload_n 2, 1) := by decide +kernel
theorem dX8_setPinned_45 : decode cX8_setPinned 45 = .ok (.ifCond .eq 7, 3) := by decide +kernel
theorem dX8_setPinned_48 : decode cX8_setPinned 48 = .ok (.iconst 1, 1) := by decide +kernel
theorem dX8_setPinned_49 : decode cX8_setPinned 49 = .ok (.goto 4, 3) := by decide +kernel
theorem dX8_setPinned_52 : decode cX8_setPinned 52 = .ok (.iconst 0, 1) := by decide +kernel
theorem dX8_setPinned_53 : decode cX8_setPinned 53 = .ok (.iastore, 1) := by decide +kernel
theorem dX8_setPinned_54 : decode cX8_setPinned 54 = .ok (.iload_n 2, 1) := by decide +kernel
theorem dX8_setPinned_55 : decode cX8_setPinned 55 = .ok (.ifCond .eq 8, 3) := by decide +kernel
theorem dX8_setPinned_58 : decode cX8_setPinned 58 = .ok (.aload_n 0, 1) := by decide +kernel
theorem dX8_setPinned_59 : decode cX8_setPinned 59 = .ok (.iload_n 1, 1) := by decide +kernel
theorem dX8_setPinned_60 : decode cX8_setPinned 60 = .ok (.invokevirtual 339, 3) := by decide +kernel
theorem dX8_setPinned_63 : decode cX8_setPinned 63 = .ok (.iload_n 3, 1) := by decide +kernel
theorem dX8_setPinned_64 : decode cX8_setPinned 64 = .ok (.ireturn, 1) := by decide +kernel
theorem dX8_undoCount_0 : decode cX8_undoCount 0 = .ok (.aload_n 0, 1) := by decide +kernel
theorem dX8_undoCount_1 : decode cX8_undoCount 1 = .ok (.iconst 0, 1) := by decide +kernel
theorem dX8_undoCount_2 : decode cX8_undoCount 2 = .ok (.putfield 1, 3) := by decide +kernel
theorem dX8_undoCount_5 : decode cX8_undoCount 5 = .ok (.aload_n 0, 1) := by decide +kernel
theorem dX8_undoCount_6 : decode cX8_undoCount 6 = .ok (.getfield 211, 3) := by decide +kernel
theorem dX8_undoCount_9 : decode cX8_undoCount 9 = .ok (.ireturn, 1) := by decide +kernel
theorem dX8_undo_0 : decode cX8_undo 0 = .ok (.aload_n 0, 1) := by decide +kernel
theorem dX8_undo_1 : decode cX8_undo 1 = .ok (.iconst 0, 1) := by decide +kernel
theorem dX8_undo_2 : decode cX8_undo 2 = .ok (.putfield 1, 3) := by decide +kernel
theorem dX8_undo_5 : decode cX8_undo 5 = .ok (.aload_n 0, 1) := by decide +kernel
theorem dX8_undo_6 : decode cX8_undo 6 = .ok (.getfield 211, 3) := by decide +kernel
theorem dX8_undo_9 : decode cX8_undo 9 = .ok (.ifCond .ne 5, 3) := by decide +kernel
theorem dX8_undo_12 : decode cX8_undo 12 = .ok (.iconst (-1), 1) := by decide +kernel
theorem dX8_undo_13 : decode cX8_undo 13 = .ok (.ireturn, 1) := by decide +kernel
theorem dX8_undo_14 : decode cX8_undo 14 = .ok (.aload_n 0, 1) := by decide +kernel
theorem dX8_undo_15 : decode cX8_undo 15 = .ok (.dup, 1) := by decide +kernel
theorem dX8_undo_16 : decode cX8_undo 16 = .ok (.getfield 211, 3) := by decide +kernel
theorem dX8_undo_19 : decode cX8_undo 19 = .ok (.iconst 1, 1) := by decide +kernel
theorem dX8_undo_20 : decode cX8_undo 20 = .ok (.isub, 1) := by decide +kernel
theorem dX8_undo_21 : decode cX8_undo 21 = .ok (.putfield 211, 3) := by decide +kernel
theorem dX8_undo_24 : decode cX8_undo 24 = .ok (.aload_n 0, 1) := by decide +kernel
theorem dX8_undo_25 : decode cX8_undo 25 = .ok (.getfield 26, 3) := by decide +kernel
theorem dX8_undo_28 : decode cX8_undo 28 = .ok (.sipush 1096, 3) := by decide +kernel
theorem dX8_undo_31 : decode cX8_undo 31 = .ok (.aload_n 0, 1) := by decide +kernel
theorem dX8_undo_32 : decode cX8_undo 32 = .ok (.getfield 211, 3) := by decide +kernel
theorem dX8_undo_35 : decode cX8_undo 35 = .ok (.imul, 1) := by decide +kernel
theorem dX8_undo_36 : decode cX8_undo 36 = .ok (.aload_n 0, 1) := by decide +kernel
theorem dX8_undo_37 : decode cX8_undo 37 = .ok (.getfield 13, 3) := by decide +kernel
theorem dX8_undo_40 : decode cX8_undo 40 = .ok (.iconst 0, 1) := by decide +kernel
theorem dX8_undo_41 : decode cX8_undo 41 = .ok (.invokestatic 53, 3) := by decide +kernel
theorem dX8_undo_44 : decode cX8_undo 44 = .ok (.aload_n 0, 1) := by decide +kernel
theorem dX8_undo_45 : decode cX8_undo 45 = .ok (.getfield 211, 3) := by decide +kernel
theorem dX8_undo_48 : decode cX8_undo 48 = .ok (.ireturn, 1) := by decide +kernel
theorem dX8_saveSnapshot_0 : decode cX8_saveSnapshot 0 = .ok (.aload_n 0, 1) := by decide +kernel
theorem dX8_saveSnapshot_1 : decode cX8_saveSnapshot 1 = .ok (.iconst 0, 1) := by decide +kernel
theorem dX8_saveSnapshot_2 : decode cX8_saveSnapshot 2 = .ok (.putfield 1, 3) := by decide +kernel
theorem dX8_saveSnapshot_5 : decode cX8_saveSnapshot 5 = .ok (.aload_n 0, 1) := by decide +kernel
theorem dX8_saveSnapshot_6 : decode cX8_saveSnapshot 6 = .ok (.getfield 13, 3) := by decide +kernel
theorem dX8_saveSnapshot_9 : decode cX8_saveSnapshot 9 = .ok (.iconst 0, 1) := by decide +kernel
theorem dX8_saveSnapshot_10 : decode cX8_saveSnapshot 10 = .ok (.aload_n 0, 1) := by decide +kernel
theorem dX8_saveSnapshot_11 : decode cX8_saveSnapshot 11 = .ok (.getfield 20, 3) := by decide +kernel
theorem dX8_saveSnapshot_14 : decode cX8_saveSnapshot 14 = .ok (.iconst 0, 1) := by decide +kernel
theorem dX8_saveSnapshot_15 : decode cX8_saveSnapshot 15 = .ok (.invokestatic 53, 3) := by decide +kernel
theorem dX8_saveSnapshot_18 : decode cX8_saveSnapshot 18 = .ok (.aload_n 0, 1) := by decide +kernel
theorem dX8_saveSnapshot_19 : decode cX8_saveSnapshot 19 = .ok (.iconst 1, 1) := by decide +kernel
theorem dX8_saveSnapshot_20 : decode cX8_saveSnapshot 20 = .ok (.putfield 214, 3) := by decide +kernel
theorem dX8_saveSnapshot_23 : decode cX8_saveSnapshot 23 = .ok (.return_, 1) := by decide +kernel
theorem dX8_restoreSnapshot_0 : decode cX8_restoreSnapshot 0 = .ok (.aload_n 0, 1) := by decide +kernel
theorem dX8_restoreSnapshot_1 : decode cX8_restoreSnapshot 1 = .ok (.iconst 0, 1) := by decide +kernel
theorem dX8_restoreSnapshot_2 : decode cX8_restoreSnapshot 2 = .ok (.putfield 1, 3) := by decide +kernel
theorem dX8_restoreSnapshot_5 : decode cX8_restoreSnapshot 5 = .ok (.aload_n 0, 1) := by decide +kernel
theorem dX8_restoreSnapshot_6 : decode cX8_restoreSnapshot 6 = .ok (.getfield 214, 3) := by decide +kernel
theorem dX8_restoreSnapshot_9 : decode cX8_restoreSnapshot 9 = .ok (.ifCond .ne 5, 3) := by decide +kernel
theorem dX8_restoreSnapshot_12 : decode cX8_restoreSnapshot 12 = .ok (.iconst 0, 1) := by decide +kernel
theorem dX8_restoreSnapshot_13 : decode cX8_restoreSnapshot 13 = .ok (.ireturn, 1) := by decide +kernel
theorem dX8_restoreSnapshot_14 : decode cX8_restoreSnapshot 14 = .ok (.aload_n 0, 1) := by decide +kernel
theorem dX8_restoreSnapshot_15 : decode cX8_restoreSnapshot 15 = .ok (.getfield 20, 3) := by decide +kernel
theorem dX8_restoreSnapshot_18 : decode cX8_restoreSnapshot 18 = .ok (.iconst 0, 1) := by decide +kernel
theorem dX8_restoreSnapshot_19 : decode cX8_restoreSnapshot 19 = .ok (.aload_n 0, 1) := by decide +kernel
theorem dX8_restoreSnapshot_20 : decode cX8_restoreSnapshot 20 = .ok (.getfield 13, 3) := by decide +kernel
theorem dX8_restoreSnapshot_23 : decode cX8_restoreSnapshot 23 = .ok (.iconst 0, 1) := by decide +kernel
theorem dX8_restoreSnapshot_24 : decode cX8_restoreSnapshot 24 = .ok (.invokestatic 53, 3) := by decide +kernel
theorem dX8_restoreSnapshot_27 : decode cX8_restoreSnapshot 27 = .ok (.aload_n 0, 1) := by decide +kernel
theorem dX8_restoreSnapshot_28 : decode cX8_restoreSnapshot 28 = .ok (.iconst 0, 1) := by decide +kernel
theorem dX8_restoreSnapshot_29 : decode cX8_restoreSnapshot 29 = .ok (.putfield 211, 3) := by decide +kernel
theorem dX8_restoreSnapshot_32 : decode cX8_restoreSnapshot 32 = .ok (.iconst 1, 1) := by decide +kernel
theorem dX8_restoreSnapshot_33 : decode cX8_restoreSnapshot 33 = .ok (.ireturn, 1) := by decide +kernel
theorem dX8_writes_0 : decode cX8_writes 0 = .ok (.aload_n 0, 1) := by decide +kernel
theorem dX8_writes_1 : decode cX8_writes 1 = .ok (.getfield 38, 3) := by decide +kernel
theorem dX8_writes_4 : decode cX8_writes 4 = .ok (.aload_n 0, 1) := by decide +kernel
theorem dX8_writes_5 : decode cX8_writes 5 = .ok (.getfield 354, 3) := by decide +kernel
theorem dX8_writes_8 : decode cX8_writes 8 = .ok (.iload_n 1, 1) := by decide +kernel
theorem dX8_writes_9 : decode cX8_writes 9 = .ok (.iastore, 1) := by decide +kernel
theorem dX8_writes_10 : decode cX8_writes 10 = .ok (.aload_n 0, 1) := by decide +kernel
theorem dX8_writes_11 : decode cX8_writes 11 = .ok (.dup, 1) := by decide +kernel
theorem dX8_writes_12 : decode cX8_writes 12 = .ok (.getfield 354, 3) := by decide +kernel
theorem dX8_writes_15 : decode cX8_writes 15 = .ok (.iconst 1, 1) := by decide +kernel
theorem dX8_writes_16 : decode cX8_writes 16 = .ok (.iadd, 1) := by decide +kernel
theorem dX8_writes_17 : decode cX8_writes 17 = .ok (.putfield 354, 3) := by decide +kernel
theorem dX8_writes_20 : decode cX8_writes 20 = .ok (.return_, 1) := by decide +kernel
theorem dX8_writesNumber_0 : decode cX8_writesNumber 0 = .ok (.iconst 1, 1) := by decide +kernel
theorem dX8_writesNumber_1 : decode cX8_writesNumber 1 = .ok (.istore_n 2, 1) := by decide +kernel
theorem dX8_writesNumber_2 : decode cX8_writesNumber 2 = .ok (.iload_n 1, 1) := by decide +kernel
theorem dX8_writesNumber_3 : decode cX8_writesNumber 3 = .ok (.iload_n 2, 1) := by decide +kernel
theorem dX8_writesNumber_4 : decode cX8_writesNumber 4 = .ok (.idiv, 1) := by decide +kernel
theorem dX8_writesNumber_5 : decode cX8_writesNumber 5 = .ok (.bipush 9, 2) := by decide +kernel
theorem dX8_writesNumber_7 : decode cX8_writesNumber 7 = .ok (.if_icmp .le 11, 3) := by decide +kernel
theorem dX8_writesNumber_10 : decode cX8_writesNumber 10 = .ok (.iload_n 2, 1) := by decide +kernel
theorem dX8_writesNumber_11 : decode cX8_writesNumber 11 = .ok (.bipush 10, 2) := by decide +kernel
theorem dX8_writesNumber_13 : decode cX8_writesNumber 13 = .ok (.imul, 1) := by decide +kernel
theorem dX8_writesNumber_14 : decode cX8_writesNumber 14 = .ok (.istore_n 2, 1) := by decide +kernel
theorem dX8_writesNumber_15 : decode cX8_writesNumber 15 = .ok (.goto (-13), 3) := by decide +kernel
theorem dX8_writesNumber_18 : decode cX8_writesNumber 18 = .ok (.iload_n 2, 1) := by decide +kernel
theorem dX8_writesNumber_19 : decode cX8_writesNumber 19 = .ok (.ifCond .le 24, 3) := by decide +kernel
theorem dX8_writesNumber_22 : decode cX8_writesNumber 22 = .ok (.aload_n 0, 1) := by decide +kernel
theorem dX8_writesNumber_23 : decode cX8_writesNumber 23 = .ok (.bipush 48, 2) := by decide +kernel
theorem dX8_writesNumber_25 : decode cX8_writesNumber 25 = .ok (.iload_n 1, 1) := by decide +kernel
theorem dX8_writesNumber_26 : decode cX8_writesNumber 26 = .ok (.iload_n 2, 1) := by decide +kernel
theorem dX8_writesNumber_27 : decode cX8_writesNumber 27 = .ok (.idiv, 1) := by decide +kernel
theorem dX8_writesNumber_28 : decode cX8_writesNumber 28 = .ok (.bipush 10, 2) := by decide +kernel
theorem dX8_writesNumber_30 : decode cX8_writesNumber 30 = .ok (.irem, 1) := by decide +kernel
theorem dX8_writesNumber_31 : decode cX8_writesNumber 31 = .ok (.iadd, 1) := by decide +kernel
theorem dX8_writesNumber_32 : decode cX8_writesNumber 32 = .ok (.invokevirtual 357, 3) := by decide +kernel
theorem dX8_writesNumber_35 : decode cX8_writesNumber 35 = .ok (.iload_n 2, 1) := by decide +kernel
theorem dX8_writesNumber_36 : decode cX8_writesNumber 36 = .ok (.bipush 10, 2) := by decide +kernel
theorem dX8_writesNumber_38 : decode cX8_writesNumber 38 = .ok (.idiv, 1) := by decide +kernel
theorem dX8_writesNumber_39 : decode cX8_writesNumber 39 = .ok (.istore_n 2, 1) := by decide +kernel
theorem dX8_writesNumber_40 : decode cX8_writesNumber 40 = .ok (.goto (-22), 3) := by decide +kernel
theorem dX8_writesNumber_43 : decode cX8_writesNumber 43 = .ok (.return_, 1) := by decide +kernel
theorem dX8_format_0 : decode cX8_format 0 = .ok (.aload_n 0, 1) := by decide +kernel
theorem dX8_format_1 : decode cX8_format 1 = .ok (.iconst 0, 1) := by decide +kernel
theorem dX8_format_2 : decode cX8_format 2 = .ok (.putfield 1, 3) := by decide +kernel
theorem dX8_format_5 : decode cX8_format 5 = .ok (.aload_n 0, 1) := by decide +kernel
theorem dX8_format_6 : decode cX8_format 6 = .ok (.aload_n 0, 1) := by decide +kernel
theorem dX8_format_7 : decode cX8_format 7 = .ok (.iload_n 1, 1) := by decide +kernel
theorem dX8_format_8 : decode cX8_format 8 = .ok (.invokevirtual 295, 3) := by decide +kernel
theorem dX8_format_11 : decode cX8_format 11 = .ok (.iconst 1, 1) := by decide +kernel
theorem dX8_format_12 : decode cX8_format 12 = .ok (.invokevirtual 201, 3) := by decide +kernel
theorem dX8_format_15 : decode cX8_format 15 = .ok (.ifCond .eq 5, 3) := by decide +kernel
theorem dX8_format_18 : decode cX8_format 18 = .ok (.iconst 0, 1) := by decide +kernel
theorem dX8_format_19 : decode cX8_format 19 = .ok (.ireturn, 1) := by decide +kernel
theorem dX8_format_20 : decode cX8_format 20 = .ok (.aload_n 0, 1) := by decide +kernel
theorem dX8_format_21 : decode cX8_format 21 = .ok (.iconst 0, 1) := by decide +kernel
theorem dX8_format_22 : decode cX8_format 22 = .ok (.putfield 354, 3) := by decide +kernel
theorem dX8_format_25 : decode cX8_format 25 = .ok (.iconst 0, 1) := by decide +kernel
theorem dX8_format_26 : decode cX8_format 26 = .ok (.istore_n 2, 1) := by decide +kernel
theorem dX8_format_27 : decode cX8_format 27 = .ok (.iload_n 2, 1) := by decide +kernel
theorem dX8_format_28 : decode cX8_format 28 = .ok (.aload_n 0, 1) := by decide +kernel
theorem dX8_format_29 : decode cX8_format 29 = .ok (.iload_n 1, 1) := by decide +kernel
theorem dX8_format_30 : decode cX8_format 30 = .ok (.iconst 5, 1) := by decide +kernel
theorem dX8_format_31 : decode cX8_format 31 = .ok (.invokevirtual 218, 3) := by decide +kernel
theorem dX8_format_34 : decode cX8_format 34 = .ok (.if_icmp .ge 22, 3) := by decide +kernel
theorem dX8_format_37 : decode cX8_format 37 = .ok (.aload_n 0, 1) := by decide +kernel
theorem dX8_format_38 : decode cX8_format 38 = .ok (.aload_n 0, 1) := by decide +kernel
theorem dX8_format_39 : decode cX8_format 39 = .ok (.iload_n 1, 1) := by decide +kernel
theorem dX8_format_40 : decode cX8_format 40 = .ok (.bipush 6, 2) := by decide +kernel
theorem dX8_format_42 : decode cX8_format 42 = .ok (.iload_n 2, 1) := by decide +kernel
theorem dX8_format_43 : decode cX8_format 43 = .ok (.iadd, 1) := by decide +kernel
theorem dX8_format_44 : decode cX8_format 44 = .ok (.invokevirtual 218, 3) := by decide +kernel
theorem dX8_format_47 : decode cX8_format 47 = .ok (.invokevirtual 357, 3) := by decide +kernel
theorem dX8_format_50 : decode cX8_format 50 = .ok (.iinc 2 1, 3) := by decide +kernel
theorem dX8_format_53 : decode cX8_format 53 = .ok (.goto (-26), 3) := by decide +kernel
theorem dX8_format_56 : decode cX8_format 56 = .ok (.aload_n 0, 1) := by decide +kernel
theorem dX8_format_57 : decode cX8_format 57 = .ok (.bipush 32, 2) := by decide +kernel
theorem dX8_format_59 : decode cX8_format 59 = .ok (.invokevirtual 357, 3) := by decide +kernel
theorem dX8_format_62 : decode cX8_format 62 = .ok (.aload_n 0, 1) := by decide +kernel
theorem dX8_format_63 : decode cX8_format 63 = .ok (.aload_n 0, 1) := by decide +kernel
theorem dX8_format_64 : decode cX8_format 64 = .ok (.iload_n 1, 1) := by decide +kernel
theorem dX8_format_65 : decode cX8_format 65 = .ok (.iconst 1, 1) := by decide +kernel
theorem dX8_format_66 : decode cX8_format 66 = .ok (.invokevirtual 218, 3) := by decide +kernel
theorem dX8_format_69 : decode cX8_format 69 = .ok (.invokevirtual 360, 3) := by decide +kernel
theorem dX8_format_72 : decode cX8_format 72 = .ok (.aload_n 0, 1) := by decide +kernel
theorem dX8_format_73 : decode cX8_format 73 = .ok (.iload_n 1, 1) := by decide +kernel
theorem dX8_format_74 : decode cX8_format 74 = .ok (.invokevirtual 227, 3) := by decide +kernel
theorem dX8_format_77 : decode cX8_format 77 = .ok (.ifCond .le 18, 3) := by decide +kernel
theorem dX8_format_80 : decode cX8_format 80 = .ok (.aload_n 0, 1) := by decide +kernel
theorem dX8_format_81 : decode cX8_format 81 = .ok (.bipush 43, 2) := by decide +kernel
theorem dX8_format_83 : decode cX8_format 83 = .ok (.invokevirtual 357, 3) := by decide +kernel
theorem dX8_format_86 : decode cX8_format 86 = .ok (.aload_n 0, 1) := by decide +kernel
theorem dX8_format_87 : decode cX8_format 87 = .ok (.aload_n 0, 1) := by decide +kernel
theorem dX8_format_88 : decode cX8_format 88 = .ok (.iload_n 1, 1) := by decide +kernel
theorem dX8_format_89 : decode cX8_format 89 = .ok (.invokevirtual 227, 3) := by decide +kernel
theorem dX8_format_92 : decode cX8_format 92 = .ok (.invokevirtual 360, 3) := by decide +kernel
theorem dX8_format_95 : decode cX8_format 95 = .ok (.aload_n 0, 1) := by decide +kernel
theorem dX8_format_96 : decode cX8_format 96 = .ok (.iload_n 1, 1) := by decide +kernel
theorem dX8_format_97 : decode cX8_format 97 = .ok (.iconst 2, 1) := by decide +kernel
theorem dX8_format_98 : decode cX8_format 98 = .ok (.invokevirtual 218, 3) := by decide +kernel
theorem dX8_format_101 : decode cX8_format 101 = .ok (.iconst 1, 1) := by decide +kernel
theorem dX8_format_102 : decode cX8_format 102 = .ok (.if_icmp .ne 9, 3) := by decide +kernel
theorem dX8_format_105 : decode cX8_format 105 = .ok (.aload_n 0, 1) := by decide +kernel
theorem dX8_format_106 : decode cX8_format 106 = .ok (.bipush 33, 2) := by decide +kernel
theorem dX8_format_108 : decode cX8_format 108 = .ok (.invokevirtual 357, 3) := by decide +kernel
theorem dX8_format_111 : decode cX8_format 111 = .ok (.aload_n 0, 1) := by decide +kernel
theorem dX8_format_112 : decode cX8_format 112 = .ok (.iload_n 1, 1) := by decide +kernel
theorem dX8_format_113 : decode cX8_format 113 = .ok (.iconst 4, 1) := by decide +kernel
theorem dX8_format_114 : decode cX8_format 114 = .ok (.invokevirtual 218, 3) := by decide +kernel
theorem dX8_format_117 : decode cX8_format 117 = .ok (.ifCond .ne 8, 3) := by decide +kernel
theorem dX8_format_120 : decode cX8_format 120 = .ok (.aload_n 0, 1) := by decide +kernel
theorem dX8_format_121 : decode cX8_format 121 = .ok (.getfield 354, 3) := by decide +kernel
theorem dX8_format_124 : decode cX8_format 124 = .ok (.ireturn, 1) := by decide +kernel
theorem dX8_format_125 : decode cX8_format 125 = .ok (.aload_n 0, 1) := by decide +kernel
theorem dX8_format_126 : decode cX8_format 126 = .ok (.bipush 32, 2) := by decide +kernel
theorem dX8_format_128 : decode cX8_format 128 = .ok (.invokevirtual 357, 3) := by decide +kernel
theorem dX8_format_131 : decode cX8_format 131 = .ok (.aload_n 0, 1) := by decide +kernel
theorem dX8_format_132 : decode cX8_format 132 = .ok (.bipush 62, 2) := by decide +kernel
theorem dX8_format_134 : decode cX8_format 134 = .ok (.invokevirtual 357, 3) := by decide +kernel
theorem dX8_format_137 : decode cX8_format 137 = .ok (.aload_n 0, 1) := by decide +kernel
theorem dX8_format_138 : decode cX8_format 138 = .ok (.bipush 32, 2) := by decide +kernel
theorem dX8_format_140 : decode cX8_format 140 = .ok (.invokevirtual 357, 3) := by decide +kernel
theorem dX8_format_143 : decode cX8_format 143 = .ok (.aload_n 0, 1) := by decide +kernel
theorem dX8_format_144 : decode cX8_format 144 = .ok (.aload_n 0, 1) := by decide +kernel
theorem dX8_format_145 : decode cX8_format 145 = .ok (.iload_n 1, 1) := by decide +kernel
theorem dX8_format_146 : decode cX8_format 146 = .ok (.iconst 3, 1) := by decide +kernel
theorem dX8_format_147 : decode cX8_format 147 = .ok (.invokevirtual 218, 3) := by decide +kernel
theorem dX8_format_150 : decode cX8_format 150 = .ok (.invokevirtual 360, 3) := by decide +kernel
theorem dX8_format_153 : decode cX8_format 153 = .ok (.aload_n 0, 1) := by decide +kernel
theorem dX8_format_154 : decode cX8_format 154 = .ok (.bipush 64, 2) := by decide +kernel
theorem dX8_format_156 : decode cX8_format 156 = .ok (.invokevirtual 357, 3) := by decide +kernel
theorem dX8_format_159 : decode cX8_format 159 = .ok (.aload_n 0, 1) := by decide +kernel
theorem dX8_format_160 : decode cX8_format 160 = .ok (.aload_n 0, 1) := by decide +kernel
theorem dX8_format_161 : decode cX8_format 161 = .ok (.iload_n 1, 1) := by decide +kernel
theorem dX8_format_162 : decode cX8_format 162 = .ok (.iconst 4, 1) := by decide +kernel
theorem dX8_format_163 : decode cX8_format 163 = .ok (.invokevirtual 218, 3) := by decide +kernel
theorem dX8_format_166 : decode cX8_format 166 = .ok (.invokevirtual 360, 3) := by decide +kernel
theorem dX8_format_169 : decode cX8_format 169 = .ok (.aload_n 0, 1) := by decide +kernel
theorem dX8_format_170 : decode cX8_format 170 = .ok (.getfield 354, 3) := by decide +kernel
theorem dX8_format_173 : decode cX8_format 173 = .ok (.ireturn, 1) := by decide +kernel
theorem dX8_formattedByte_0 : decode cX8_formattedByte 0 = .ok (.aload_n 0, 1) := by decide +kernel
theorem dX8_formattedByte_1 : decode cX8_formattedByte 1 = .ok (.iconst 0, 1) := by decide +kernel
theorem dX8_formattedByte_2 : decode cX8_formattedByte 2 = .ok (.putfield 1, 3) := by decide +kernel
theorem dX8_formattedByte_5 : decode cX8_formattedByte 5 = .ok (.iload_n 1, 1) := by decide +kernel
theorem dX8_formattedByte_6 : decode cX8_formattedByte 6 = .ok (.i2l, 1) := by decide +kernel
theorem dX8_formattedByte_7 : decode cX8_formattedByte 7 = .ok (.lconst 0, 1) := by decide +kernel
theorem dX8_formattedByte_8 : decode cX8_formattedByte 8 = .ok (.aload_n 0, 1) := by decide +kernel
theorem dX8_formattedByte_9 : decode cX8_formattedByte 9 = .ok (.getfield 354, 3) := by decide +kernel
theorem dX8_formattedByte_12 : decode cX8_formattedByte 12 = .ok (.iconst 1, 1) := by decide +kernel
theorem dX8_formattedByte_13 : decode cX8_formattedByte 13 = .ok (.isub, 1) := by decide +kernel
theorem dX8_formattedByte_14 : decode cX8_formattedByte 14 = .ok (.i2l, 1) := by decide +kernel
theorem dX8_formattedByte_15 : decode cX8_formattedByte 15 = .ok (.invokestatic 125, 3) := by decide +kernel
theorem dX8_formattedByte_18 : decode cX8_formattedByte 18 = .ok (.ifCond .eq 12, 3) := by decide +kernel
theorem dX8_formattedByte_21 : decode cX8_formattedByte 21 = .ok (.aload_n 0, 1) := by decide +kernel
theorem dX8_formattedByte_22 : decode cX8_formattedByte 22 = .ok (.getfield 38, 3) := by decide +kernel
theorem dX8_formattedByte_25 : decode cX8_formattedByte 25 = .ok (.iload_n 1, 1) := by decide +kernel
theorem dX8_formattedByte_26 : decode cX8_formattedByte 26 = .ok (.iaload, 1) := by decide +kernel
theorem dX8_formattedByte_27 : decode cX8_formattedByte 27 = .ok (.goto 4, 3) := by decide +kernel
theorem dX8_formattedByte_30 : decode cX8_formattedByte 30 = .ok (.iconst (-1), 1) := by decide +kernel
theorem dX8_formattedByte_31 : decode cX8_formattedByte 31 = .ok (.ireturn, 1) := by decide +kernel
theorem dX8_hasClash_0 : decode cX8_hasClash 0 = .ok (.aload_n 0, 1) := by decide +kernel
theorem dX8_hasClash_1 : decode cX8_hasClash 1 = .ok (.aload_n 0, 1) := by decide +kernel
theorem dX8_hasClash_2 : decode cX8_hasClash 2 = .ok (.iload_n 1, 1) := by decide +kernel
theorem dX8_hasClash_3 : decode cX8_hasClash 3 = .ok (.iconst 1, 1) := by decide +kernel
theorem dX8_hasClash_4 : decode cX8_hasClash 4 = .ok (.invokevirtual 218, 3) := by decide +kernel
theorem dX8_hasClash_7 : decode cX8_hasClash 7 = .ok (.invokevirtual 239, 3) := by decide +kernel
theorem dX8_hasClash_10 : decode cX8_hasClash 10 = .ok (.ifCond .ne 23, 3) := by decide +kernel
theorem dX8_hasClash_13 : decode cX8_hasClash 13 = .ok (.aload_n 0, 1) := by decide +kernel
theorem dX8_hasClash_14 : decode cX8_hasClash 14 = .ok (.iload_n 1, 1) := by decide +kernel
theorem dX8_hasClash_15 : decode cX8_hasClash 15 = .ok (.invokevirtual 227, 3) := by decide +kernel
theorem dX8_hasClash_18 : decode cX8_hasClash 18 = .ok (.ifCond .le 19, 3) := by decide +kernel
theorem dX8_hasClash_21 : decode cX8_hasClash 21 = .ok (.aload_n 0, 1) := by decide +kernel
theorem dX8_hasClash_22 : decode cX8_hasClash 22 = .ok (.aload_n 0, 1) := by decide +kernel
theorem dX8_hasClash_23 : decode cX8_hasClash 23 = .ok (.iload_n 1, 1) := by decide +kernel
theorem dX8_hasClash_24 : decode cX8_hasClash 24 = .ok (.invokevirtual 227, 3) := by decide +kernel
theorem dX8_hasClash_27 : decode cX8_hasClash 27 = .ok (.invokevirtual 239, 3) := by decide +kernel
theorem dX8_hasClash_30 : decode cX8_hasClash 30 = .ok (.ifCond .eq 7, 3) := by decide +kernel
theorem dX8_hasClash_33 : decode cX8_hasClash 33 = .ok (.iconst 1, 1) := by decide +kernel
theorem dX8_hasClash_34 : decode cX8_hasClash 34 = .ok (.goto 4, 3) := by decide +kernel
theorem dX8_hasClash_37 : decode cX8_hasClash 37 = .ok (.iconst 0, 1) := by decide +kernel
theorem dX8_hasClash_38 : decode cX8_hasClash 38 = .ok (.ireturn, 1) := by decide +kernel
theorem dX8_adds_0 : decode cX8_adds 0 = .ok (.aload_n 0, 1) := by decide +kernel
theorem dX8_adds_1 : decode cX8_adds 1 = .ok (.getfield 41, 3) := by decide +kernel
theorem dX8_adds_4 : decode cX8_adds 4 = .ok (.aload_n 0, 1) := by decide +kernel
theorem dX8_adds_5 : decode cX8_adds 5 = .ok (.getfield 363, 3) := by decide +kernel
theorem dX8_adds_8 : decode cX8_adds 8 = .ok (.iload_n 1, 1) := by decide +kernel
theorem dX8_adds_9 : decode cX8_adds 9 = .ok (.iastore, 1) := by decide +kernel
theorem dX8_adds_10 : decode cX8_adds 10 = .ok (.aload_n 0, 1) := by decide +kernel
theorem dX8_adds_11 : decode cX8_adds 11 = .ok (.dup, 1) := by decide +kernel
theorem dX8_adds_12 : decode cX8_adds 12 = .ok (.getfield 363, 3) := by decide +kernel
theorem dX8_adds_15 : decode cX8_adds 15 = .ok (.iconst 1, 1) := by decide +kernel
theorem dX8_adds_16 : decode cX8_adds 16 = .ok (.iadd, 1) := by decide +kernel
theorem dX8_adds_17 : decode cX8_adds 17 = .ok (.putfield 363, 3) := by decide +kernel
theorem dX8_adds_20 : decode cX8_adds 20 = .ok (.return_, 1) := by decide +kernel
theorem dX8_propertyHere_0 : decode cX8_propertyHere 0 = .ok (.aload_n 0, 1) := by decide +kernel
theorem dX8_propertyHere_1 : decode cX8_propertyHere 1 = .ok (.ldc2_w 186, 3) := by decide +kernel
theorem dX8_propertyHere_4 : decode cX8_propertyHere 4 = .ok (.invokevirtual 115, 3) := by decide +kernel
theorem dX8_propertyHere_7 : decode cX8_propertyHere 7 = .ok (.ifCond .eq 5, 3) := by decide +kernel
theorem dX8_propertyHere_10 : decode cX8_propertyHere 10 = .ok (.iconst 0, 1) := by decide +kernel
theorem dX8_propertyHere_11 : decode cX8_propertyHere 11 = .ok (.ireturn, 1) := by decide +kernel
theorem dX8_propertyHere_12 : decode cX8_propertyHere 12 = .ok (.aload_n 0, 1) := by decide +kernel
theorem dX8_propertyHere_13 : decode cX8_propertyHere 13 = .ok (.ldc2_w 366, 3) := by decide +kernel
theorem dX8_propertyHere_16 : decode cX8_propertyHere 16 = .ok (.invokevirtual 115, 3) := by decide +kernel
theorem dX8_propertyHere_19 : decode cX8_propertyHere 19 = .ok (.ifCond .eq 5, 3) := by decide +kernel
theorem dX8_propertyHere_22 : decode cX8_propertyHere 22 = .ok (.iconst 1, 1) := by decide +kernel
theorem dX8_propertyHere_23 : decode cX8_propertyHere 23 = .ok (.ireturn, 1) := by decide +kernel
theorem dX8_propertyHere_24 : decode cX8_propertyHere 24 = .ok (.aload_n 0, 1) := by decide +kernel
theorem dX8_propertyHere_25 : decode cX8_propertyHere 25 = .ok (.ldc2_w 368, 3) := by decide +kernel
theorem dX8_propertyHere_28 : decode cX8_propertyHere 28 = .ok (.invokevirtual 115, 3) := by decide +kernel
theorem dX8_propertyHere_31 : decode cX8_propertyHere 31 = .ok (.ifCond .eq 5, 3) := by decide +kernel
theorem dX8_propertyHere_34 : decode cX8_propertyHere 34 = .ok (.iconst 2, 1) := by decide +kernel
theorem dX8_propertyHere_35 : decode cX8_propertyHere 35 = .ok (.ireturn, 1) := by decide +kernel
theorem dX8_propertyHere_36 : decode cX8_propertyHere 36 = .ok (.aload_n 0, 1) := by decide +kernel
theorem dX8_propertyHere_37 : decode cX8_propertyHere 37 = .ok (.ldc2_w 370, 3) := by decide +kernel
theorem dX8_propertyHere_40 : decode cX8_propertyHere 40 = .ok (.invokevirtual 115, 3) := by decide +kernel
theorem dX8_propertyHere_43 : decode cX8_propertyHere 43 = .ok (.ifCond .eq 5, 3) := by decide +kernel
theorem dX8_propertyHere_46 : decode cX8_propertyHere 46 = .ok (.iconst 3, 1) := by decide +kernel
theorem dX8_propertyHere_47 : decode cX8_propertyHere 47 = .ok (.ireturn, 1) := by decide +kernel
theorem dX8_propertyHere_48 : decode cX8_propertyHere 48 = .ok (.aload_n 0, 1) := by decide +kernel
theorem dX8_propertyHere_49 : decode cX8_propertyHere 49 = .ok (.ldc2_w 163, 3) := by decide +kernel
theorem dX8_propertyHere_52 : decode cX8_propertyHere 52 = .ok (.invokevirtual 115, 3) := by decide +kernel
theorem dX8_propertyHere_55 : decode cX8_propertyHere 55 = .ok (.ifCond .eq 5, 3) := by decide +kernel
theorem dX8_propertyHere_58 : decode cX8_propertyHere 58 = .ok (.iconst 4, 1) := by decide +kernel
theorem dX8_propertyHere_59 : decode cX8_propertyHere 59 = .ok (.ireturn, 1) := by decide +kernel
theorem dX8_propertyHere_60 : decode cX8_propertyHere 60 = .ok (.aload_n 0, 1) := by decide +kernel
theorem dX8_propertyHere_61 : decode cX8_propertyHere 61 = .ok (.ldc2_w 372, 3) := by decide +kernel
theorem dX8_propertyHere_64 : decode cX8_propertyHere 64 = .ok (.invokevirtual 115, 3) := by decide +kernel
theorem dX8_propertyHere_67 : decode cX8_propertyHere 67 = .ok (.ifCond .eq 5, 3) := by decide +kernel
theorem dX8_propertyHere_70 : decode cX8_propertyHere 70 = .ok (.iconst 5, 1) := by decide +kernel
theorem dX8_propertyHere_71 : decode cX8_propertyHere 71 = .ok (.ireturn, 1) := by decide +kernel
theorem dX8_propertyHere_72 : decode cX8_propertyHere 72 = .ok (.aload_n 0, 1) := by decide +kernel
theorem dX8_propertyHere_73 : decode cX8_propertyHere 73 = .ok (.ldc2_w 374, 3) := by decide +kernel
theorem dX8_propertyHere_76 : decode cX8_propertyHere 76 = .ok (.invokevirtual 115, 3) := by decide +kernel
theorem dX8_propertyHere_79 : decode cX8_propertyHere 79 = .ok (.ifCond .eq 6, 3) := by decide +kernel
theorem dX8_propertyHere_82 : decode cX8_propertyHere 82 = .ok (.bipush 6, 2) := by decide +kernel
theorem dX8_propertyHere_84 : decode cX8_propertyHere 84 = .ok (.ireturn, 1) := by decide +kernel
theorem dX8_propertyHere_85 : decode cX8_propertyHere 85 = .ok (.aload_n 0, 1) := by decide +kernel
theorem dX8_propertyHere_86 : decode cX8_propertyHere 86 = .ok (.ldc2_w 376, 3) := by decide +kernel
theorem dX8_propertyHere_89 : decode cX8_propertyHere 89 = .ok (.invokevirtual 115, 3) := by decide +kernel
theorem dX8_propertyHere_92 : decode cX8_propertyHere 92 = .ok (.ifCond .eq 6, 3) := by decide +kernel
theorem dX8_propertyHere_95 : decode cX8_propertyHere 95 = .ok (.bipush 7, 2) := by decide +kernel
theorem dX8_propertyHere_97 : decode cX8_propertyHere 97 = .ok (.ireturn, 1) := by decide +kernel
theorem dX8_propertyHere_98 : decode cX8_propertyHere 98 = .ok (.aload_n 0, 1) := by decide +kernel
theorem dX8_propertyHere_99 : decode cX8_propertyHere 99 = .ok (.ldc2_w 378, 3) := by decide +kernel
theorem dX8_propertyHere_102 : decode cX8_propertyHere 102 = .ok (.invokevirtual 115, 3) := by decide +kernel
theorem dX8_propertyHere_105 : decode cX8_propertyHere 105 = .ok (.ifCond .eq 8, 3) := by decide +kernel
theorem dX8_propertyHere_108 : decode cX8_propertyHere 108 = .ok (.bipush 8, 2) := by decide +kernel
theorem dX8_propertyHere_110 : decode cX8_propertyHere 110 = .ok (.goto 4, 3) := by decide +kernel
theorem dX8_propertyHere_113 : decode cX8_propertyHere 113 = .ok (.iconst (-1), 1) := by decide +kernel
theorem dX8_propertyHere_114 : decode cX8_propertyHere 114 = .ok (.ireturn, 1) := by decide +kernel
theorem dX8_valueRead_0 : decode cX8_valueRead 0 = .ok (.aload_n 0, 1) := by decide +kernel
theorem dX8_valueRead_1 : decode cX8_valueRead 1 = .ok (.invokevirtual 111, 3) := by decide +kernel
theorem dX8_valueRead_4 : decode cX8_valueRead 4 = .ok (.ifCond .ne 4, 3) := by decide +kernel
theorem dX8_valueRead_7 : decode cX8_valueRead 7 = .ok (.return_, 1) := by decide +kernel
theorem dX8_valueRead_8 : decode cX8_valueRead 8 = .ok (.aload_n 0, 1) := by decide +kernel
theorem dX8_valueRead_9 : decode cX8_valueRead 9 = .ok (.getfield 89, 3) := by decide +kernel
theorem dX8_valueRead_12 : decode cX8_valueRead 12 = .ok (.iconst 2, 1) := by decide +kernel
theorem dX8_valueRead_13 : decode cX8_valueRead 13 = .ok (.if_icmp .ne 21, 3) := by decide +kernel
theorem dX8_valueRead_16 : decode cX8_valueRead 16 = .ok (.aload_n 0, 1) := by decide +kernel
theorem dX8_valueRead_17 : decode cX8_valueRead 17 = .ok (.iconst 0, 1) := by decide +kernel
theorem dX8_valueRead_18 : decode cX8_valueRead 18 = .ok (.sipush 9999, 3) := by decide +kernel
theorem dX8_valueRead_21 : decode cX8_valueRead 21 = .ok (.invokevirtual 140, 3) := by decide +kernel
theorem dX8_valueRead_24 : decode cX8_valueRead 24 = .ok (.istore_n 1, 1) := by decide +kernel
theorem dX8_valueRead_25 : decode cX8_valueRead 25 = .ok (.aload_n 0, 1) := by decide +kernel
theorem dX8_valueRead_26 : decode cX8_valueRead 26 = .ok (.bipush 100, 2) := by decide +kernel
theorem dX8_valueRead_28 : decode cX8_valueRead 28 = .ok (.iload_n 1, 1) := by decide +kernel
theorem dX8_valueRead_29 : decode cX8_valueRead 29 = .ok (.iadd, 1) := by decide +kernel
theorem dX8_valueRead_30 : decode cX8_valueRead 30 = .ok (.invokevirtual 380, 3) := by decide +kernel
theorem dX8_valueRead_33 : decode cX8_valueRead 33 = .ok (.return_, 1) := by decide +kernel
theorem dX8_valueRead_34 : decode cX8_valueRead 34 = .ok (.aload_n 0, 1) := by decide +kernel
theorem dX8_valueRead_35 : decode cX8_valueRead 35 = .ok (.invokevirtual 383, 3) := by decide +kernel
theorem dX8_valueRead_38 : decode cX8_valueRead 38 = .ok (.istore_n 1, 1) := by decide +kernel
theorem dX8_valueRead_39 : decode cX8_valueRead 39 = .ok (.iload_n 1, 1) := by decide +kernel
theorem dX8_valueRead_40 : decode cX8_valueRead 40 = .ok (.iconst (-1), 1) := by decide +kernel
theorem dX8_valueRead_41 : decode cX8_valueRead 41 = .ok (.if_icmp .ne 10, 3) := by decide +kernel
theorem dX8_valueRead_44 : decode cX8_valueRead 44 = .ok (.aload_n 0, 1) := by decide +kernel
theorem dX8_valueRead_45 : decode cX8_valueRead 45 = .ok (.iconst 1, 1) := by decide +kernel
theorem dX8_valueRead_46 : decode cX8_valueRead 46 = .ok (.invokevirtual 122, 3) := by decide +kernel
theorem dX8_valueRead_49 : decode cX8_valueRead 49 = .ok (.pop, 1) := by decide +kernel
theorem dX8_valueRead_50 : decode cX8_valueRead 50 = .ok (.return_, 1) := by decide +kernel
theorem dX8_valueRead_51 : decode cX8_valueRead 51 = .ok (.aload_n 0, 1) := by decide +kernel
theorem dX8_valueRead_52 : decode cX8_valueRead 52 = .ok (.iload_n 1, 1) := by decide +kernel
theorem dX8_valueRead_53 : decode cX8_valueRead 53 = .ok (.invokevirtual 380, 3) := by decide +kernel
theorem dX8_valueRead_56 : decode cX8_valueRead 56 = .ok (.aload_n 0, 1) := by decide +kernel
theorem dX8_valueRead_57 : decode cX8_valueRead 57 = .ok (.invokevirtual 108, 3) := by decide +kernel
theorem dX8_valueRead_60 : decode cX8_valueRead 60 = .ok (.return_, 1) := by decide +kernel
theorem dX8_goesIn_0 : decode cX8_goesIn 0 = .ok (.aload_n 0, 1) := by decide +kernel
theorem dX8_goesIn_1 : decode cX8_goesIn 1 = .ok (.getfield 386, 3) := by decide +kernel
theorem dX8_goesIn_4 : decode cX8_goesIn 4 = .ok (.bipush 6, 2) := by decide +kernel
theorem dX8_goesIn_6 : decode cX8_goesIn 6 = .ok (.if_icmp .ne 9, 3) := by decide +kernel
theorem dX8_goesIn_9 : decode cX8_goesIn 9 = .ok (.aload_n 0, 1) := by decide +kernel
theorem dX8_goesIn_10 : decode cX8_goesIn 10 = .ok (.iconst 3, 1) := by decide +kernel
theorem dX8_goesIn_11 : decode cX8_goesIn 11 = .ok (.invokevirtual 122, 3) := by decide +kernel
theorem dX8_goesIn_14 : decode cX8_goesIn 14 = .ok (.ireturn, 1) := by decide +kernel
theorem dX8_goesIn_15 : decode cX8_goesIn 15 = .ok (.aload_n 0, 1) := by decide +kernel
theorem dX8_goesIn_16 : decode cX8_goesIn 16 = .ok (.dup, 1) := by decide +kernel
theorem dX8_goesIn_17 : decode cX8_goesIn 17 = .ok (.getfield 386, 3) := by decide +kernel
theorem dX8_goesIn_20 : decode cX8_goesIn 20 = .ok (.iconst 1, 1) := by decide +kernel
theorem dX8_goesIn_21 : decode cX8_goesIn 21 = .ok (.iadd, 1) := by decide +kernel
theorem dX8_goesIn_22 : decode cX8_goesIn 22 = .ok (.putfield 386, 3) := by decide +kernel
theorem dX8_goesIn_25 : decode cX8_goesIn 25 = .ok (.aload_n 0, 1) := by decide +kernel
theorem dX8_goesIn_26 : decode cX8_goesIn 26 = .ok (.getfield 44, 3) := by decide +kernel
theorem dX8_goesIn_29 : decode cX8_goesIn 29 = .ok (.aload_n 0, 1) := by decide +kernel
theorem dX8_goesIn_30 : decode cX8_goesIn 30 = .ok (.getfield 389, 3) := by decide +kernel
theorem dX8_goesIn_33 : decode cX8_goesIn 33 = .ok (.iload_n 1, 1) := by decide +kernel
theorem dX8_goesIn_34 : decode cX8_goesIn 34 = .ok (.iastore, 1) := by decide +kernel
theorem dX8_goesIn_35 : decode cX8_goesIn 35 = .ok (.aload_n 0, 1) := by decide +kernel
theorem dX8_goesIn_36 : decode cX8_goesIn 36 = .ok (.dup, 1) := by decide +kernel
theorem dX8_goesIn_37 : decode cX8_goesIn 37 = .ok (.getfield 389, 3) := by decide +kernel
theorem dX8_goesIn_40 : decode cX8_goesIn 40 = .ok (.iconst 1, 1) := by decide +kernel
theorem dX8_goesIn_41 : decode cX8_goesIn 41 = .ok (.iadd, 1) := by decide +kernel
theorem dX8_goesIn_42 : decode cX8_goesIn 42 = .ok (.putfield 389, 3) := by decide +kernel
theorem dX8_goesIn_45 : decode cX8_goesIn 45 = .ok (.aload_n 0, 1) := by decide +kernel
theorem dX8_goesIn_46 : decode cX8_goesIn 46 = .ok (.invokevirtual 108, 3) := by decide +kernel
theorem dX8_goesIn_49 : decode cX8_goesIn 49 = .ok (.iconst 1, 1) := by decide +kernel
theorem dX8_goesIn_50 : decode cX8_goesIn 50 = .ok (.ireturn, 1) := by decide +kernel
theorem dX8_strength_0 : decode cX8_strength 0 = .ok (.iload_n 0, 1) := by decide +kernel
theorem dX8_strength_1 : decode cX8_strength 1 = .ok (.bipush 25, 2) := by decide +kernel
theorem dX8_strength_3 : decode cX8_strength 3 = .ok (.if_icmp .ne 7, 3) := by decide +kernel
theorem dX8_strength_6 : decode cX8_strength 6 = .ok (.iconst 1, 1) := by decide +kernel
theorem dX8_strength_7 : decode cX8_strength 7 = .ok (.goto 24, 3) := by decide +kernel
theorem dX8_strength_10 : decode cX8_strength 10 = .ok (.iload_n 0, 1) := by decide +kernel
theorem dX8_strength_11 : decode cX8_strength 11 = .ok (.bipush 24, 2) := by decide +kernel
theorem dX8_strength_13 : decode cX8_strength 13 = .ok (.if_icmp .ne 7, 3) := by decide +kernel
theorem dX8_strength_16 : decode cX8_strength 16 = .ok (.iconst 2, 1) := by decide +kernel
theorem dX8_strength_17 : decode cX8_strength 17 = .ok (.goto 14, 3) := by decide +kernel
theorem dX8_strength_20 : decode cX8_strength 20 = .ok (.iload_n 0, 1) := by decide +kernel
theorem dX8_strength_21 : decode cX8_strength 21 = .ok (.bipush 23, 2) := by decide +kernel
theorem dX8_strength_23 : decode cX8_strength 23 = .ok (.if_icmp .ne 7, 3) := by decide +kernel
theorem dX8_strength_26 : decode cX8_strength 26 = .ok (.iconst 3, 1) := by decide +kernel
theorem dX8_strength_27 : decode cX8_strength 27 = .ok (.goto 4, 3) := by decide +kernel
theorem dX8_strength_30 : decode cX8_strength 30 = .ok (.iconst 0, 1) := by decide +kernel
theorem dX8_strength_31 : decode cX8_strength 31 = .ok (.ireturn, 1) := by decide +kernel
theorem dX8_settles_0 : decode cX8_settles 0 = .ok (.aload_n 0, 1) := by decide +kernel
theorem dX8_settles_1 : decode cX8_settles 1 = .ok (.invokevirtual 111, 3) := by decide +kernel
theorem dX8_settles_4 : decode cX8_settles 4 = .ok (.ifCond .eq 78, 3) := by decide +kernel
theorem dX8_settles_7 : decode cX8_settles 7 = .ok (.aload_n 0, 1) := by decide +kernel
theorem dX8_settles_8 : decode cX8_settles 8 = .ok (.getfield 389, 3) := by decide +kernel
theorem dX8_settles_11 : decode cX8_settles 11 = .ok (.ifCond .le 71, 3) := by decide +kernel
theorem dX8_settles_14 : decode cX8_settles 14 = .ok (.aload_n 0, 1) := by decide +kernel
theorem dX8_settles_15 : decode cX8_settles 15 = .ok (.getfield 44, 3) := by decide +kernel
theorem dX8_settles_18 : decode cX8_settles 18 = .ok (.aload_n 0, 1) := by decide +kernel
theorem dX8_settles_19 : decode cX8_settles 19 = .ok (.getfield 389, 3) := by decide +kernel
theorem dX8_settles_22 : decode cX8_settles 22 = .ok (.iconst 1, 1) := by decide +kernel
theorem dX8_settles_23 : decode cX8_settles 23 = .ok (.isub, 1) := by decide +kernel
theorem dX8_settles_24 : decode cX8_settles 24 = .ok (.iaload, 1) := by decide +kernel
theorem dX8_settles_25 : decode cX8_settles 25 = .ok (.invokestatic 392, 3) := by decide +kernel
theorem dX8_settles_28 : decode cX8_settles 28 = .ok (.iload_n 1, 1) := by decide +kernel
theorem dX8_settles_29 : decode cX8_settles 29 = .ok (.if_icmp .lt 53, 3) := by decide +kernel
theorem dX8_settles_32 : decode cX8_settles 32 = .ok (.aload_n 0, 1) := by decide +kernel
theorem dX8_settles_33 : decode cX8_settles 33 = .ok (.dup, 1) := by decide +kernel
theorem dX8_settles_34 : decode cX8_settles 34 = .ok (.getfield 389, 3) := by decide +kernel
theorem dX8_settles_37 : decode cX8_settles 37 = .ok (.iconst 1, 1) := by decide +kernel
theorem dX8_settles_38 : decode cX8_settles 38 = .ok (.isub, 1) := by decide +kernel
theorem dX8_settles_39 : decode cX8_settles 39 = .ok (.putfield 389, 3) := by decide +kernel
theorem dX8_settles_42 : decode cX8_settles 42 = .ok (.aload_n 0, 1) := by decide +kernel
theorem dX8_settles_43 : decode cX8_settles 43 = .ok (.aload_n 0, 1) := by decide +kernel
theorem dX8_settles_44 : decode cX8_settles 44 = .ok (.getfield 44, 3) := by decide +kernel
theorem dX8_settles_47 : decode cX8_settles 47 = .ok (.aload_n 0, 1) := by decide +kernel
theorem dX8_settles_48 : decode cX8_settles 48 = .ok (.getfield 389, 3) := by decide +kernel
theorem dX8_settles_51 : decode cX8_settles 51 = .ok (.iaload, 1) := by decide +kernel
theorem dX8_settles_52 : decode cX8_settles 52 = .ok (.invokevirtual 380, 3) := by decide +kernel
theorem dX8_settles_55 : decode cX8_settles 55 = .ok (.aload_n 0, 1) := by decide +kernel
theorem dX8_settles_56 : decode cX8_settles 56 = .ok (.getfield 44, 3) := by decide +kernel
theorem dX8_settles_59 : decode cX8_settles 59 = .ok (.aload_n 0, 1) := by decide +kernel
theorem dX8_settles_60 : decode cX8_settles 60 = .ok (.getfield 389, 3) := by decide +kernel
theorem dX8_settles_63 : decode cX8_settles 63 = .ok (.iaload, 1) := by decide +kernel
theorem dX8_settles_64 : decode cX8_settles 64 = .ok (.bipush 23, 2) := by decide +kernel
theorem dX8_settles_66 : decode cX8_settles 66 = .ok (.if_icmp .ne (-66), 3) := by decide +kernel
theorem dX8_settles_69 : decode cX8_settles 69 = .ok (.aload_n 0, 1) := by decide +kernel
theorem dX8_settles_70 : decode cX8_settles 70 = .ok (.dup, 1) := by decide +kernel
theorem dX8_settles_71 : decode cX8_settles 71 = .ok (.getfield 386, 3) := by decide +kernel
theorem dX8_settles_74 : decode cX8_settles 74 = .ok (.iconst 1, 1) := by decide +kernel
theorem dX8_settles_75 : decode cX8_settles 75 = .ok (.isub, 1) := by decide +kernel
theorem dX8_settles_76 : decode cX8_settles 76 = .ok (.putfield 386, 3) := by decide +kernel
theorem dX8_settles_79 : decode cX8_settles 79 = .ok (.goto (-79), 3) := by decide +kernel
theorem dX8_settles_82 : decode cX8_settles 82 = .ok (.return_, 1) := by decide +kernel
theorem dX8_isInside_0 : decode cX8_isInside 0 = .ok (.iconst 0, 1) := by decide +kernel
theorem dX8_isInside_1 : decode cX8_isInside 1 = .ok (.istore_n 1, 1) := by decide +kernel
theorem dX8_isInside_2 : decode cX8_isInside 2 = .ok (.iload_n 1, 1) := by decide +kernel
theorem dX8_isInside_3 : decode cX8_isInside 3 = .ok (.aload_n 0, 1) := by decide +kernel
theorem dX8_isInside_4 : decode cX8_isInside 4 = .ok (.getfield 389, 3) := by decide +kernel
theorem dX8_isInside_7 : decode cX8_isInside 7 = .ok (.if_icmp .ge 21, 3) := by decide +kernel
theorem dX8_isInside_10 : decode cX8_isInside 10 = .ok (.aload_n 0, 1) := by decide +kernel
theorem dX8_isInside_11 : decode cX8_isInside 11 = .ok (.getfield 44, 3) := by decide +kernel
theorem dX8_isInside_14 : decode cX8_isInside 14 = .ok (.iload_n 1, 1) := by decide +kernel
theorem dX8_isInside_15 : decode cX8_isInside 15 = .ok (.iaload, 1) := by decide +kernel
theorem dX8_isInside_16 : decode cX8_isInside 16 = .ok (.iconst 1, 1) := by decide +kernel
theorem dX8_isInside_17 : decode cX8_isInside 17 = .ok (.if_icmp .ne 5, 3) := by decide +kernel
theorem dX8_isInside_20 : decode cX8_isInside 20 = .ok (.iconst 1, 1) := by decide +kernel
theorem dX8_isInside_21 : decode cX8_isInside 21 = .ok (.ireturn, 1) := by decide +kernel
theorem dX8_isInside_22 : decode cX8_isInside 22 = .ok (.iinc 1 1, 3) := by decide +kernel
theorem dX8_isInside_25 : decode cX8_isInside 25 = .ok (.goto (-23), 3) := by decide +kernel
theorem dX8_isInside_28 : decode cX8_isInside 28 = .ok (.iconst 0, 1) := by decide +kernel
theorem dX8_isInside_29 : decode cX8_isInside 29 = .ok (.ireturn, 1) := by decide +kernel
theorem dX8_comparisonRead_0 : decode cX8_comparisonRead 0 = .ok (.aload_n 0, 1) := by decide +kernel
theorem dX8_comparisonRead_1 : decode cX8_comparisonRead 1 = .ok (.ldc2_w 395, 3) := by decide +kernel
theorem dX8_comparisonRead_4 : decode cX8_comparisonRead 4 = .ok (.invokevirtual 115, 3) := by decide +kernel
theorem dX8_comparisonRead_7 : decode cX8_comparisonRead 7 = .ok (.ifCond .ne 12, 3) := by decide +kernel
theorem dX8_comparisonRead_10 : decode cX8_comparisonRead 10 = .ok (.aload_n 0, 1) := by decide +kernel
theorem dX8_comparisonRead_11 : decode cX8_comparisonRead 11 = .ok (.bipush 40, 2) := by decide +kernel
theorem dX8_comparisonRead_13 : decode cX8_comparisonRead 13 = .ok (.invokevirtual 119, 3) := by decide +kernel
theorem dX8_comparisonRead_16 : decode cX8_comparisonRead 16 = .ok (.ifCond .eq 27, 3) := by decide +kernel
theorem dX8_comparisonRead_19 : decode cX8_comparisonRead 19 = .ok (.aload_n 0, 1) := by decide +kernel
theorem dX8_comparisonRead_20 : decode cX8_comparisonRead 20 = .ok (.aload_n 0, 1) := by decide +kernel
theorem dX8_comparisonRead_21 : decode cX8_comparisonRead 21 = .ok (.ldc2_w 395, 3) := by decide +kernel
theorem dX8_comparisonRead_24 : decode cX8_comparisonRead 24 = .ok (.invokevirtual 115, 3) := by decide +kernel
theorem dX8_comparisonRead_27 : decode cX8_comparisonRead 27 = .ok (.ifCond .eq 8, 3) := by decide +kernel
theorem dX8_comparisonRead_30 : decode cX8_comparisonRead 30 = .ok (.bipush 23, 2) := by decide +kernel
theorem dX8_comparisonRead_32 : decode cX8_comparisonRead 32 = .ok (.goto 4, 3) := by decide +kernel
theorem dX8_comparisonRead_35 : decode cX8_comparisonRead 35 = .ok (.iconst 1, 1) := by decide +kernel
theorem dX8_comparisonRead_36 : decode cX8_comparisonRead 36 = .ok (.invokevirtual 397, 3) := by decide +kernel
theorem dX8_comparisonRead_39 : decode cX8_comparisonRead 39 = .ok (.ifCond .ne (-39), 3) := by decide +kernel
theorem dX8_comparisonRead_42 : decode cX8_comparisonRead 42 = .ok (.return_, 1) := by decide +kernel
theorem dX8_comparisonRead_43 : decode cX8_comparisonRead 43 = .ok (.aload_n 0, 1) := by decide +kernel
theorem dX8_comparisonRead_44 : decode cX8_comparisonRead 44 = .ok (.invokevirtual 400, 3) := by decide +kernel
theorem dX8_comparisonRead_47 : decode cX8_comparisonRead 47 = .ok (.aload_n 0, 1) := by decide +kernel
theorem dX8_comparisonRead_48 : decode cX8_comparisonRead 48 = .ok (.bipush 60, 2) := by decide +kernel
theorem dX8_comparisonRead_50 : decode cX8_comparisonRead 50 = .ok (.invokevirtual 119, 3) := by decide +kernel
theorem dX8_comparisonRead_53 : decode cX8_comparisonRead 53 = .ok (.ifCond .eq 8, 3) := by decide +kernel
theorem dX8_comparisonRead_56 : decode cX8_comparisonRead 56 = .ok (.bipush 20, 2) := by decide +kernel
theorem dX8_comparisonRead_58 : decode cX8_comparisonRead 58 = .ok (.goto 19, 3) := by decide +kernel
theorem dX8_comparisonRead_61 : decode cX8_comparisonRead 61 = .ok (.aload_n 0, 1) := by decide +kernel
theorem dX8_comparisonRead_62 : decode cX8_comparisonRead 62 = .ok (.bipush 62, 2) := by decide +kernel
theorem dX8_comparisonRead_64 : decode cX8_comparisonRead 64 = .ok (.invokevirtual 119, 3) := by decide +kernel
theorem dX8_comparisonRead_67 : decode cX8_comparisonRead 67 = .ok (.ifCond .eq 8, 3) := by decide +kernel
theorem dX8_comparisonRead_70 : decode cX8_comparisonRead 70 = .ok (.bipush 22, 2) := by decide +kernel
theorem dX8_comparisonRead_72 : decode cX8_comparisonRead 72 = .ok (.goto 5, 3) := by decide +kernel
theorem dX8_comparisonRead_75 : decode cX8_comparisonRead 75 = .ok (.bipush 21, 2) := by decide +kernel
theorem dX8_comparisonRead_77 : decode cX8_comparisonRead 77 = .ok (.istore_n 1, 1) := by decide +kernel
theorem dX8_comparisonRead_78 : decode cX8_comparisonRead 78 = .ok (.iload_n 1, 1) := by decide +kernel
theorem dX8_comparisonRead_79 : decode cX8_comparisonRead 79 = .ok (.bipush 21, 2) := by decide +kernel
theorem dX8_comparisonRead_81 : decode cX8_comparisonRead 81 = .ok (.if_icmp .ne 18, 3) := by decide +kernel
theorem dX8_comparisonRead_84 : decode cX8_comparisonRead 84 = .ok (.aload_n 0, 1) := by decide +kernel
theorem dX8_comparisonRead_85 : decode cX8_comparisonRead 85 = .ok (.bipush 61, 2) := by decide +kernel
theorem dX8_comparisonRead_87 : decode cX8_comparisonRead 87 = .ok (.invokevirtual 119, 3) := by decide +kernel
theorem dX8_comparisonRead_90 : decode cX8_comparisonRead 90 = .ok (.ifCond .ne 9, 3) := by decide +kernel
theorem dX8_comparisonRead_93 : decode cX8_comparisonRead 93 = .ok (.aload_n 0, 1) := by decide +kernel
theorem dX8_comparisonRead_94 : decode cX8_comparisonRead 94 = .ok (.iconst 1, 1) := by decide +kernel
theorem dX8_comparisonRead_95 : decode cX8_comparisonRead 95 = .ok (.invokevirtual 122, 3) := by decide +kernel
theorem dX8_comparisonRead_98 : decode cX8_comparisonRead 98 = .ok (.pop, 1) := by decide +kernel
theorem dX8_comparisonRead_99 : decode cX8_comparisonRead 99 = .ok (.aload_n 0, 1) := by decide +kernel
theorem dX8_comparisonRead_100 : decode cX8_comparisonRead 100 = .ok (.invokevirtual 111, 3) := by decide +kernel
theorem dX8_comparisonRead_103 : decode cX8_comparisonRead 103 = .ok (.ifCond .ne 4, 3) := by decide +kernel
theorem dX8_comparisonRead_106 : decode cX8_comparisonRead 106 = .ok (.return_, 1) := by decide +kernel
theorem dX8_comparisonRead_107 : decode cX8_comparisonRead 107 = .ok (.aload_n 0, 1) := by decide +kernel
theorem dX8_comparisonRead_108 : decode cX8_comparisonRead 108 = .ok (.invokevirtual 108, 3) := by decide +kernel
theorem dX8_comparisonRead_111 : decode cX8_comparisonRead 111 = .ok (.aload_n 0, 1) := by decide +kernel
theorem dX8_comparisonRead_112 : decode cX8_comparisonRead 112 = .ok (.invokevirtual 400, 3) := by decide +kernel
theorem dX8_comparisonRead_115 : decode cX8_comparisonRead 115 = .ok (.aload_n 0, 1) := by decide +kernel
theorem dX8_comparisonRead_116 : decode cX8_comparisonRead 116 = .ok (.invokevirtual 111, 3) := by decide +kernel
theorem dX8_comparisonRead_119 : decode cX8_comparisonRead 119 = .ok (.ifCond .eq 8, 3) := by decide +kernel
theorem dX8_comparisonRead_122 : decode cX8_comparisonRead 122 = .ok (.aload_n 0, 1) := by decide +kernel
theorem dX8_comparisonRead_123 : decode cX8_comparisonRead 123 = .ok (.iload_n 1, 1) := by decide +kernel
theorem dX8_comparisonRead_124 : decode cX8_comparisonRead 124 = .ok (.invokevirtual 380, 3) := by decide +kernel
theorem dX8_comparisonRead_127 : decode cX8_comparisonRead 127 = .ok (.return_, 1) := by decide +kernel
theorem dX8_closes_0 : decode cX8_closes 0 = .ok (.aload_n 0, 1) := by decide +kernel
theorem dX8_closes_1 : decode cX8_closes 1 = .ok (.iconst 3, 1) := by decide +kernel
theorem dX8_closes_2 : decode cX8_closes 2 = .ok (.invokevirtual 403, 3) := by decide +kernel
theorem dX8_closes_5 : decode cX8_closes 5 = .ok (.aload_n 0, 1) := by decide +kernel
theorem dX8_closes_6 : decode cX8_closes 6 = .ok (.bipush 41, 2) := by decide +kernel
theorem dX8_closes_8 : decode cX8_closes 8 = .ok (.invokevirtual 119, 3) := by decide +kernel
theorem dX8_closes_11 : decode cX8_closes 11 = .ok (.ifCond .eq 47, 3) := by decide +kernel
theorem dX8_closes_14 : decode cX8_closes 14 = .ok (.aload_n 0, 1) := by decide +kernel
theorem dX8_closes_15 : decode cX8_closes 15 = .ok (.invokevirtual 406, 3) := by decide +kernel
theorem dX8_closes_18 : decode cX8_closes 18 = .ok (.ifCond .eq 40, 3) := by decide +kernel
theorem dX8_closes_21 : decode cX8_closes 21 = .ok (.aload_n 0, 1) := by decide +kernel
theorem dX8_closes_22 : decode cX8_closes 22 = .ok (.iconst 1, 1) := by decide +kernel
theorem dX8_closes_23 : decode cX8_closes 23 = .ok (.invokevirtual 403, 3) := by decide +kernel
theorem dX8_closes_26 : decode cX8_closes 26 = .ok (.aload_n 0, 1) := by decide +kernel
theorem dX8_closes_27 : decode cX8_closes 27 = .ok (.dup, 1) := by decide +kernel
theorem dX8_closes_28 : decode cX8_closes 28 = .ok (.getfield 389, 3) := by decide +kernel
theorem dX8_closes_31 : decode cX8_closes 31 = .ok (.iconst 1, 1) := by decide +kernel
theorem dX8_closes_32 : decode cX8_closes 32 = .ok (.isub, 1) := by decide +kernel
theorem dX8_closes_33 : decode cX8_closes 33 = .ok (.putfield 389, 3) := by decide +kernel
theorem dX8_closes_36 : decode cX8_closes 36 = .ok (.aload_n 0, 1) := by decide +kernel
theorem dX8_closes_37 : decode cX8_closes 37 = .ok (.dup, 1) := by decide +kernel
theorem dX8_closes_38 : decode cX8_closes 38 = .ok (.getfield 386, 3) := by decide +kernel
theorem dX8_closes_41 : decode cX8_closes 41 = .ok (.iconst 1, 1) := by decide +kernel
theorem dX8_closes_42 : decode cX8_closes 42 = .ok (.isub, 1) := by decide +kernel
theorem dX8_closes_43 : decode cX8_closes 43 = .ok (.putfield 386, 3) := by decide +kernel
theorem dX8_closes_46 : decode cX8_closes 46 = .ok (.aload_n 0, 1) := by decide +kernel
theorem dX8_closes_47 : decode cX8_closes 47 = .ok (.invokevirtual 108, 3) := by decide +kernel
theorem dX8_closes_50 : decode cX8_closes 50 = .ok (.aload_n 0, 1) := by decide +kernel
theorem dX8_closes_51 : decode cX8_closes 51 = .ok (.iconst 3, 1) := by decide +kernel
theorem dX8_closes_52 : decode cX8_closes 52 = .ok (.invokevirtual 403, 3) := by decide +kernel
theorem dX8_closes_55 : decode cX8_closes 55 = .ok (.goto (-50), 3) := by decide +kernel
theorem dX8_closes_58 : decode cX8_closes 58 = .ok (.return_, 1) := by decide +kernel
theorem dX8_reads_0 : decode cX8_reads 0 = .ok (.aload_n 0, 1) := by decide +kernel
theorem dX8_reads_1 : decode cX8_reads 1 = .ok (.iconst 0, 1) := by decide +kernel
theorem dX8_reads_2 : decode cX8_reads 2 = .ok (.putfield 363, 3) := by decide +kernel
theorem dX8_reads_5 : decode cX8_reads 5 = .ok (.aload_n 0, 1) := by decide +kernel
theorem dX8_reads_6 : decode cX8_reads 6 = .ok (.iconst 0, 1) := by decide +kernel
theorem dX8_reads_7 : decode cX8_reads 7 = .ok (.putfield 386, 3) := by decide +kernel
theorem dX8_reads_10 : decode cX8_reads 10 = .ok (.aload_n 0, 1) := by decide +kernel
theorem dX8_reads_11 : decode cX8_reads 11 = .ok (.iconst 0, 1) := by decide +kernel
theorem dX8_reads_12 : decode cX8_reads 12 = .ok (.putfield 389, 3) := by decide +kernel
theorem dX8_reads_15 : decode cX8_reads 15 = .ok (.aload_n 0, 1) := by decide +kernel
theorem dX8_reads_16 : decode cX8_reads 16 = .ok (.invokevirtual 111, 3) := by decide +kernel
theorem dX8_reads_19 : decode cX8_reads 19 = .ok (.istore_n 1, 1) := by decide +kernel
theorem dX8_reads_20 : decode cX8_reads 20 = .ok (.iload_n 1, 1) := by decide +kernel
theorem dX8_reads_21 : decode cX8_reads 21 = .ok (.ifCond .eq 103, 3) := by decide +kernel
theorem dX8_reads_24 : decode cX8_reads 24 = .ok (.aload_n 0, 1) := by decide +kernel
theorem dX8_reads_25 : decode cX8_reads 25 = .ok (.invokevirtual 409, 3) := by decide +kernel
theorem dX8_reads_28 : decode cX8_reads 28 = .ok (.aload_n 0, 1) := by decide +kernel
theorem dX8_reads_29 : decode cX8_reads 29 = .ok (.invokevirtual 111, 3) := by decide +kernel
theorem dX8_reads_32 : decode cX8_reads 32 = .ok (.ifCond .ne 4, 3) := by decide +kernel
theorem dX8_reads_35 : decode cX8_reads 35 = .ok (.return_, 1) := by decide +kernel
theorem dX8_reads_36 : decode cX8_reads 36 = .ok (.aload_n 0, 1) := by decide +kernel
theorem dX8_reads_37 : decode cX8_reads 37 = .ok (.invokevirtual 412, 3) := by decide +kernel
theorem dX8_reads_40 : decode cX8_reads 40 = .ok (.aload_n 0, 1) := by decide +kernel
theorem dX8_reads_41 : decode cX8_reads 41 = .ok (.ldc2_w 415, 3) := by decide +kernel
theorem dX8_reads_44 : decode cX8_reads 44 = .ok (.invokevirtual 115, 3) := by decide +kernel
theorem dX8_reads_47 : decode cX8_reads 47 = .ok (.ifCond .eq 8, 3) := by decide +kernel
theorem dX8_reads_50 : decode cX8_reads 50 = .ok (.bipush 24, 2) := by decide +kernel
theorem dX8_reads_52 : decode cX8_reads 52 = .ok (.goto 19, 3) := by decide +kernel
theorem dX8_reads_55 : decode cX8_reads 55 = .ok (.aload_n 0, 1) := by decide +kernel
theorem dX8_reads_56 : decode cX8_reads 56 = .ok (.ldc2_w 417, 3) := by decide +kernel
theorem dX8_reads_59 : decode cX8_reads 59 = .ok (.invokevirtual 115, 3) := by decide +kernel
theorem dX8_reads_62 : decode cX8_reads 62 = .ok (.ifCond .eq 8, 3) := by decide +kernel
theorem dX8_reads_65 : decode cX8_reads 65 = .ok (.bipush 25, 2) := by decide +kernel
theorem dX8_reads_67 : decode cX8_reads 67 = .ok (.goto 4, 3) := by decide +kernel
theorem dX8_reads_70 : decode cX8_reads 70 = .ok (.iconst 0, 1) := by decide +kernel
theorem dX8_reads_71 : decode cX8_reads 71 = .ok (.istore_n 2, 1) := by decide +kernel
theorem dX8_reads_72 : decode cX8_reads 72 = .ok (.iload_n 2, 1) := by decide +kernel
theorem dX8_reads_73 : decode cX8_reads 73 = .ok (.ifCond .eq 7, 3) := by decide +kernel
theorem dX8_reads_76 : decode cX8_reads 76 = .ok (.iconst 1, 1) := by decide +kernel
theorem dX8_reads_77 : decode cX8_reads 77 = .ok (.goto 4, 3) := by decide +kernel
theorem dX8_reads_80 : decode cX8_reads 80 = .ok (.iconst 0, 1) := by decide +kernel
theorem dX8_reads_81 : decode cX8_reads 81 = .ok (.istore_n 1, 1) := by decide +kernel
theorem dX8_reads_82 : decode cX8_reads 82 = .ok (.iload_n 1, 1) := by decide +kernel
theorem dX8_reads_83 : decode cX8_reads 83 = .ok (.ifCond .ne 6, 3) := by decide +kernel
theorem dX8_reads_86 : decode cX8_reads 86 = .ok (.goto (-66), 3) := by decide +kernel
theorem dX8_reads_89 : decode cX8_reads 89 = .ok (.aload_n 0, 1) := by decide +kernel
theorem dX8_reads_90 : decode cX8_reads 90 = .ok (.iload_n 2, 1) := by decide +kernel
theorem dX8_reads_91 : decode cX8_reads 91 = .ok (.invokestatic 392, 3) := by decide +kernel
theorem dX8_reads_94 : decode cX8_reads 94 = .ok (.invokevirtual 403, 3) := by decide +kernel
theorem dX8_reads_97 : decode cX8_reads 97 = .ok (.aload_n 0, 1) := by decide +kernel
theorem dX8_reads_98 : decode cX8_reads 98 = .ok (.getfield 44, 3) := by decide +kernel
theorem dX8_reads_101 : decode cX8_reads 101 = .ok (.aload_n 0, 1) := by decide +kernel
theorem dX8_reads_102 : decode cX8_reads 102 = .ok (.getfield 389, 3) := by decide +kernel
theorem dX8_reads_105 : decode cX8_reads 105 = .ok (.iload_n 2, 1) := by decide +kernel
theorem dX8_reads_106 : decode cX8_reads 106 = .ok (.iastore, 1) := by decide +kernel
theorem dX8_reads_107 : decode cX8_reads 107 = .ok (.aload_n 0, 1) := by decide +kernel
theorem dX8_reads_108 : decode cX8_reads 108 = .ok (.dup, 1) := by decide +kernel
theorem dX8_reads_109 : decode cX8_reads 109 = .ok (.getfield 389, 3) := by decide +kernel
theorem dX8_reads_112 : decode cX8_reads 112 = .ok (.iconst 1, 1) := by decide +kernel
theorem dX8_reads_113 : decode cX8_reads 113 = .ok (.iadd, 1) := by decide +kernel
theorem dX8_reads_114 : decode cX8_reads 114 = .ok (.putfield 389, 3) := by decide +kernel
theorem dX8_reads_117 : decode cX8_reads 117 = .ok (.aload_n 0, 1) := by decide +kernel
theorem dX8_reads_118 : decode cX8_reads 118 = .ok (.invokevirtual 108, 3) := by decide +kernel
theorem dX8_reads_121 : decode cX8_reads 121 = .ok (.goto (-101), 3) := by decide +kernel
theorem dX8_reads_124 : decode cX8_reads 124 = .ok (.aload_n 0, 1) := by decide +kernel
theorem dX8_reads_125 : decode cX8_reads 125 = .ok (.invokevirtual 111, 3) := by decide +kernel
theorem dX8_reads_128 : decode cX8_reads 128 = .ok (.ifCond .eq 23, 3) := by decide +kernel
theorem dX8_reads_131 : decode cX8_reads 131 = .ok (.aload_n 0, 1) := by decide +kernel
theorem dX8_reads_132 : decode cX8_reads 132 = .ok (.invokevirtual 406, 3) := by decide +kernel
theorem dX8_reads_135 : decode cX8_reads 135 = .ok (.ifCond .ne 10, 3) := by decide +kernel
theorem dX8_reads_138 : decode cX8_reads 138 = .ok (.aload_n 0, 1) := by decide +kernel
theorem dX8_reads_139 : decode cX8_reads 139 = .ok (.getfield 89, 3) := by decide +kernel
theorem dX8_reads_142 : decode cX8_reads 142 = .ok (.ifCond .eq 9, 3) := by decide +kernel
theorem dX8_reads_145 : decode cX8_reads 145 = .ok (.aload_n 0, 1) := by decide +kernel
theorem dX8_reads_146 : decode cX8_reads 146 = .ok (.iconst 1, 1) := by decide +kernel
theorem dX8_reads_147 : decode cX8_reads 147 = .ok (.invokevirtual 122, 3) := by decide +kernel
theorem dX8_reads_150 : decode cX8_reads 150 = .ok (.pop, 1) := by decide +kernel
theorem dX8_reads_151 : decode cX8_reads 151 = .ok (.aload_n 0, 1) := by decide +kernel
theorem dX8_reads_152 : decode cX8_reads 152 = .ok (.iconst 1, 1) := by decide +kernel
theorem dX8_reads_153 : decode cX8_reads 153 = .ok (.invokevirtual 403, 3) := by decide +kernel
theorem dX8_reads_156 : decode cX8_reads 156 = .ok (.return_, 1) := by decide +kernel
theorem dX8_propertyOf_0 : decode cX8_propertyOf 0 = .ok (.iload_n 1, 1) := by decide +kernel
theorem dX8_propertyOf_1 : decode cX8_propertyOf 1 = .ok (.tableswitch 104 0 7 #[47, 49, 56, 63, 69, 76, 83, 90], 47) := by decide +kernel
theorem dX8_propertyOf_48 : decode cX8_propertyOf 48 = .ok (.iload_n 2, 1) := by decide +kernel
theorem dX8_propertyOf_49 : decode cX8_propertyOf 49 = .ok (.ireturn, 1) := by decide +kernel
theorem dX8_propertyOf_50 : decode cX8_propertyOf 50 = .ok (.aload_n 0, 1) := by decide +kernel
theorem dX8_propertyOf_51 : decode cX8_propertyOf 51 = .ok (.iload_n 2, 1) := by decide +kernel
theorem dX8_propertyOf_52 : decode cX8_propertyOf 52 = .ok (.iconst 0, 1) := by decide +kernel
theorem dX8_propertyOf_53 : decode cX8_propertyOf 53 = .ok (.invokevirtual 218, 3) := by decide +kernel
theorem dX8_propertyOf_56 : decode cX8_propertyOf 56 = .ok (.ireturn, 1) := by decide +kernel
theorem dX8_propertyOf_57 : decode cX8_propertyOf 57 = .ok (.aload_n 0, 1) := by decide +kernel
theorem dX8_propertyOf_58 : decode cX8_propertyOf 58 = .ok (.iload_n 2, 1) := by decide +kernel
theorem dX8_propertyOf_59 : decode cX8_propertyOf 59 = .ok (.iconst 1, 1) := by decide +kernel
theorem dX8_propertyOf_60 : decode cX8_propertyOf 60 = .ok (.invokevirtual 218, 3) := by decide +kernel
theorem dX8_propertyOf_63 : decode cX8_propertyOf 63 = .ok (.ireturn, 1) := by decide +kernel
theorem dX8_propertyOf_64 : decode cX8_propertyOf 64 = .ok (.aload_n 0, 1) := by decide +kernel
theorem dX8_propertyOf_65 : decode cX8_propertyOf 65 = .ok (.iload_n 2, 1) := by decide +kernel
theorem dX8_propertyOf_66 : decode cX8_propertyOf 66 = .ok (.invokevirtual 227, 3) := by decide +kernel
theorem dX8_propertyOf_69 : decode cX8_propertyOf 69 = .ok (.ireturn, 1) := by decide +kernel
theorem dX8_propertyOf_70 : decode cX8_propertyOf 70 = .ok (.aload_n 0, 1) := by decide +kernel
theorem dX8_propertyOf_71 : decode cX8_propertyOf 71 = .ok (.iload_n 2, 1) := by decide +kernel
theorem dX8_propertyOf_72 : decode cX8_propertyOf 72 = .ok (.iconst 2, 1) := by decide +kernel
theorem dX8_propertyOf_73 : decode cX8_propertyOf 73 = .ok (.invokevirtual 218, 3) := by decide +kernel
theorem dX8_propertyOf_76 : decode cX8_propertyOf 76 = .ok (.ireturn, 1) := by decide +kernel
theorem dX8_propertyOf_77 : decode cX8_propertyOf 77 = .ok (.aload_n 0, 1) := by decide +kernel
theorem dX8_propertyOf_78 : decode cX8_propertyOf 78 = .ok (.iload_n 2, 1) := by decide +kernel
theorem dX8_propertyOf_79 : decode cX8_propertyOf 79 = .ok (.iconst 3, 1) := by decide +kernel
theorem dX8_propertyOf_80 : decode cX8_propertyOf 80 = .ok (.invokevirtual 218, 3) := by decide +kernel
theorem dX8_propertyOf_83 : decode cX8_propertyOf 83 = .ok (.ireturn, 1) := by decide +kernel
theorem dX8_propertyOf_84 : decode cX8_propertyOf 84 = .ok (.aload_n 0, 1) := by decide +kernel
theorem dX8_propertyOf_85 : decode cX8_propertyOf 85 = .ok (.iload_n 2, 1) := by decide +kernel
theorem dX8_propertyOf_86 : decode cX8_propertyOf 86 = .ok (.iconst 4, 1) := by decide +kernel
theorem dX8_propertyOf_87 : decode cX8_propertyOf 87 = .ok (.invokevirtual 218, 3) := by decide +kernel
theorem dX8_propertyOf_90 : decode cX8_propertyOf 90 = .ok (.ireturn, 1) := by decide +kernel
theorem dX8_propertyOf_91 : decode cX8_propertyOf 91 = .ok (.aload_n 0, 1) := by decide +kernel
theorem dX8_propertyOf_92 : decode cX8_propertyOf 92 = .ok (.iload_n 2, 1) := by decide +kernel
theorem dX8_propertyOf_93 : decode cX8_propertyOf 93 = .ok (.invokevirtual 419, 3) := by decide +kernel
theorem dX8_propertyOf_96 : decode cX8_propertyOf 96 = .ok (.ifCond .eq 7, 3) := by decide +kernel
theorem dX8_propertyOf_99 : decode cX8_propertyOf 99 = .ok (.iconst 1, 1) := by decide +kernel
theorem dX8_propertyOf_100 : decode cX8_propertyOf 100 = .ok (.goto 4, 3) := by decide +kernel
theorem dX8_propertyOf_103 : decode cX8_propertyOf 103 = .ok (.iconst 0, 1) := by decide +kernel
theorem dX8_propertyOf_104 : decode cX8_propertyOf 104 = .ok (.ireturn, 1) := by decide +kernel
theorem dX8_propertyOf_105 : decode cX8_propertyOf 105 = .ok (.aload_n 0, 1) := by decide +kernel
theorem dX8_propertyOf_106 : decode cX8_propertyOf 106 = .ok (.iload_n 2, 1) := by decide +kernel
theorem dX8_propertyOf_107 : decode cX8_propertyOf 107 = .ok (.invokevirtual 314, 3) := by decide +kernel
theorem dX8_propertyOf_110 : decode cX8_propertyOf 110 = .ok (.ireturn, 1) := by decide +kernel
theorem dX8_joined_0 : decode cX8_joined 0 = .ok (.iload_n 0, 1) := by decide +kernel
theorem dX8_joined_1 : decode cX8_joined 1 = .ok (.tableswitch 81 20 24 #[35, 46, 57, 81, 68], 35) := by decide +kernel
theorem dX8_joined_36 : decode cX8_joined 36 = .ok (.iload_n 1, 1) := by decide +kernel
theorem dX8_joined_37 : decode cX8_joined 37 = .ok (.iload_n 2, 1) := by decide +kernel
theorem dX8_joined_38 : decode cX8_joined 38 = .ok (.if_icmp .ge 7, 3) := by decide +kernel
theorem dX8_joined_41 : decode cX8_joined 41 = .ok (.iconst 1, 1) := by decide +kernel
theorem dX8_joined_42 : decode cX8_joined 42 = .ok (.goto 4, 3) := by decide +kernel
theorem dX8_joined_45 : decode cX8_joined 45 = .ok (.iconst 0, 1) := by decide +kernel
theorem dX8_joined_46 : decode cX8_joined 46 = .ok (.ireturn, 1) := by decide +kernel
theorem dX8_joined_47 : decode cX8_joined 47 = .ok (.iload_n 1, 1) := by decide +kernel
theorem dX8_joined_48 : decode cX8_joined 48 = .ok (.iload_n 2, 1) := by decide +kernel
theorem dX8_joined_49 : decode cX8_joined 49 = .ok (.if_icmp .ne 7, 3) := by decide +kernel
theorem dX8_joined_52 : decode cX8_joined 52 = .ok (.iconst 1, 1) := by decide +kernel
theorem dX8_joined_53 : decode cX8_joined 53 = .ok (.goto 4, 3) := by decide +kernel
theorem dX8_joined_56 : decode cX8_joined 56 = .ok (.iconst 0, 1) := by decide +kernel
theorem dX8_joined_57 : decode cX8_joined 57 = .ok (.ireturn, 1) := by decide +kernel
theorem dX8_joined_58 : decode cX8_joined 58 = .ok (.iload_n 1, 1) := by decide +kernel
theorem dX8_joined_59 : decode cX8_joined 59 = .ok (.iload_n 2, 1) := by decide +kernel
theorem dX8_joined_60 : decode cX8_joined 60 = .ok (.if_icmp .le 7, 3) := by decide +kernel
theorem dX8_joined_63 : decode cX8_joined 63 = .ok (.iconst 1, 1) := by decide +kernel
theorem dX8_joined_64 : decode cX8_joined 64 = .ok (.goto 4, 3) := by decide +kernel
theorem dX8_joined_67 : decode cX8_joined 67 = .ok (.iconst 0, 1) := by decide +kernel
theorem dX8_joined_68 : decode cX8_joined 68 = .ok (.ireturn, 1) := by decide +kernel
theorem dX8_joined_69 : decode cX8_joined 69 = .ok (.iload_n 1, 1) := by decide +kernel
theorem dX8_joined_70 : decode cX8_joined 70 = .ok (.iload_n 2, 1) := by decide +kernel
theorem dX8_joined_71 : decode cX8_joined 71 = .ok (.iadd, 1) := by decide +kernel
theorem dX8_joined_72 : decode cX8_joined 72 = .ok (.iconst 2, 1) := by decide +kernel
theorem dX8_joined_73 : decode cX8_joined 73 = .ok (.if_icmp .ne 7, 3) := by decide +kernel
theorem dX8_joined_76 : decode cX8_joined 76 = .ok (.iconst 1, 1) := by decide +kernel
theorem dX8_joined_77 : decode cX8_joined 77 = .ok (.goto 4, 3) := by decide +kernel
theorem dX8_joined_80 : decode cX8_joined 80 = .ok (.iconst 0, 1) := by decide +kernel
theorem dX8_joined_81 : decode cX8_joined 81 = .ok (.ireturn, 1) := by decide +kernel
theorem dX8_joined_82 : decode cX8_joined 82 = .ok (.iload_n 1, 1) := by decide +kernel
theorem dX8_joined_83 : decode cX8_joined 83 = .ok (.iload_n 2, 1) := by decide +kernel
theorem dX8_joined_84 : decode cX8_joined 84 = .ok (.iadd, 1) := by decide +kernel
theorem dX8_joined_85 : decode cX8_joined 85 = .ok (.ifCond .le 7, 3) := by decide +kernel
theorem dX8_joined_88 : decode cX8_joined 88 = .ok (.iconst 1, 1) := by decide +kernel
theorem dX8_joined_89 : decode cX8_joined 89 = .ok (.goto 4, 3) := by decide +kernel
theorem dX8_joined_92 : decode cX8_joined 92 = .ok (.iconst 0, 1) := by decide +kernel
theorem dX8_joined_93 : decode cX8_joined 93 = .ok (.ireturn, 1) := by decide +kernel
theorem dX8_holds__0 : decode cX8_holds_ 0 = .ok (.iconst 0, 1) := by decide +kernel
theorem dX8_holds__1 : decode cX8_holds_ 1 = .ok (.istore_n 2, 1) := by decide +kernel
theorem dX8_holds__2 : decode cX8_holds_ 2 = .ok (.iconst 0, 1) := by decide +kernel
theorem dX8_holds__3 : decode cX8_holds_ 3 = .ok (.istore_n 3, 1) := by decide +kernel
theorem dX8_holds__4 : decode cX8_holds_ 4 = .ok (.iload_n 3, 1) := by decide +kernel
theorem dX8_holds__5 : decode cX8_holds_ 5 = .ok (.aload_n 0, 1) := by decide +kernel
theorem dX8_holds__6 : decode cX8_holds_ 6 = .ok (.getfield 363, 3) := by decide +kernel
theorem dX8_holds__9 : decode cX8_holds_ 9 = .ok (.if_icmp .ge 132, 3) := by decide +kernel
theorem dX8_holds__12 : decode cX8_holds_ 12 = .ok (.aload_n 0, 1) := by decide +kernel
theorem dX8_holds__13 : decode cX8_holds_ 13 = .ok (.getfield 41, 3) := by decide +kernel
theorem dX8_holds__16 : decode cX8_holds_ 16 = .ok (.iload_n 3, 1) := by decide +kernel
theorem dX8_holds__17 : decode cX8_holds_ 17 = .ok (.iaload, 1) := by decide +kernel
theorem dX8_holds__18 : decode cX8_holds_ 18 = .ok (.istore 4, 2) := by decide +kernel
theorem dX8_holds__20 : decode cX8_holds_ 20 = .ok (.iload 4, 2) := by decide +kernel
theorem dX8_holds__22 : decode cX8_holds_ 22 = .ok (.bipush 23, 2) := by decide +kernel
theorem dX8_holds__24 : decode cX8_holds_ 24 = .ok (.if_icmp .ne 24, 3) := by decide +kernel
theorem dX8_holds__27 : decode cX8_holds_ 27 = .ok (.aload_n 0, 1) := by decide +kernel
theorem dX8_holds__28 : decode cX8_holds_ 28 = .ok (.getfield 47, 3) := by decide +kernel
theorem dX8_holds__31 : decode cX8_holds_ 31 = .ok (.iload_n 2, 1) := by decide +kernel
theorem dX8_holds__32 : decode cX8_holds_ 32 = .ok (.iconst 1, 1) := by decide +kernel
theorem dX8_holds__33 : decode cX8_holds_ 33 = .ok (.isub, 1) := by decide +kernel
theorem dX8_holds__34 : decode cX8_holds_ 34 = .ok (.iconst 1, 1) := by decide +kernel
theorem dX8_holds__35 : decode cX8_holds_ 35 = .ok (.aload_n 0, 1) := by decide +kernel
theorem dX8_holds__36 : decode cX8_holds_ 36 = .ok (.getfield 47, 3) := by decide +kernel
theorem dX8_holds__39 : decode cX8_holds_ 39 = .ok (.iload_n 2, 1) := by decide +kernel
theorem dX8_holds__40 : decode cX8_holds_ 40 = .ok (.iconst 1, 1) := by decide +kernel
theorem dX8_holds__41 : decode cX8_holds_ 41 = .ok (.isub, 1) := by decide +kernel
theorem dX8_holds__42 : decode cX8_holds_ 42 = .ok (.iaload, 1) := by decide +kernel
theorem dX8_holds__43 : decode cX8_holds_ 43 = .ok (.isub, 1) := by decide +kernel
theorem dX8_holds__44 : decode cX8_holds_ 44 = .ok (.iastore, 1) := by decide +kernel
theorem dX8_holds__45 : decode cX8_holds_ 45 = .ok (.goto 90, 3) := by decide +kernel
theorem dX8_holds__48 : decode cX8_holds_ 48 = .ok (.iload 4, 2) := by decide +kernel
theorem dX8_holds__50 : decode cX8_holds_ 50 = .ok (.i2l, 1) := by decide +kernel
theorem dX8_holds__51 : decode cX8_holds_ 51 = .ok (.ldc2_w 422, 3) := by decide +kernel
theorem dX8_holds__54 : decode cX8_holds_ 54 = .ok (.ldc2_w 424, 3) := by decide +kernel
theorem dX8_holds__57 : decode cX8_holds_ 57 = .ok (.invokestatic 125, 3) := by decide +kernel
theorem dX8_holds__60 : decode cX8_holds_ 60 = .ok (.ifCond .eq 44, 3) := by decide +kernel
theorem dX8_holds__63 : decode cX8_holds_ 63 = .ok (.iinc 2 (-1), 3) := by decide +kernel
theorem dX8_holds__66 : decode cX8_holds_ 66 = .ok (.aload_n 0, 1) := by decide +kernel
theorem dX8_holds__67 : decode cX8_holds_ 67 = .ok (.getfield 47, 3) := by decide +kernel
theorem dX8_holds__70 : decode cX8_holds_ 70 = .ok (.iload_n 2, 1) := by decide +kernel
theorem dX8_holds__71 : decode cX8_holds_ 71 = .ok (.iconst 1, 1) := by decide +kernel
theorem dX8_holds__72 : decode cX8_holds_ 72 = .ok (.isub, 1) := by decide +kernel
theorem dX8_holds__73 : decode cX8_holds_ 73 = .ok (.iload 4, 2) := by decide +kernel
theorem dX8_holds__75 : decode cX8_holds_ 75 = .ok (.aload_n 0, 1) := by decide +kernel
theorem dX8_holds__76 : decode cX8_holds_ 76 = .ok (.getfield 47, 3) := by decide +kernel
theorem dX8_holds__79 : decode cX8_holds_ 79 = .ok (.iload_n 2, 1) := by decide +kernel
theorem dX8_holds__80 : decode cX8_holds_ 80 = .ok (.iconst 1, 1) := by decide +kernel
theorem dX8_holds__81 : decode cX8_holds_ 81 = .ok (.isub, 1) := by decide +kernel
theorem dX8_holds__82 : decode cX8_holds_ 82 = .ok (.iaload, 1) := by decide +kernel
theorem dX8_holds__83 : decode cX8_holds_ 83 = .ok (.aload_n 0, 1) := by decide +kernel
theorem dX8_holds__84 : decode cX8_holds_ 84 = .ok (.getfield 47, 3) := by decide +kernel
theorem dX8_holds__87 : decode cX8_holds_ 87 = .ok (.iload_n 2, 1) := by decide +kernel
theorem dX8_holds__88 : decode cX8_holds_ 88 = .ok (.iaload, 1) := by decide +kernel
theorem dX8_holds__89 : decode cX8_holds_ 89 = .ok (.invokestatic 426, 3) := by decide +kernel
theorem dX8_holds__92 : decode cX8_holds_ 92 = .ok (.ifCond .eq 7, 3) := by decide +kernel
theorem dX8_holds__95 : decode cX8_holds_ 95 = .ok (.iconst 1, 1) := by decide +kernel
theorem dX8_holds__96 : decode cX8_holds_ 96 = .ok (.goto 4, 3) := by decide +kernel
theorem dX8_holds__99 : decode cX8_holds_ 99 = .ok (.iconst 0, 1) := by decide +kernel
theorem dX8_holds__100 : decode cX8_holds_ 100 = .ok (.iastore, 1) := by decide +kernel
theorem dX8_holds__101 : decode cX8_holds_ 101 = .ok (.goto 34, 3) := by decide +kernel
theorem dX8_holds__104 : decode cX8_holds_ 104 = .ok (.aload_n 0, 1) := by decide +kernel
theorem dX8_holds__105 : decode cX8_holds_ 105 = .ok (.getfield 47, 3) := by decide +kernel
theorem dX8_holds__108 : decode cX8_holds_ 108 = .ok (.iload_n 2, 1) := by decide +kernel
theorem dX8_holds__109 : decode cX8_holds_ 109 = .ok (.iload 4, 2) := by decide +kernel
theorem dX8_holds__111 : decode cX8_holds_ 111 = .ok (.bipush 100, 2) := by decide +kernel
theorem dX8_holds__113 : decode cX8_holds_ 113 = .ok (.if_icmp .lt 11, 3) := by decide +kernel
theorem dX8_holds__116 : decode cX8_holds_ 116 = .ok (.iload 4, 2) := by decide +kernel
theorem dX8_holds__118 : decode cX8_holds_ 118 = .ok (.bipush 100, 2) := by decide +kernel
theorem dX8_holds__120 : decode cX8_holds_ 120 = .ok (.isub, 1) := by decide +kernel
theorem dX8_holds__121 : decode cX8_holds_ 121 = .ok (.goto 10, 3) := by decide +kernel
theorem dX8_holds__124 : decode cX8_holds_ 124 = .ok (.aload_n 0, 1) := by decide +kernel
theorem dX8_holds__125 : decode cX8_holds_ 125 = .ok (.iload 4, 2) := by decide +kernel
theorem dX8_holds__127 : decode cX8_holds_ 127 = .ok (.iload_n 1, 1) := by decide +kernel
theorem dX8_holds__128 : decode cX8_holds_ 128 = .ok (.invokevirtual 429, 3) := by decide +kernel
theorem dX8_holds__131 : decode cX8_holds_ 131 = .ok (.iastore, 1) := by decide +kernel
theorem dX8_holds__132 : decode cX8_holds_ 132 = .ok (.iinc 2 1, 3) := by decide +kernel
theorem dX8_holds__135 : decode cX8_holds_ 135 = .ok (.iinc 3 1, 3) := by decide +kernel
theorem dX8_holds__138 : decode cX8_holds_ 138 = .ok (.goto (-134), 3) := by decide +kernel
theorem dX8_holds__141 : decode cX8_holds_ 141 = .ok (.aload_n 0, 1) := by decide +kernel
theorem dX8_holds__142 : decode cX8_holds_ 142 = .ok (.getfield 47, 3) := by decide +kernel
theorem dX8_holds__145 : decode cX8_holds_ 145 = .ok (.iconst 0, 1) := by decide +kernel
theorem dX8_holds__146 : decode cX8_holds_ 146 = .ok (.iaload, 1) := by decide +kernel
theorem dX8_holds__147 : decode cX8_holds_ 147 = .ok (.iconst 1, 1) := by decide +kernel
theorem dX8_holds__148 : decode cX8_holds_ 148 = .ok (.if_icmp .ne 7, 3) := by decide +kernel
theorem dX8_holds__151 : decode cX8_holds_ 151 = .ok (.iconst 1, 1) := by decide +kernel
theorem dX8_holds__152 : decode cX8_holds_ 152 = .ok (.goto 4, 3) := by decide +kernel
theorem dX8_holds__155 : decode cX8_holds_ 155 = .ok (.iconst 0, 1) := by decide +kernel
theorem dX8_holds__156 : decode cX8_holds_ 156 = .ok (.ireturn, 1) := by decide +kernel
theorem dX8_query_0 : decode cX8_query 0 = .ok (.aload_n 0, 1) := by decide +kernel
theorem dX8_query_1 : decode cX8_query 1 = .ok (.iconst 0, 1) := by decide +kernel
theorem dX8_query_2 : decode cX8_query 2 = .ok (.putfield 1, 3) := by decide +kernel
theorem dX8_query_5 : decode cX8_query 5 = .ok (.aload_n 0, 1) := by decide +kernel
theorem dX8_query_6 : decode cX8_query 6 = .ok (.iload_n 1, 1) := by decide +kernel
theorem dX8_query_7 : decode cX8_query 7 = .ok (.i2l, 1) := by decide +kernel
theorem dX8_query_8 : decode cX8_query 8 = .ok (.lconst 0, 1) := by decide +kernel
theorem dX8_query_9 : decode cX8_query 9 = .ok (.aload_n 0, 1) := by decide +kernel
theorem dX8_query_10 : decode cX8_query 10 = .ok (.getfield 57, 3) := by decide +kernel
theorem dX8_query_13 : decode cX8_query 13 = .ok (.sipush 200, 3) := by decide +kernel
theorem dX8_query_16 : decode cX8_query 16 = .ok (.invokestatic 432, 3) := by decide +kernel
theorem dX8_query_19 : decode cX8_query 19 = .ok (.i2l, 1) := by decide +kernel
theorem dX8_query_20 : decode cX8_query 20 = .ok (.invokestatic 125, 3) := by decide +kernel
theorem dX8_query_23 : decode cX8_query 23 = .ok (.iconst 1, 1) := by decide +kernel
theorem dX8_query_24 : decode cX8_query 24 = .ok (.invokevirtual 201, 3) := by decide +kernel
theorem dX8_query_27 : decode cX8_query 27 = .ok (.ifCond .eq 5, 3) := by decide +kernel
theorem dX8_query_30 : decode cX8_query 30 = .ok (.iconst 0, 1) := by decide +kernel
theorem dX8_query_31 : decode cX8_query 31 = .ok (.ireturn, 1) := by decide +kernel
theorem dX8_query_32 : decode cX8_query 32 = .ok (.aload_n 0, 1) := by decide +kernel
theorem dX8_query_33 : decode cX8_query 33 = .ok (.iload_n 1, 1) := by decide +kernel
theorem dX8_query_34 : decode cX8_query 34 = .ok (.invokevirtual 205, 3) := by decide +kernel
theorem dX8_query_37 : decode cX8_query 37 = .ok (.aload_n 0, 1) := by decide +kernel
theorem dX8_query_38 : decode cX8_query 38 = .ok (.ldc2_w 435, 3) := by decide +kernel
theorem dX8_query_41 : decode cX8_query 41 = .ok (.invokevirtual 135, 3) := by decide +kernel
theorem dX8_query_44 : decode cX8_query 44 = .ok (.istore_n 2, 1) := by decide +kernel
theorem dX8_query_45 : decode cX8_query 45 = .ok (.iload_n 2, 1) := by decide +kernel
theorem dX8_query_46 : decode cX8_query 46 = .ok (.ifCond .ne 19, 3) := by decide +kernel
theorem dX8_query_49 : decode cX8_query 49 = .ok (.aload_n 0, 1) := by decide +kernel
theorem dX8_query_50 : decode cX8_query 50 = .ok (.ldc2_w 437, 3) := by decide +kernel
theorem dX8_query_53 : decode cX8_query 53 = .ok (.invokevirtual 135, 3) := by decide +kernel
theorem dX8_query_56 : decode cX8_query 56 = .ok (.ifCond .ne 9, 3) := by decide +kernel
theorem dX8_query_59 : decode cX8_query 59 = .ok (.aload_n 0, 1) := by decide +kernel
theorem dX8_query_60 : decode cX8_query 60 = .ok (.iconst 1, 1) := by decide +kernel
theorem dX8_query_61 : decode cX8_query 61 = .ok (.invokevirtual 122, 3) := by decide +kernel
theorem dX8_query_64 : decode cX8_query 64 = .ok (.pop, 1) := by decide +kernel
theorem dX8_query_65 : decode cX8_query 65 = .ok (.aload_n 0, 1) := by decide +kernel
theorem dX8_query_66 : decode cX8_query 66 = .ok (.invokevirtual 439, 3) := by decide +kernel
theorem dX8_query_69 : decode cX8_query 69 = .ok (.aload_n 0, 1) := by decide +kernel
theorem dX8_query_70 : decode cX8_query 70 = .ok (.invokevirtual 111, 3) := by decide +kernel
theorem dX8_query_73 : decode cX8_query 73 = .ok (.ifCond .ne 12, 3) := by decide +kernel
theorem dX8_query_76 : decode cX8_query 76 = .ok (.ldc_w 442, 3) := by decide +kernel
theorem dX8_query_79 : decode cX8_query 79 = .ok (.aload_n 0, 1) := by decide +kernel
theorem dX8_query_80 : decode cX8_query 80 = .ok (.getfield 105, 3) := by decide +kernel
theorem dX8_query_83 : decode cX8_query 83 = .ok (.isub, 1) := by decide +kernel
theorem dX8_query_84 : decode cX8_query 84 = .ok (.ireturn, 1) := by decide +kernel
theorem dX8_query_85 : decode cX8_query 85 = .ok (.iconst 0, 1) := by decide +kernel
theorem dX8_query_86 : decode cX8_query 86 = .ok (.istore_n 3, 1) := by decide +kernel
theorem dX8_query_87 : decode cX8_query 87 = .ok (.iconst 0, 1) := by decide +kernel
theorem dX8_query_88 : decode cX8_query 88 = .ok (.istore 4, 2) := by decide +kernel
theorem dX8_query_90 : decode cX8_query 90 = .ok (.iload 4, 2) := by decide +kernel
theorem dX8_query_92 : decode cX8_query 92 = .ok (.aload_n 0, 1) := by decide +kernel
theorem dX8_query_93 : decode cX8_query 93 = .ok (.getfield 13, 3) := by decide +kernel
theorem dX8_query_96 : decode cX8_query 96 = .ok (.iconst 0, 1) := by decide +kernel
theorem dX8_query_97 : decode cX8_query 97 = .ok (.iaload, 1) := by decide +kernel
theorem dX8_query_98 : decode cX8_query 98 = .ok (.if_icmp .ge 31, 3) := by decide +kernel
theorem dX8_query_101 : decode cX8_query 101 = .ok (.aload_n 0, 1) := by decide +kernel
theorem dX8_query_102 : decode cX8_query 102 = .ok (.iload 4, 2) := by decide +kernel
theorem dX8_query_104 : decode cX8_query 104 = .ok (.invokevirtual 443, 3) := by decide +kernel
theorem dX8_query_107 : decode cX8_query 107 = .ok (.ifCond .ne 6, 3) := by decide +kernel
theorem dX8_query_110 : decode cX8_query 110 = .ok (.goto 13, 3) := by decide +kernel
theorem dX8_query_113 : decode cX8_query 113 = .ok (.iload_n 2, 1) := by decide +kernel
theorem dX8_query_114 : decode cX8_query 114 = .ok (.ifCond .eq 6, 3) := by decide +kernel
theorem dX8_query_117 : decode cX8_query 117 = .ok (.iload 4, 2) := by decide +kernel
theorem dX8_query_119 : decode cX8_query 119 = .ok (.ireturn, 1) := by decide +kernel
theorem dX8_query_120 : decode cX8_query 120 = .ok (.iinc 3 1, 3) := by decide +kernel
theorem dX8_query_123 : decode cX8_query 123 = .ok (.iinc 4 1, 3) := by decide +kernel
theorem dX8_query_126 : decode cX8_query 126 = .ok (.goto (-36), 3) := by decide +kernel
theorem dX8_query_129 : decode cX8_query 129 = .ok (.iload_n 2, 1) := by decide +kernel
theorem dX8_query_130 : decode cX8_query 130 = .ok (.ifCond .eq 7, 3) := by decide +kernel
theorem dX8_query_133 : decode cX8_query 133 = .ok (.iconst (-1), 1) := by decide +kernel
theorem dX8_query_134 : decode cX8_query 134 = .ok (.goto 4, 3) := by decide +kernel
theorem dX8_query_137 : decode cX8_query 137 = .ok (.iload_n 3, 1) := by decide +kernel
theorem dX8_query_138 : decode cX8_query 138 = .ok (.ireturn, 1) := by decide +kernel
theorem dL_load_0 : decode cL_load 0 = .ok (.aload_n 2, 1) := by decide +kernel
theorem dL_load_1 : decode cL_load 1 = .ok (.iconst 0, 1) := by decide +kernel
theorem dL_load_2 : decode cL_load 2 = .ok (.aload_n 0, 1) := by decide +kernel
theorem dL_load_3 : decode cL_load 3 = .ok (.iload_n 1, 1) := by decide +kernel
theorem dL_load_4 : decode cL_load 4 = .ok (.invokevirtual 7, 3) := by decide +kernel
theorem dL_load_7 : decode cL_load 7 = .ok (.i2l, 1) := by decide +kernel
theorem dL_load_8 : decode cL_load 8 = .ok (.lastore, 1) := by decide +kernel
theorem dL_load_9 : decode cL_load 9 = .ok (.goto 6, 3) := by decide +kernel
theorem dL_load_12 : decode cL_load 12 = .ok (.astore_n 3, 1) := by decide +kernel
theorem dL_load_13 : decode cL_load 13 = .ok (.iconst 1, 1) := by decide +kernel
theorem dL_load_14 : decode cL_load 14 = .ok (.ireturn, 1) := by decide +kernel
theorem dL_load_15 : decode cL_load 15 = .ok (.iconst 0, 1) := by decide +kernel
theorem dL_load_16 : decode cL_load 16 = .ok (.ireturn, 1) := by decide +kernel
theorem dL_size_0 : decode cL_size 0 = .ok (.aload_n 2, 1) := by decide +kernel
theorem dL_size_1 : decode cL_size 1 = .ok (.iconst 0, 1) := by decide +kernel
theorem dL_size_2 : decode cL_size 2 = .ok (.aload_n 0, 1) := by decide +kernel
theorem dL_size_3 : decode cL_size 3 = .ok (.iload_n 1, 1) := by decide +kernel
theorem dL_size_4 : decode cL_size 4 = .ok (.invokevirtual 15, 3) := by decide +kernel
theorem dL_size_7 : decode cL_size 7 = .ok (.i2l, 1) := by decide +kernel
theorem dL_size_8 : decode cL_size 8 = .ok (.lastore, 1) := by decide +kernel
theorem dL_size_9 : decode cL_size 9 = .ok (.goto 6, 3) := by decide +kernel
theorem dL_size_12 : decode cL_size 12 = .ok (.astore_n 3, 1) := by decide +kernel
theorem dL_size_13 : decode cL_size 13 = .ok (.iconst 1, 1) := by decide +kernel
theorem dL_size_14 : decode cL_size 14 = .ok (.ireturn, 1) := by decide +kernel
theorem dL_size_15 : decode cL_size 15 = .ok (.iconst 0, 1) := by decide +kernel
theorem dL_size_16 : decode cL_size 16 = .ok (.ireturn, 1) := by decide +kernel
theorem dL_host_0 : decode cL_host 0 = .ok (.aload_n 3, 1) := by decide +kernel
theorem dL_host_1 : decode cL_host 1 = .ok (.iconst 0, 1) := by decide +kernel
theorem dL_host_2 : decode cL_host 2 = .ok (.aload_n 0, 1) := by decide +kernel
theorem dL_host_3 : decode cL_host 3 = .ok (.iload_n 1, 1) := by decide +kernel
theorem dL_host_4 : decode cL_host 4 = .ok (.iload_n 2, 1) := by decide +kernel
theorem dL_host_5 : decode cL_host 5 = .ok (.invokevirtual 20, 3) := by decide +kernel
theorem dL_host_8 : decode cL_host 8 = .ok (.i2l, 1) := by decide +kernel
theorem dL_host_9 : decode cL_host 9 = .ok (.lastore, 1) := by decide +kernel
theorem dL_host_10 : decode cL_host 10 = .ok (.goto 7, 3) := by decide +kernel
theorem dL_host_13 : decode cL_host 13 = .ok (.astore 4, 2) := by decide +kernel
theorem dL_host_15 : decode cL_host 15 = .ok (.iconst 1, 1) := by decide +kernel
theorem dL_host_16 : decode cL_host 16 = .ok (.ireturn, 1) := by decide +kernel
theorem dL_host_17 : decode cL_host 17 = .ok (.iconst 0, 1) := by decide +kernel
theorem dL_host_18 : decode cL_host 18 = .ok (.ireturn, 1) := by decide +kernel
theorem dL_name_0 : decode cL_name 0 = .ok (.aload_n 3, 1) := by decide +kernel
theorem dL_name_1 : decode cL_name 1 = .ok (.iconst 0, 1) := by decide +kernel
theorem dL_name_2 : decode cL_name 2 = .ok (.aload_n 0, 1) := by decide +kernel
theorem dL_name_3 : decode cL_name 3 = .ok (.iload_n 1, 1) := by decide +kernel
theorem dL_name_4 : decode cL_name 4 = .ok (.iload_n 2, 1) := by decide +kernel
theorem dL_name_5 : decode cL_name 5 = .ok (.invokevirtual 24, 3) := by decide +kernel
theorem dL_name_8 : decode cL_name 8 = .ok (.i2l, 1) := by decide +kernel
theorem dL_name_9 : decode cL_name 9 = .ok (.lastore, 1) := by decide +kernel
theorem dL_name_10 : decode cL_name 10 = .ok (.goto 7, 3) := by decide +kernel
theorem dL_name_13 : decode cL_name 13 = .ok (.astore 4, 2) := by decide +kernel
theorem dL_name_15 : decode cL_name 15 = .ok (.iconst 1, 1) := by decide +kernel
theorem dL_name_16 : decode cL_name 16 = .ok (.ireturn, 1) := by decide +kernel
theorem dL_name_17 : decode cL_name 17 = .ok (.iconst 0, 1) := by decide +kernel
theorem dL_name_18 : decode cL_name 18 = .ok (.ireturn, 1) := by decide +kernel
theorem dL_holder_0 : decode cL_holder 0 = .ok (.aload_n 3, 1) := by decide +kernel
theorem dL_holder_1 : decode cL_holder 1 = .ok (.iconst 0, 1) := by decide +kernel
theorem dL_holder_2 : decode cL_holder 2 = .ok (.aload_n 0, 1) := by decide +kernel
theorem dL_holder_3 : decode cL_holder 3 = .ok (.iload_n 1, 1) := by decide +kernel
theorem dL_holder_4 : decode cL_holder 4 = .ok (.iload_n 2, 1) := by decide +kernel
theorem dL_holder_5 : decode cL_holder 5 = .ok (.invokevirtual 27, 3) := by decide +kernel
theorem dL_holder_8 : decode cL_holder 8 = .ok (.i2l, 1) := by decide +kernel
theorem dL_holder_9 : decode cL_holder 9 = .ok (.lastore, 1) := by decide +kernel
theorem dL_holder_10 : decode cL_holder 10 = .ok (.goto 11, 3) := by decide +kernel
theorem dL_holder_13 : decode cL_holder 13 = .ok (.astore 4, 2) := by decide +kernel
theorem dL_holder_15 : decode cL_holder 15 = .ok (.iconst 1, 1) := by decide +kernel
theorem dL_holder_16 : decode cL_holder 16 = .ok (.ireturn, 1) := by decide +kernel
theorem dL_holder_17 : decode cL_holder 17 = .ok (.astore 4, 2) := by decide +kernel
theorem dL_holder_19 : decode cL_holder 19 = .ok (.iconst 2, 1) := by decide +kernel
theorem dL_holder_20 : decode cL_holder 20 = .ok (.ireturn, 1) := by decide +kernel
theorem dL_holder_21 : decode cL_holder 21 = .ok (.iconst 0, 1) := by decide +kernel
theorem dL_holder_22 : decode cL_holder 22 = .ok (.ireturn, 1) := by decide +kernel
theorem dL_clash_0 : decode cL_clash 0 = .ok (.aload_n 2, 1) := by decide +kernel
theorem dL_clash_1 : decode cL_clash 1 = .ok (.iconst 0, 1) := by decide +kernel
theorem dL_clash_2 : decode cL_clash 2 = .ok (.aload_n 0, 1) := by decide +kernel
theorem dL_clash_3 : decode cL_clash 3 = .ok (.iload_n 1, 1) := by decide +kernel
theorem dL_clash_4 : decode cL_clash 4 = .ok (.invokevirtual 30, 3) := by decide +kernel
theorem dL_clash_7 : decode cL_clash 7 = .ok (.i2l, 1) := by decide +kernel
theorem dL_clash_8 : decode cL_clash 8 = .ok (.lastore, 1) := by decide +kernel
theorem dL_clash_9 : decode cL_clash 9 = .ok (.goto 6, 3) := by decide +kernel
theorem dL_clash_12 : decode cL_clash 12 = .ok (.astore_n 3, 1) := by decide +kernel
theorem dL_clash_13 : decode cL_clash 13 = .ok (.iconst 1, 1) := by decide +kernel
theorem dL_clash_14 : decode cL_clash 14 = .ok (.ireturn, 1) := by decide +kernel
theorem dL_clash_15 : decode cL_clash 15 = .ok (.iconst 0, 1) := by decide +kernel
theorem dL_clash_16 : decode cL_clash 16 = .ok (.ireturn, 1) := by decide +kernel
theorem dL_plans_0 : decode cL_plans 0 = .ok (.aload_n 2, 1) := by decide +kernel
theorem dL_plans_1 : decode cL_plans 1 = .ok (.iconst 0, 1) := by decide +kernel
theorem dL_plans_2 : decode cL_plans 2 = .ok (.aload_n 0, 1) := by decide +kernel
theorem dL_plans_3 : decode cL_plans 3 = .ok (.iload_n 1, 1) := by decide +kernel
theorem dL_plans_4 : decode cL_plans 4 = .ok (.invokevirtual 33, 3) := by decide +kernel
theorem dL_plans_7 : decode cL_plans 7 = .ok (.i2l, 1) := by decide +kernel
theorem dL_plans_8 : decode cL_plans 8 = .ok (.lastore, 1) := by decide +kernel
theorem dL_plans_9 : decode cL_plans 9 = .ok (.goto 6, 3) := by decide +kernel
theorem dL_plans_12 : decode cL_plans 12 = .ok (.astore_n 3, 1) := by decide +kernel
theorem dL_plans_13 : decode cL_plans 13 = .ok (.iconst 1, 1) := by decide +kernel
theorem dL_plans_14 : decode cL_plans 14 = .ok (.ireturn, 1) := by decide +kernel
theorem dL_plans_15 : decode cL_plans 15 = .ok (.iconst 0, 1) := by decide +kernel
theorem dL_plans_16 : decode cL_plans 16 = .ok (.ireturn, 1) := by decide +kernel
theorem dL_rule_0 : decode cL_rule 0 = .ok (.aload_n 3, 1) := by decide +kernel
theorem dL_rule_1 : decode cL_rule 1 = .ok (.iconst 0, 1) := by decide +kernel
theorem dL_rule_2 : decode cL_rule 2 = .ok (.aload_n 0, 1) := by decide +kernel
theorem dL_rule_3 : decode cL_rule 3 = .ok (.iload_n 1, 1) := by decide +kernel
theorem dL_rule_4 : decode cL_rule 4 = .ok (.iload_n 2, 1) := by decide +kernel
theorem dL_rule_5 : decode cL_rule 5 = .ok (.invokevirtual 36, 3) := by decide +kernel
theorem dL_rule_8 : decode cL_rule 8 = .ok (.i2l, 1) := by decide +kernel
theorem dL_rule_9 : decode cL_rule 9 = .ok (.lastore, 1) := by decide +kernel
theorem dL_rule_10 : decode cL_rule 10 = .ok (.goto 7, 3) := by decide +kernel
theorem dL_rule_13 : decode cL_rule 13 = .ok (.astore 4, 2) := by decide +kernel
theorem dL_rule_15 : decode cL_rule 15 = .ok (.iconst 1, 1) := by decide +kernel
theorem dL_rule_16 : decode cL_rule 16 = .ok (.ireturn, 1) := by decide +kernel
theorem dL_rule_17 : decode cL_rule 17 = .ok (.iconst 0, 1) := by decide +kernel
theorem dL_rule_18 : decode cL_rule 18 = .ok (.ireturn, 1) := by decide +kernel
theorem dL_decides_0 : decode cL_decides 0 = .ok (.aload 4, 2) := by decide +kernel
theorem dL_decides_2 : decode cL_decides 2 = .ok (.iconst 0, 1) := by decide +kernel
theorem dL_decides_3 : decode cL_decides 3 = .ok (.aload_n 0, 1) := by decide +kernel
theorem dL_decides_4 : decode cL_decides 4 = .ok (.iload_n 1, 1) := by decide +kernel
theorem dL_decides_5 : decode cL_decides 5 = .ok (.iload_n 2, 1) := by decide +kernel
theorem dL_decides_6 : decode cL_decides 6 = .ok (.iload_n 3, 1) := by decide +kernel
theorem dL_decides_7 : decode cL_decides 7 = .ok (.invokevirtual 39, 3) := by decide +kernel
theorem dL_decides_10 : decode cL_decides 10 = .ok (.i2l, 1) := by decide +kernel
theorem dL_decides_11 : decode cL_decides 11 = .ok (.lastore, 1) := by decide +kernel
theorem dL_decides_12 : decode cL_decides 12 = .ok (.goto 11, 3) := by decide +kernel
theorem dL_decides_15 : decode cL_decides 15 = .ok (.astore 5, 2) := by decide +kernel
theorem dL_decides_17 : decode cL_decides 17 = .ok (.iconst 1, 1) := by decide +kernel
theorem dL_decides_18 : decode cL_decides 18 = .ok (.ireturn, 1) := by decide +kernel
theorem dL_decides_19 : decode cL_decides 19 = .ok (.astore 5, 2) := by decide +kernel
theorem dL_decides_21 : decode cL_decides 21 = .ok (.iconst 2, 1) := by decide +kernel
theorem dL_decides_22 : decode cL_decides 22 = .ok (.ireturn, 1) := by decide +kernel
theorem dL_decides_23 : decode cL_decides 23 = .ok (.iconst 0, 1) := by decide +kernel
theorem dL_decides_24 : decode cL_decides 24 = .ok (.ireturn, 1) := by decide +kernel
theorem dL_allows_0 : decode cL_allows 0 = .ok (.aload 4, 2) := by decide +kernel
theorem dL_allows_2 : decode cL_allows 2 = .ok (.iconst 0, 1) := by decide +kernel
theorem dL_allows_3 : decode cL_allows 3 = .ok (.aload_n 0, 1) := by decide +kernel
theorem dL_allows_4 : decode cL_allows 4 = .ok (.iload_n 1, 1) := by decide +kernel
theorem dL_allows_5 : decode cL_allows 5 = .ok (.iload_n 2, 1) := by decide +kernel
theorem dL_allows_6 : decode cL_allows 6 = .ok (.iload_n 3, 1) := by decide +kernel
theorem dL_allows_7 : decode cL_allows 7 = .ok (.invokevirtual 43, 3) := by decide +kernel
theorem dL_allows_10 : decode cL_allows 10 = .ok (.ifCond .eq 7, 3) := by decide +kernel
theorem dL_allows_13 : decode cL_allows 13 = .ok (.lconst 1, 1) := by decide +kernel
theorem dL_allows_14 : decode cL_allows 14 = .ok (.goto 4, 3) := by decide +kernel
theorem dL_allows_17 : decode cL_allows 17 = .ok (.lconst 0, 1) := by decide +kernel
theorem dL_allows_18 : decode cL_allows 18 = .ok (.lastore, 1) := by decide +kernel
theorem dL_allows_19 : decode cL_allows 19 = .ok (.goto 11, 3) := by decide +kernel
theorem dL_allows_22 : decode cL_allows 22 = .ok (.astore 5, 2) := by decide +kernel
theorem dL_allows_24 : decode cL_allows 24 = .ok (.iconst 1, 1) := by decide +kernel
theorem dL_allows_25 : decode cL_allows 25 = .ok (.ireturn, 1) := by decide +kernel
theorem dL_allows_26 : decode cL_allows 26 = .ok (.astore 5, 2) := by decide +kernel
theorem dL_allows_28 : decode cL_allows 28 = .ok (.iconst 2, 1) := by decide +kernel
theorem dL_allows_29 : decode cL_allows 29 = .ok (.ireturn, 1) := by decide +kernel
theorem dL_allows_30 : decode cL_allows 30 = .ok (.iconst 0, 1) := by decide +kernel
theorem dL_allows_31 : decode cL_allows 31 = .ok (.ireturn, 1) := by decide +kernel
theorem dL_reach_0 : decode cL_reach 0 = .ok (.aload_n 2, 1) := by decide +kernel
theorem dL_reach_1 : decode cL_reach 1 = .ok (.iconst 0, 1) := by decide +kernel
theorem dL_reach_2 : decode cL_reach 2 = .ok (.aload_n 0, 1) := by decide +kernel
theorem dL_reach_3 : decode cL_reach 3 = .ok (.iload_n 1, 1) := by decide +kernel
theorem dL_reach_4 : decode cL_reach 4 = .ok (.invokevirtual 47, 3) := by decide +kernel
theorem dL_reach_7 : decode cL_reach 7 = .ok (.i2l, 1) := by decide +kernel
theorem dL_reach_8 : decode cL_reach 8 = .ok (.lastore, 1) := by decide +kernel
theorem dL_reach_9 : decode cL_reach 9 = .ok (.goto 6, 3) := by decide +kernel
theorem dL_reach_12 : decode cL_reach 12 = .ok (.astore_n 3, 1) := by decide +kernel
theorem dL_reach_13 : decode cL_reach 13 = .ok (.iconst 1, 1) := by decide +kernel
theorem dL_reach_14 : decode cL_reach 14 = .ok (.ireturn, 1) := by decide +kernel
theorem dL_reach_15 : decode cL_reach 15 = .ok (.iconst 0, 1) := by decide +kernel
theorem dL_reach_16 : decode cL_reach 16 = .ok (.ireturn, 1) := by decide +kernel
theorem dL_clashesIn_0 : decode cL_clashesIn 0 = .ok (.aload_n 2, 1) := by decide +kernel
theorem dL_clashesIn_1 : decode cL_clashesIn 1 = .ok (.iconst 0, 1) := by decide +kernel
theorem dL_clashesIn_2 : decode cL_clashesIn 2 = .ok (.aload_n 0, 1) := by decide +kernel
theorem dL_clashesIn_3 : decode cL_clashesIn 3 = .ok (.iload_n 1, 1) := by decide +kernel
theorem dL_clashesIn_4 : decode cL_clashesIn 4 = .ok (.invokevirtual 50, 3) := by decide +kernel
theorem dL_clashesIn_7 : decode cL_clashesIn 7 = .ok (.i2l, 1) := by decide +kernel
theorem dL_clashesIn_8 : decode cL_clashesIn 8 = .ok (.lastore, 1) := by decide +kernel
theorem dL_clashesIn_9 : decode cL_clashesIn 9 = .ok (.goto 6, 3) := by decide +kernel
theorem dL_clashesIn_12 : decode cL_clashesIn 12 = .ok (.astore_n 3, 1) := by decide +kernel
theorem dL_clashesIn_13 : decode cL_clashesIn 13 = .ok (.iconst 1, 1) := by decide +kernel
theorem dL_clashesIn_14 : decode cL_clashesIn 14 = .ok (.ireturn, 1) := by decide +kernel
theorem dL_clashesIn_15 : decode cL_clashesIn 15 = .ok (.iconst 0, 1) := by decide +kernel
theorem dL_clashesIn_16 : decode cL_clashesIn 16 = .ok (.ireturn, 1) := by decide +kernel
theorem dL_addHost_0 : decode cL_addHost 0 = .ok (.aload_n 3, 1) := by decide +kernel
theorem dL_addHost_1 : decode cL_addHost 1 = .ok (.iconst 0, 1) := by decide +kernel
theorem dL_addHost_2 : decode cL_addHost 2 = .ok (.aload_n 0, 1) := by decide +kernel
theorem dL_addHost_3 : decode cL_addHost 3 = .ok (.iload_n 1, 1) := by decide +kernel
theorem dL_addHost_4 : decode cL_addHost 4 = .ok (.iload_n 2, 1) := by decide +kernel
theorem dL_addHost_5 : decode cL_addHost 5 = .ok (.invokevirtual 53, 3) := by decide +kernel
theorem dL_addHost_8 : decode cL_addHost 8 = .ok (.i2l, 1) := by decide +kernel
theorem dL_addHost_9 : decode cL_addHost 9 = .ok (.lastore, 1) := by decide +kernel
theorem dL_addHost_10 : decode cL_addHost 10 = .ok (.goto 11, 3) := by decide +kernel
theorem dL_addHost_13 : decode cL_addHost 13 = .ok (.astore 4, 2) := by decide +kernel
theorem dL_addHost_15 : decode cL_addHost 15 = .ok (.iconst 1, 1) := by decide +kernel
theorem dL_addHost_16 : decode cL_addHost 16 = .ok (.ireturn, 1) := by decide +kernel
theorem dL_addHost_17 : decode cL_addHost 17 = .ok (.astore 4, 2) := by decide +kernel
theorem dL_addHost_19 : decode cL_addHost 19 = .ok (.iconst 2, 1) := by decide +kernel
theorem dL_addHost_20 : decode cL_addHost 20 = .ok (.ireturn, 1) := by decide +kernel
theorem dL_addHost_21 : decode cL_addHost 21 = .ok (.iconst 0, 1) := by decide +kernel
theorem dL_addHost_22 : decode cL_addHost 22 = .ok (.ireturn, 1) := by decide +kernel
theorem dL_removeHost_0 : decode cL_removeHost 0 = .ok (.aload_n 2, 1) := by decide +kernel
theorem dL_removeHost_1 : decode cL_removeHost 1 = .ok (.iconst 0, 1) := by decide +kernel
theorem dL_removeHost_2 : decode cL_removeHost 2 = .ok (.aload_n 0, 1) := by decide +kernel
theorem dL_removeHost_3 : decode cL_removeHost 3 = .ok (.iload_n 1, 1) := by decide +kernel
theorem dL_removeHost_4 : decode cL_removeHost 4 = .ok (.invokevirtual 56, 3) := by decide +kernel
theorem dL_removeHost_7 : decode cL_removeHost 7 = .ok (.i2l, 1) := by decide +kernel
theorem dL_removeHost_8 : decode cL_removeHost 8 = .ok (.lastore, 1) := by decide +kernel
theorem dL_removeHost_9 : decode cL_removeHost 9 = .ok (.goto 6, 3) := by decide +kernel
theorem dL_removeHost_12 : decode cL_removeHost 12 = .ok (.astore_n 3, 1) := by decide +kernel
theorem dL_removeHost_13 : decode cL_removeHost 13 = .ok (.iconst 1, 1) := by decide +kernel
theorem dL_removeHost_14 : decode cL_removeHost 14 = .ok (.ireturn, 1) := by decide +kernel
theorem dL_removeHost_15 : decode cL_removeHost 15 = .ok (.iconst 0, 1) := by decide +kernel
theorem dL_removeHost_16 : decode cL_removeHost 16 = .ok (.ireturn, 1) := by decide +kernel
theorem dL_plan_0 : decode cL_plan 0 = .ok (.aload 4, 2) := by decide +kernel
theorem dL_plan_2 : decode cL_plan 2 = .ok (.iconst 0, 1) := by decide +kernel
theorem dL_plan_3 : decode cL_plan 3 = .ok (.aload_n 0, 1) := by decide +kernel
theorem dL_plan_4 : decode cL_plan 4 = .ok (.iload_n 1, 1) := by decide +kernel
theorem dL_plan_5 : decode cL_plan 5 = .ok (.iload_n 2, 1) := by decide +kernel
theorem dL_plan_6 : decode cL_plan 6 = .ok (.iload_n 3, 1) := by decide +kernel
theorem dL_plan_7 : decode cL_plan 7 = .ok (.invokevirtual 59, 3) := by decide +kernel
theorem dL_plan_10 : decode cL_plan 10 = .ok (.i2l, 1) := by decide +kernel
theorem dL_plan_11 : decode cL_plan 11 = .ok (.lastore, 1) := by decide +kernel
theorem dL_plan_12 : decode cL_plan 12 = .ok (.goto 11, 3) := by decide +kernel
theorem dL_plan_15 : decode cL_plan 15 = .ok (.astore 5, 2) := by decide +kernel
theorem dL_plan_17 : decode cL_plan 17 = .ok (.iconst 1, 1) := by decide +kernel
theorem dL_plan_18 : decode cL_plan 18 = .ok (.ireturn, 1) := by decide +kernel
theorem dL_plan_19 : decode cL_plan 19 = .ok (.astore 5, 2) := by decide +kernel
theorem dL_plan_21 : decode cL_plan 21 = .ok (.iconst 2, 1) := by decide +kernel
theorem dL_plan_22 : decode cL_plan 22 = .ok (.ireturn, 1) := by decide +kernel
theorem dL_plan_23 : decode cL_plan 23 = .ok (.iconst 0, 1) := by decide +kernel
theorem dL_plan_24 : decode cL_plan 24 = .ok (.ireturn, 1) := by decide +kernel
theorem dL_unplan_0 : decode cL_unplan 0 = .ok (.aload_n 2, 1) := by decide +kernel
theorem dL_unplan_1 : decode cL_unplan 1 = .ok (.iconst 0, 1) := by decide +kernel
theorem dL_unplan_2 : decode cL_unplan 2 = .ok (.aload_n 0, 1) := by decide +kernel
theorem dL_unplan_3 : decode cL_unplan 3 = .ok (.iload_n 1, 1) := by decide +kernel
theorem dL_unplan_4 : decode cL_unplan 4 = .ok (.invokevirtual 62, 3) := by decide +kernel
theorem dL_unplan_7 : decode cL_unplan 7 = .ok (.i2l, 1) := by decide +kernel
theorem dL_unplan_8 : decode cL_unplan 8 = .ok (.lastore, 1) := by decide +kernel
theorem dL_unplan_9 : decode cL_unplan 9 = .ok (.goto 6, 3) := by decide +kernel
theorem dL_unplan_12 : decode cL_unplan 12 = .ok (.astore_n 3, 1) := by decide +kernel
theorem dL_unplan_13 : decode cL_unplan 13 = .ok (.iconst 1, 1) := by decide +kernel
theorem dL_unplan_14 : decode cL_unplan 14 = .ok (.ireturn, 1) := by decide +kernel
theorem dL_unplan_15 : decode cL_unplan 15 = .ok (.iconst 0, 1) := by decide +kernel
theorem dL_unplan_16 : decode cL_unplan 16 = .ok (.ireturn, 1) := by decide +kernel
theorem dL_addRule_0 : decode cL_addRule 0 = .ok (.aload 5, 2) := by decide +kernel
theorem dL_addRule_2 : decode cL_addRule 2 = .ok (.iconst 0, 1) := by decide +kernel
theorem dL_addRule_3 : decode cL_addRule 3 = .ok (.aload_n 0, 1) := by decide +kernel
theorem dL_addRule_4 : decode cL_addRule 4 = .ok (.iload_n 1, 1) := by decide +kernel
theorem dL_addRule_5 : decode cL_addRule 5 = .ok (.iload_n 2, 1) := by decide +kernel
theorem dL_addRule_6 : decode cL_addRule 6 = .ok (.iload_n 3, 1) := by decide +kernel
theorem dL_addRule_7 : decode cL_addRule 7 = .ok (.iload 4, 2) := by decide +kernel
theorem dL_addRule_9 : decode cL_addRule 9 = .ok (.invokevirtual 65, 3) := by decide +kernel
theorem dL_addRule_12 : decode cL_addRule 12 = .ok (.i2l, 1) := by decide +kernel
theorem dL_addRule_13 : decode cL_addRule 13 = .ok (.lastore, 1) := by decide +kernel
theorem dL_addRule_14 : decode cL_addRule 14 = .ok (.goto 11, 3) := by decide +kernel
theorem dL_addRule_17 : decode cL_addRule 17 = .ok (.astore 6, 2) := by decide +kernel
theorem dL_addRule_19 : decode cL_addRule 19 = .ok (.iconst 1, 1) := by decide +kernel
theorem dL_addRule_20 : decode cL_addRule 20 = .ok (.ireturn, 1) := by decide +kernel
theorem dL_addRule_21 : decode cL_addRule 21 = .ok (.astore 6, 2) := by decide +kernel
theorem dL_addRule_23 : decode cL_addRule 23 = .ok (.iconst 2, 1) := by decide +kernel
theorem dL_addRule_24 : decode cL_addRule 24 = .ok (.ireturn, 1) := by decide +kernel
theorem dL_addRule_25 : decode cL_addRule 25 = .ok (.iconst 0, 1) := by decide +kernel
theorem dL_addRule_26 : decode cL_addRule 26 = .ok (.ireturn, 1) := by decide +kernel
theorem dL_removeRule_0 : decode cL_removeRule 0 = .ok (.aload_n 2, 1) := by decide +kernel
theorem dL_removeRule_1 : decode cL_removeRule 1 = .ok (.iconst 0, 1) := by decide +kernel
theorem dL_removeRule_2 : decode cL_removeRule 2 = .ok (.aload_n 0, 1) := by decide +kernel
theorem dL_removeRule_3 : decode cL_removeRule 3 = .ok (.iload_n 1, 1) := by decide +kernel
theorem dL_removeRule_4 : decode cL_removeRule 4 = .ok (.invokevirtual 69, 3) := by decide +kernel
theorem dL_removeRule_7 : decode cL_removeRule 7 = .ok (.i2l, 1) := by decide +kernel
theorem dL_removeRule_8 : decode cL_removeRule 8 = .ok (.lastore, 1) := by decide +kernel
theorem dL_removeRule_9 : decode cL_removeRule 9 = .ok (.goto 6, 3) := by decide +kernel
theorem dL_removeRule_12 : decode cL_removeRule 12 = .ok (.astore_n 3, 1) := by decide +kernel
theorem dL_removeRule_13 : decode cL_removeRule 13 = .ok (.iconst 1, 1) := by decide +kernel
theorem dL_removeRule_14 : decode cL_removeRule 14 = .ok (.ireturn, 1) := by decide +kernel
theorem dL_removeRule_15 : decode cL_removeRule 15 = .ok (.iconst 0, 1) := by decide +kernel
theorem dL_removeRule_16 : decode cL_removeRule 16 = .ok (.ireturn, 1) := by decide +kernel
theorem dL_setKeep_0 : decode cL_setKeep 0 = .ok (.aload_n 2, 1) := by decide +kernel
theorem dL_setKeep_1 : decode cL_setKeep 1 = .ok (.iconst 0, 1) := by decide +kernel
theorem dL_setKeep_2 : decode cL_setKeep 2 = .ok (.aload_n 0, 1) := by decide +kernel
theorem dL_setKeep_3 : decode cL_setKeep 3 = .ok (.iload_n 1, 1) := by decide +kernel
theorem dL_setKeep_4 : decode cL_setKeep 4 = .ok (.invokevirtual 72, 3) := by decide +kernel
theorem dL_setKeep_7 : decode cL_setKeep 7 = .ok (.i2l, 1) := by decide +kernel
theorem dL_setKeep_8 : decode cL_setKeep 8 = .ok (.lastore, 1) := by decide +kernel
theorem dL_setKeep_9 : decode cL_setKeep 9 = .ok (.goto 6, 3) := by decide +kernel
theorem dL_setKeep_12 : decode cL_setKeep 12 = .ok (.astore_n 3, 1) := by decide +kernel
theorem dL_setKeep_13 : decode cL_setKeep 13 = .ok (.iconst 1, 1) := by decide +kernel
theorem dL_setKeep_14 : decode cL_setKeep 14 = .ok (.ireturn, 1) := by decide +kernel
theorem dL_setKeep_15 : decode cL_setKeep 15 = .ok (.iconst 0, 1) := by decide +kernel
theorem dL_setKeep_16 : decode cL_setKeep 16 = .ok (.ireturn, 1) := by decide +kernel
theorem dL_setPinned_0 : decode cL_setPinned 0 = .ok (.aload_n 3, 1) := by decide +kernel
theorem dL_setPinned_1 : decode cL_setPinned 1 = .ok (.iconst 0, 1) := by decide +kernel
theorem dL_setPinned_2 : decode cL_setPinned 2 = .ok (.aload_n 0, 1) := by decide +kernel
theorem dL_setPinned_3 : decode cL_setPinned 3 = .ok (.iload_n 1, 1) := by decide +kernel
theorem dL_setPinned_4 : decode cL_setPinned 4 = .ok (.iload_n 2, 1) := by decide +kernel
theorem dL_setPinned_5 : decode cL_setPinned 5 = .ok (.invokevirtual 75, 3) := by decide +kernel
theorem dL_setPinned_8 : decode cL_setPinned 8 = .ok (.i2l, 1) := by decide +kernel
theorem dL_setPinned_9 : decode cL_setPinned 9 = .ok (.lastore, 1) := by decide +kernel
theorem dL_setPinned_10 : decode cL_setPinned 10 = .ok (.goto 7, 3) := by decide +kernel
theorem dL_setPinned_13 : decode cL_setPinned 13 = .ok (.astore 4, 2) := by decide +kernel
theorem dL_setPinned_15 : decode cL_setPinned 15 = .ok (.iconst 1, 1) := by decide +kernel
theorem dL_setPinned_16 : decode cL_setPinned 16 = .ok (.ireturn, 1) := by decide +kernel
theorem dL_setPinned_17 : decode cL_setPinned 17 = .ok (.iconst 0, 1) := by decide +kernel
theorem dL_setPinned_18 : decode cL_setPinned 18 = .ok (.ireturn, 1) := by decide +kernel
theorem dL_format_0 : decode cL_format 0 = .ok (.aload_n 2, 1) := by decide +kernel
theorem dL_format_1 : decode cL_format 1 = .ok (.iconst 0, 1) := by decide +kernel
theorem dL_format_2 : decode cL_format 2 = .ok (.aload_n 0, 1) := by decide +kernel
theorem dL_format_3 : decode cL_format 3 = .ok (.iload_n 1, 1) := by decide +kernel
theorem dL_format_4 : decode cL_format 4 = .ok (.invokevirtual 79, 3) := by decide +kernel
theorem dL_format_7 : decode cL_format 7 = .ok (.i2l, 1) := by decide +kernel
theorem dL_format_8 : decode cL_format 8 = .ok (.lastore, 1) := by decide +kernel
theorem dL_format_9 : decode cL_format 9 = .ok (.goto 6, 3) := by decide +kernel
theorem dL_format_12 : decode cL_format 12 = .ok (.astore_n 3, 1) := by decide +kernel
theorem dL_format_13 : decode cL_format 13 = .ok (.iconst 1, 1) := by decide +kernel
theorem dL_format_14 : decode cL_format 14 = .ok (.ireturn, 1) := by decide +kernel
theorem dL_format_15 : decode cL_format 15 = .ok (.iconst 0, 1) := by decide +kernel
theorem dL_format_16 : decode cL_format 16 = .ok (.ireturn, 1) := by decide +kernel
theorem dL_query_0 : decode cL_query 0 = .ok (.aload_n 2, 1) := by decide +kernel
theorem dL_query_1 : decode cL_query 1 = .ok (.iconst 0, 1) := by decide +kernel
theorem dL_query_2 : decode cL_query 2 = .ok (.aload_n 0, 1) := by decide +kernel
theorem dL_query_3 : decode cL_query 3 = .ok (.iload_n 1, 1) := by decide +kernel
theorem dL_query_4 : decode cL_query 4 = .ok (.invokevirtual 82, 3) := by decide +kernel
theorem dL_query_7 : decode cL_query 7 = .ok (.i2l, 1) := by decide +kernel
theorem dL_query_8 : decode cL_query 8 = .ok (.lastore, 1) := by decide +kernel
theorem dL_query_9 : decode cL_query 9 = .ok (.goto 6, 3) := by decide +kernel
theorem dL_query_12 : decode cL_query 12 = .ok (.astore_n 3, 1) := by decide +kernel
theorem dL_query_13 : decode cL_query 13 = .ok (.iconst 1, 1) := by decide +kernel
theorem dL_query_14 : decode cL_query 14 = .ok (.ireturn, 1) := by decide +kernel
theorem dL_query_15 : decode cL_query 15 = .ok (.iconst 0, 1) := by decide +kernel
theorem dL_query_16 : decode cL_query 16 = .ok (.ireturn, 1) := by decide +kernel
theorem dL_law_0 : decode cL_law 0 = .ok (.new 8, 3) := by decide +kernel
theorem dL_law_3 : decode cL_law 3 = .ok (.dup, 1) := by decide +kernel
theorem dL_law_4 : decode cL_law 4 = .ok (.invokespecial 85, 3) := by decide +kernel
theorem dL_law_7 : decode cL_law 7 = .ok (.astore_n 1, 1) := by decide +kernel
theorem dL_law_8 : decode cL_law 8 = .ok (.new 86, 3) := by decide +kernel
theorem dL_law_11 : decode cL_law 11 = .ok (.dup, 1) := by decide +kernel
theorem dL_law_12 : decode cL_law 12 = .ok (.invokespecial 88, 3) := by decide +kernel
theorem dL_law_15 : decode cL_law 15 = .ok (.astore_n 2, 1) := by decide +kernel
theorem dL_law_16 : decode cL_law 16 = .ok (.iconst 1, 1) := by decide +kernel
theorem dL_law_17 : decode cL_law 17 = .ok (.newarray .long, 2) := by decide +kernel
theorem dL_law_19 : decode cL_law 19 = .ok (.astore_n 3, 1) := by decide +kernel
theorem dL_law_20 : decode cL_law 20 = .ok (.iconst 0, 1) := by decide +kernel
theorem dL_law_21 : decode cL_law 21 = .ok (.istore 4, 2) := by decide +kernel
theorem dL_law_23 : decode cL_law 23 = .ok (.iload 4, 2) := by decide +kernel
theorem dL_law_25 : decode cL_law 25 = .ok (.aload_n 0, 1) := by decide +kernel
theorem dL_law_26 : decode cL_law 26 = .ok (.arraylength, 1) := by decide +kernel
theorem dL_law_27 : decode cL_law 27 = .ok (.bipush 6, 2) := by decide +kernel
theorem dL_law_29 : decode cL_law 29 = .ok (.isub, 1) := by decide +kernel
theorem dL_law_30 : decode cL_law 30 = .ok (.if_icmp .gt 2022, 3) := by decide +kernel
theorem dL_law_33 : decode cL_law 33 = .ok (.aload_n 0, 1) := by decide +kernel
theorem dL_law_34 : decode cL_law 34 = .ok (.iload 4, 2) := by decide +kernel
theorem dL_law_36 : decode cL_law 36 = .ok (.iaload, 1) := by decide +kernel
theorem dL_law_37 : decode cL_law 37 = .ok (.bipush 63, 2) := by decide +kernel
theorem dL_law_39 : decode cL_law 39 = .ok (.iand, 1) := by decide +kernel
theorem dL_law_40 : decode cL_law 40 = .ok (.tableswitch 2006 0 40 #[180, 253, 309, 322, 378, 446, 514, 582, 638, 694, 762, 842, 929, 985, 998, 1011, 1024, 1037, 1093, 1106, 1149, 1190, 1258, 1314, 1394, 1450, 1463, 1476, 1489, 1502, 1515, 1623, 1679, 1735, 1819, 1875, 1900, 1913, 1926, 1937, 1950], 180) := by decide +kernel
theorem dL_law_220 : decode cL_law 220 = .ok (.aload_n 1, 1) := by decide +kernel
theorem dL_law_221 : decode cL_law 221 = .ok (.aload_n 0, 1) := by decide +kernel
theorem dL_law_222 : decode cL_law 222 = .ok (.iload 4, 2) := by decide +kernel
theorem dL_law_224 : decode cL_law 224 = .ok (.iconst 1, 1) := by decide +kernel
theorem dL_law_225 : decode cL_law 225 = .ok (.iadd, 1) := by decide +kernel
theorem dL_law_226 : decode cL_law 226 = .ok (.iaload, 1) := by decide +kernel
theorem dL_law_227 : decode cL_law 227 = .ok (.aload_n 0, 1) := by decide +kernel
theorem dL_law_228 : decode cL_law 228 = .ok (.iload 4, 2) := by decide +kernel
theorem dL_law_230 : decode cL_law 230 = .ok (.iconst 2, 1) := by decide +kernel
theorem dL_law_231 : decode cL_law 231 = .ok (.iadd, 1) := by decide +kernel
theorem dL_law_232 : decode cL_law 232 = .ok (.iaload, 1) := by decide +kernel
theorem dL_law_233 : decode cL_law 233 = .ok (.aload_n 0, 1) := by decide +kernel
theorem dL_law_234 : decode cL_law 234 = .ok (.iload 4, 2) := by decide +kernel
theorem dL_law_236 : decode cL_law 236 = .ok (.iconst 3, 1) := by decide +kernel
theorem dL_law_237 : decode cL_law 237 = .ok (.iadd, 1) := by decide +kernel
theorem dL_law_238 : decode cL_law 238 = .ok (.iaload, 1) := by decide +kernel
theorem dL_law_239 : decode cL_law 239 = .ok (.aload_n 0, 1) := by decide +kernel
theorem dL_law_240 : decode cL_law 240 = .ok (.iload 4, 2) := by decide +kernel
theorem dL_law_242 : decode cL_law 242 = .ok (.iconst 4, 1) := by decide +kernel
theorem dL_law_243 : decode cL_law 243 = .ok (.iadd, 1) := by decide +kernel
theorem dL_law_244 : decode cL_law 244 = .ok (.iaload, 1) := by decide +kernel
theorem dL_law_245 : decode cL_law 245 = .ok (.aload_n 0, 1) := by decide +kernel
theorem dL_law_246 : decode cL_law 246 = .ok (.iload 4, 2) := by decide +kernel
theorem dL_law_248 : decode cL_law 248 = .ok (.iconst 5, 1) := by decide +kernel
theorem dL_law_249 : decode cL_law 249 = .ok (.iadd, 1) := by decide +kernel
theorem dL_law_250 : decode cL_law 250 = .ok (.iaload, 1) := by decide +kernel
theorem dL_law_251 : decode cL_law 251 = .ok (.invokevirtual 89, 3) := by decide +kernel
theorem dL_law_254 : decode cL_law 254 = .ok (.aload_n 2, 1) := by decide +kernel
theorem dL_law_255 : decode cL_law 255 = .ok (.aload_n 0, 1) := by decide +kernel
theorem dL_law_256 : decode cL_law 256 = .ok (.iload 4, 2) := by decide +kernel
theorem dL_law_258 : decode cL_law 258 = .ok (.iconst 1, 1) := by decide +kernel
theorem dL_law_259 : decode cL_law 259 = .ok (.iadd, 1) := by decide +kernel
theorem dL_law_260 : decode cL_law 260 = .ok (.iaload, 1) := by decide +kernel
theorem dL_law_261 : decode cL_law 261 = .ok (.aload_n 0, 1) := by decide +kernel
theorem dL_law_262 : decode cL_law 262 = .ok (.iload 4, 2) := by decide +kernel
theorem dL_law_264 : decode cL_law 264 = .ok (.iconst 2, 1) := by decide +kernel
theorem dL_law_265 : decode cL_law 265 = .ok (.iadd, 1) := by decide +kernel
theorem dL_law_266 : decode cL_law 266 = .ok (.iaload, 1) := by decide +kernel
theorem dL_law_267 : decode cL_law 267 = .ok (.aload_n 0, 1) := by decide +kernel
theorem dL_law_268 : decode cL_law 268 = .ok (.iload 4, 2) := by decide +kernel
theorem dL_law_270 : decode cL_law 270 = .ok (.iconst 3, 1) := by decide +kernel
theorem dL_law_271 : decode cL_law 271 = .ok (.iadd, 1) := by decide +kernel
theorem dL_law_272 : decode cL_law 272 = .ok (.iaload, 1) := by decide +kernel
theorem dL_law_273 : decode cL_law 273 = .ok (.aload_n 0, 1) := by decide +kernel
theorem dL_law_274 : decode cL_law 274 = .ok (.iload 4, 2) := by decide +kernel
theorem dL_law_276 : decode cL_law 276 = .ok (.iconst 4, 1) := by decide +kernel
theorem dL_law_277 : decode cL_law 277 = .ok (.iadd, 1) := by decide +kernel
theorem dL_law_278 : decode cL_law 278 = .ok (.iaload, 1) := by decide +kernel
theorem dL_law_279 : decode cL_law 279 = .ok (.aload_n 0, 1) := by decide +kernel
theorem dL_law_280 : decode cL_law 280 = .ok (.iload 4, 2) := by decide +kernel
theorem dL_law_282 : decode cL_law 282 = .ok (.iconst 5, 1) := by decide +kernel
theorem dL_law_283 : decode cL_law 283 = .ok (.iadd, 1) := by decide +kernel
theorem dL_law_284 : decode cL_law 284 = .ok (.iaload, 1) := by decide +kernel
theorem dL_law_285 : decode cL_law 285 = .ok (.invokevirtual 93, 3) := by decide +kernel
theorem dL_law_288 : decode cL_law 288 = .ok (.if_icmp .eq 1758, 3) := by decide +kernel
theorem dL_law_291 : decode cL_law 291 = .ok (.iconst 0, 1) := by decide +kernel
theorem dL_law_292 : decode cL_law 292 = .ok (.ireturn, 1) := by decide +kernel
theorem dL_law_293 : decode cL_law 293 = .ok (.aload_n 1, 1) := by decide +kernel
theorem dL_law_294 : decode cL_law 294 = .ok (.aload_n 0, 1) := by decide +kernel
theorem dL_law_295 : decode cL_law 295 = .ok (.iload 4, 2) := by decide +kernel
theorem dL_law_297 : decode cL_law 297 = .ok (.iconst 1, 1) := by decide +kernel
theorem dL_law_298 : decode cL_law 298 = .ok (.iadd, 1) := by decide +kernel
theorem dL_law_299 : decode cL_law 299 = .ok (.iaload, 1) := by decide +kernel
theorem dL_law_300 : decode cL_law 300 = .ok (.aload_n 3, 1) := by decide +kernel
theorem dL_law_301 : decode cL_law 301 = .ok (.invokestatic 94, 3) := by decide +kernel
theorem dL_law_304 : decode cL_law 304 = .ok (.istore 5, 2) := by decide +kernel
theorem dL_law_306 : decode cL_law 306 = .ok (.aload_n 2, 1) := by decide +kernel
theorem dL_law_307 : decode cL_law 307 = .ok (.aload_n 0, 1) := by decide +kernel
theorem dL_law_308 : decode cL_law 308 = .ok (.iload 4, 2) := by decide +kernel
theorem dL_law_310 : decode cL_law 310 = .ok (.iconst 1, 1) := by decide +kernel
theorem dL_law_311 : decode cL_law 311 = .ok (.iadd, 1) := by decide +kernel
theorem dL_law_312 : decode cL_law 312 = .ok (.iaload, 1) := by decide +kernel
theorem dL_law_313 : decode cL_law 313 = .ok (.invokevirtual 99, 3) := by decide +kernel
theorem dL_law_316 : decode cL_law 316 = .ok (.istore 6, 2) := by decide +kernel
theorem dL_law_318 : decode cL_law 318 = .ok (.aload_n 2, 1) := by decide +kernel
theorem dL_law_319 : decode cL_law 319 = .ok (.invokevirtual 100, 3) := by decide +kernel
theorem dL_law_322 : decode cL_law 322 = .ok (.iload 5, 2) := by decide +kernel
theorem dL_law_324 : decode cL_law 324 = .ok (.if_icmp .eq 5, 3) := by decide +kernel
theorem dL_law_327 : decode cL_law 327 = .ok (.iconst 0, 1) := by decide +kernel
theorem dL_law_328 : decode cL_law 328 = .ok (.ireturn, 1) := by decide +kernel
theorem dL_law_329 : decode cL_law 329 = .ok (.iload 5, 2) := by decide +kernel
theorem dL_law_331 : decode cL_law 331 = .ok (.ifCond .ne 15, 3) := by decide +kernel
theorem dL_law_334 : decode cL_law 334 = .ok (.aload_n 3, 1) := by decide +kernel
theorem dL_law_335 : decode cL_law 335 = .ok (.iconst 0, 1) := by decide +kernel
theorem dL_law_336 : decode cL_law 336 = .ok (.laload, 1) := by decide +kernel
theorem dL_law_337 : decode cL_law 337 = .ok (.iload 6, 2) := by decide +kernel
theorem dL_law_339 : decode cL_law 339 = .ok (.i2l, 1) := by decide +kernel
theorem dL_law_340 : decode cL_law 340 = .ok (.lcmp, 1) := by decide +kernel
theorem dL_law_341 : decode cL_law 341 = .ok (.ifCond .eq 5, 3) := by decide +kernel
theorem dL_law_344 : decode cL_law 344 = .ok (.iconst 0, 1) := by decide +kernel
theorem dL_law_345 : decode cL_law 345 = .ok (.ireturn, 1) := by decide +kernel
theorem dL_law_346 : decode cL_law 346 = .ok (.goto 1700, 3) := by decide +kernel
theorem dL_law_349 : decode cL_law 349 = .ok (.aload_n 1, 1) := by decide +kernel
theorem dL_law_350 : decode cL_law 350 = .ok (.invokevirtual 104, 3) := by decide +kernel
theorem dL_law_353 : decode cL_law 353 = .ok (.aload_n 2, 1) := by decide +kernel
theorem dL_law_354 : decode cL_law 354 = .ok (.invokevirtual 107, 3) := by decide +kernel
theorem dL_law_357 : decode cL_law 357 = .ok (.if_icmp .eq 1689, 3) := by decide +kernel
theorem dL_law_360 : decode cL_law 360 = .ok (.iconst 0, 1) := by decide +kernel
theorem dL_law_361 : decode cL_law 361 = .ok (.ireturn, 1) := by decide +kernel
theorem dL_law_362 : decode cL_law 362 = .ok (.aload_n 1, 1) := by decide +kernel
theorem dL_law_363 : decode cL_law 363 = .ok (.aload_n 0, 1) := by decide +kernel
theorem dL_law_364 : decode cL_law 364 = .ok (.iload 4, 2) := by decide +kernel
theorem dL_law_366 : decode cL_law 366 = .ok (.iconst 1, 1) := by decide +kernel
theorem dL_law_367 : decode cL_law 367 = .ok (.iadd, 1) := by decide +kernel
theorem dL_law_368 : decode cL_law 368 = .ok (.iaload, 1) := by decide +kernel
theorem dL_law_369 : decode cL_law 369 = .ok (.aload_n 3, 1) := by decide +kernel
theorem dL_law_370 : decode cL_law 370 = .ok (.invokestatic 108, 3) := by decide +kernel
theorem dL_law_373 : decode cL_law 373 = .ok (.istore 5, 2) := by decide +kernel
theorem dL_law_375 : decode cL_law 375 = .ok (.aload_n 2, 1) := by decide +kernel
theorem dL_law_376 : decode cL_law 376 = .ok (.aload_n 0, 1) := by decide +kernel
theorem dL_law_377 : decode cL_law 377 = .ok (.iload 4, 2) := by decide +kernel
theorem dL_law_379 : decode cL_law 379 = .ok (.iconst 1, 1) := by decide +kernel
theorem dL_law_380 : decode cL_law 380 = .ok (.iadd, 1) := by decide +kernel
theorem dL_law_381 : decode cL_law 381 = .ok (.iaload, 1) := by decide +kernel
theorem dL_law_382 : decode cL_law 382 = .ok (.invokevirtual 110, 3) := by decide +kernel
theorem dL_law_385 : decode cL_law 385 = .ok (.istore 6, 2) := by decide +kernel
theorem dL_law_387 : decode cL_law 387 = .ok (.aload_n 2, 1) := by decide +kernel
theorem dL_law_388 : decode cL_law 388 = .ok (.invokevirtual 100, 3) := by decide +kernel
theorem dL_law_391 : decode cL_law 391 = .ok (.iload 5, 2) := by decide +kernel
theorem dL_law_393 : decode cL_law 393 = .ok (.if_icmp .eq 5, 3) := by decide +kernel
theorem dL_law_396 : decode cL_law 396 = .ok (.iconst 0, 1) := by decide +kernel
theorem dL_law_397 : decode cL_law 397 = .ok (.ireturn, 1) := by decide +kernel
theorem dL_law_398 : decode cL_law 398 = .ok (.iload 5, 2) := by decide +kernel
theorem dL_law_400 : decode cL_law 400 = .ok (.ifCond .ne 15, 3) := by decide +kernel
theorem dL_law_403 : decode cL_law 403 = .ok (.aload_n 3, 1) := by decide +kernel
theorem dL_law_404 : decode cL_law 404 = .ok (.iconst 0, 1) := by decide +kernel
theorem dL_law_405 : decode cL_law 405 = .ok (.laload, 1) := by decide +kernel
theorem dL_law_406 : decode cL_law 406 = .ok (.iload 6, 2) := by decide +kernel
theorem dL_law_408 : decode cL_law 408 = .ok (.i2l, 1) := by decide +kernel
theorem dL_law_409 : decode cL_law 409 = .ok (.lcmp, 1) := by decide +kernel
theorem dL_law_410 : decode cL_law 410 = .ok (.ifCond .eq 5, 3) := by decide +kernel
theorem dL_law_413 : decode cL_law 413 = .ok (.iconst 0, 1) := by decide +kernel
theorem dL_law_414 : decode cL_law 414 = .ok (.ireturn, 1) := by decide +kernel
theorem dL_law_415 : decode cL_law 415 = .ok (.goto 1631, 3) := by decide +kernel
theorem dL_law_418 : decode cL_law 418 = .ok (.aload_n 1, 1) := by decide +kernel
theorem dL_law_419 : decode cL_law 419 = .ok (.aload_n 0, 1) := by decide +kernel
theorem dL_law_420 : decode cL_law 420 = .ok (.iload 4, 2) := by decide +kernel
theorem dL_law_422 : decode cL_law 422 = .ok (.iconst 1, 1) := by decide +kernel
theorem dL_law_423 : decode cL_law 423 = .ok (.iadd, 1) := by decide +kernel
theorem dL_law_424 : decode cL_law 424 = .ok (.iaload, 1) := by decide +kernel
theorem dL_law_425 : decode cL_law 425 = .ok (.aload_n 0, 1) := by decide +kernel
theorem dL_law_426 : decode cL_law 426 = .ok (.iload 4, 2) := by decide +kernel
theorem dL_law_428 : decode cL_law 428 = .ok (.iconst 2, 1) := by decide +kernel
theorem dL_law_429 : decode cL_law 429 = .ok (.iadd, 1) := by decide +kernel
theorem dL_law_430 : decode cL_law 430 = .ok (.iaload, 1) := by decide +kernel
theorem dL_law_431 : decode cL_law 431 = .ok (.aload_n 3, 1) := by decide +kernel
theorem dL_law_432 : decode cL_law 432 = .ok (.invokestatic 111, 3) := by decide +kernel
theorem dL_law_435 : decode cL_law 435 = .ok (.istore 5, 2) := by decide +kernel
theorem dL_law_437 : decode cL_law 437 = .ok (.aload_n 2, 1) := by decide +kernel
theorem dL_law_438 : decode cL_law 438 = .ok (.aload_n 0, 1) := by decide +kernel
theorem dL_law_439 : decode cL_law 439 = .ok (.iload 4, 2) := by decide +kernel
theorem dL_law_441 : decode cL_law 441 = .ok (.iconst 1, 1) := by decide +kernel
theorem dL_law_442 : decode cL_law 442 = .ok (.iadd, 1) := by decide +kernel
theorem dL_law_443 : decode cL_law 443 = .ok (.iaload, 1) := by decide +kernel
theorem dL_law_444 : decode cL_law 444 = .ok (.aload_n 0, 1) := by decide +kernel
theorem dL_law_445 : decode cL_law 445 = .ok (.iload 4, 2) := by decide +kernel
theorem dL_law_447 : decode cL_law 447 = .ok (.iconst 2, 1) := by decide +kernel
theorem dL_law_448 : decode cL_law 448 = .ok (.iadd, 1) := by decide +kernel
theorem dL_law_449 : decode cL_law 449 = .ok (.iaload, 1) := by decide +kernel
theorem dL_law_450 : decode cL_law 450 = .ok (.invokevirtual 114, 3) := by decide +kernel
theorem dL_law_453 : decode cL_law 453 = .ok (.istore 6, 2) := by decide +kernel
theorem dL_law_455 : decode cL_law 455 = .ok (.aload_n 2, 1) := by decide +kernel
theorem dL_law_456 : decode cL_law 456 = .ok (.invokevirtual 100, 3) := by decide +kernel
theorem dL_law_459 : decode cL_law 459 = .ok (.iload 5, 2) := by decide +kernel
theorem dL_law_461 : decode cL_law 461 = .ok (.if_icmp .eq 5, 3) := by decide +kernel
theorem dL_law_464 : decode cL_law 464 = .ok (.iconst 0, 1) := by decide +kernel
theorem dL_law_465 : decode cL_law 465 = .ok (.ireturn, 1) := by decide +kernel
theorem dL_law_466 : decode cL_law 466 = .ok (.iload 5, 2) := by decide +kernel
theorem dL_law_468 : decode cL_law 468 = .ok (.ifCond .ne 15, 3) := by decide +kernel
theorem dL_law_471 : decode cL_law 471 = .ok (.aload_n 3, 1) := by decide +kernel
theorem dL_law_472 : decode cL_law 472 = .ok (.iconst 0, 1) := by decide +kernel
theorem dL_law_473 : decode cL_law 473 = .ok (.laload, 1) := by decide +kernel
theorem dL_law_474 : decode cL_law 474 = .ok (.iload 6, 2) := by decide +kernel
theorem dL_law_476 : decode cL_law 476 = .ok (.i2l, 1) := by decide +kernel
theorem dL_law_477 : decode cL_law 477 = .ok (.lcmp, 1) := by decide +kernel
theorem dL_law_478 : decode cL_law 478 = .ok (.ifCond .eq 5, 3) := by decide +kernel
theorem dL_law_481 : decode cL_law 481 = .ok (.iconst 0, 1) := by decide +kernel
theorem dL_law_482 : decode cL_law 482 = .ok (.ireturn, 1) := by decide +kernel
theorem dL_law_483 : decode cL_law 483 = .ok (.goto 1563, 3) := by decide +kernel
theorem dL_law_486 : decode cL_law 486 = .ok (.aload_n 1, 1) := by decide +kernel
theorem dL_law_487 : decode cL_law 487 = .ok (.aload_n 0, 1) := by decide +kernel
theorem dL_law_488 : decode cL_law 488 = .ok (.iload 4, 2) := by decide +kernel
theorem dL_law_490 : decode cL_law 490 = .ok (.iconst 1, 1) := by decide +kernel
theorem dL_law_491 : decode cL_law 491 = .ok (.iadd, 1) := by decide +kernel
theorem dL_law_492 : decode cL_law 492 = .ok (.iaload, 1) := by decide +kernel
theorem dL_law_493 : decode cL_law 493 = .ok (.aload_n 0, 1) := by decide +kernel
theorem dL_law_494 : decode cL_law 494 = .ok (.iload 4, 2) := by decide +kernel
theorem dL_law_496 : decode cL_law 496 = .ok (.iconst 2, 1) := by decide +kernel
theorem dL_law_497 : decode cL_law 497 = .ok (.iadd, 1) := by decide +kernel
theorem dL_law_498 : decode cL_law 498 = .ok (.iaload, 1) := by decide +kernel
theorem dL_law_499 : decode cL_law 499 = .ok (.aload_n 3, 1) := by decide +kernel
theorem dL_law_500 : decode cL_law 500 = .ok (.invokestatic 115, 3) := by decide +kernel
theorem dL_law_503 : decode cL_law 503 = .ok (.istore 5, 2) := by decide +kernel
theorem dL_law_505 : decode cL_law 505 = .ok (.aload_n 2, 1) := by decide +kernel
theorem dL_law_506 : decode cL_law 506 = .ok (.aload_n 0, 1) := by decide +kernel
theorem dL_law_507 : decode cL_law 507 = .ok (.iload 4, 2) := by decide +kernel
theorem dL_law_509 : decode cL_law 509 = .ok (.iconst 1, 1) := by decide +kernel
theorem dL_law_510 : decode cL_law 510 = .ok (.iadd, 1) := by decide +kernel
theorem dL_law_511 : decode cL_law 511 = .ok (.iaload, 1) := by decide +kernel
theorem dL_law_512 : decode cL_law 512 = .ok (.aload_n 0, 1) := by decide +kernel
theorem dL_law_513 : decode cL_law 513 = .ok (.iload 4, 2) := by decide +kernel
theorem dL_law_515 : decode cL_law 515 = .ok (.iconst 2, 1) := by decide +kernel
theorem dL_law_516 : decode cL_law 516 = .ok (.iadd, 1) := by decide +kernel
theorem dL_law_517 : decode cL_law 517 = .ok (.iaload, 1) := by decide +kernel
theorem dL_law_518 : decode cL_law 518 = .ok (.invokevirtual 117, 3) := by decide +kernel
theorem dL_law_521 : decode cL_law 521 = .ok (.istore 6, 2) := by decide +kernel
theorem dL_law_523 : decode cL_law 523 = .ok (.aload_n 2, 1) := by decide +kernel
theorem dL_law_524 : decode cL_law 524 = .ok (.invokevirtual 100, 3) := by decide +kernel
theorem dL_law_527 : decode cL_law 527 = .ok (.iload 5, 2) := by decide +kernel
theorem dL_law_529 : decode cL_law 529 = .ok (.if_icmp .eq 5, 3) := by decide +kernel
theorem dL_law_532 : decode cL_law 532 = .ok (.iconst 0, 1) := by decide +kernel
theorem dL_law_533 : decode cL_law 533 = .ok (.ireturn, 1) := by decide +kernel
theorem dL_law_534 : decode cL_law 534 = .ok (.iload 5, 2) := by decide +kernel
theorem dL_law_536 : decode cL_law 536 = .ok (.ifCond .ne 15, 3) := by decide +kernel
theorem dL_law_539 : decode cL_law 539 = .ok (.aload_n 3, 1) := by decide +kernel
theorem dL_law_540 : decode cL_law 540 = .ok (.iconst 0, 1) := by decide +kernel
theorem dL_law_541 : decode cL_law 541 = .ok (.laload, 1) := by decide +kernel
theorem dL_law_542 : decode cL_law 542 = .ok (.iload 6, 2) := by decide +kernel
theorem dL_law_544 : decode cL_law 544 = .ok (.i2l, 1) := by decide +kernel
theorem dL_law_545 : decode cL_law 545 = .ok (.lcmp, 1) := by decide +kernel
theorem dL_law_546 : decode cL_law 546 = .ok (.ifCond .eq 5, 3) := by decide +kernel
theorem dL_law_549 : decode cL_law 549 = .ok (.iconst 0, 1) := by decide +kernel
theorem dL_law_550 : decode cL_law 550 = .ok (.ireturn, 1) := by decide +kernel
theorem dL_law_551 : decode cL_law 551 = .ok (.goto 1495, 3) := by decide +kernel
theorem dL_law_554 : decode cL_law 554 = .ok (.aload_n 1, 1) := by decide +kernel
theorem dL_law_555 : decode cL_law 555 = .ok (.aload_n 0, 1) := by decide +kernel
theorem dL_law_556 : decode cL_law 556 = .ok (.iload 4, 2) := by decide +kernel
theorem dL_law_558 : decode cL_law 558 = .ok (.iconst 1, 1) := by decide +kernel
theorem dL_law_559 : decode cL_law 559 = .ok (.iadd, 1) := by decide +kernel
theorem dL_law_560 : decode cL_law 560 = .ok (.iaload, 1) := by decide +kernel
theorem dL_law_561 : decode cL_law 561 = .ok (.aload_n 0, 1) := by decide +kernel
theorem dL_law_562 : decode cL_law 562 = .ok (.iload 4, 2) := by decide +kernel
theorem dL_law_564 : decode cL_law 564 = .ok (.iconst 2, 1) := by decide +kernel
theorem dL_law_565 : decode cL_law 565 = .ok (.iadd, 1) := by decide +kernel
theorem dL_law_566 : decode cL_law 566 = .ok (.iaload, 1) := by decide +kernel
theorem dL_law_567 : decode cL_law 567 = .ok (.aload_n 3, 1) := by decide +kernel
theorem dL_law_568 : decode cL_law 568 = .ok (.invokestatic 118, 3) := by decide +kernel
theorem dL_law_571 : decode cL_law 571 = .ok (.istore 5, 2) := by decide +kernel
theorem dL_law_573 : decode cL_law 573 = .ok (.aload_n 2, 1) := by decide +kernel
theorem dL_law_574 : decode cL_law 574 = .ok (.aload_n 0, 1) := by decide +kernel
theorem dL_law_575 : decode cL_law 575 = .ok (.iload 4, 2) := by decide +kernel
theorem dL_law_577 : decode cL_law 577 = .ok (.iconst 1, 1) := by decide +kernel
theorem dL_law_578 : decode cL_law 578 = .ok (.iadd, 1) := by decide +kernel
theorem dL_law_579 : decode cL_law 579 = .ok (.iaload, 1) := by decide +kernel
theorem dL_law_580 : decode cL_law 580 = .ok (.aload_n 0, 1) := by decide +kernel
theorem dL_law_581 : decode cL_law 581 = .ok (.iload 4, 2) := by decide +kernel
theorem dL_law_583 : decode cL_law 583 = .ok (.iconst 2, 1) := by decide +kernel
theorem dL_law_584 : decode cL_law 584 = .ok (.iadd, 1) := by decide +kernel
theorem dL_law_585 : decode cL_law 585 = .ok (.iaload, 1) := by decide +kernel
theorem dL_law_586 : decode cL_law 586 = .ok (.invokevirtual 120, 3) := by decide +kernel
theorem dL_law_589 : decode cL_law 589 = .ok (.istore 6, 2) := by decide +kernel
theorem dL_law_591 : decode cL_law 591 = .ok (.aload_n 2, 1) := by decide +kernel
theorem dL_law_592 : decode cL_law 592 = .ok (.invokevirtual 100, 3) := by decide +kernel
theorem dL_law_595 : decode cL_law 595 = .ok (.iload 5, 2) := by decide +kernel
theorem dL_law_597 : decode cL_law 597 = .ok (.if_icmp .eq 5, 3) := by decide +kernel
theorem dL_law_600 : decode cL_law 600 = .ok (.iconst 0, 1) := by decide +kernel
theorem dL_law_601 : decode cL_law 601 = .ok (.ireturn, 1) := by decide +kernel
theorem dL_law_602 : decode cL_law 602 = .ok (.iload 5, 2) := by decide +kernel
theorem dL_law_604 : decode cL_law 604 = .ok (.ifCond .ne 15, 3) := by decide +kernel
theorem dL_law_607 : decode cL_law 607 = .ok (.aload_n 3, 1) := by decide +kernel
theorem dL_law_608 : decode cL_law 608 = .ok (.iconst 0, 1) := by decide +kernel
theorem dL_law_609 : decode cL_law 609 = .ok (.laload, 1) := by decide +kernel
theorem dL_law_610 : decode cL_law 610 = .ok (.iload 6, 2) := by decide +kernel
theorem dL_law_612 : decode cL_law 612 = .ok (.i2l, 1) := by decide +kernel
theorem dL_law_613 : decode cL_law 613 = .ok (.lcmp, 1) := by decide +kernel
theorem dL_law_614 : decode cL_law 614 = .ok (.ifCond .eq 5, 3) := by decide +kernel
theorem dL_law_617 : decode cL_law 617 = .ok (.iconst 0, 1) := by decide +kernel
theorem dL_law_618 : decode cL_law 618 = .ok (.ireturn, 1) := by decide +kernel
theorem dL_law_619 : decode cL_law 619 = .ok (.goto 1427, 3) := by decide +kernel
theorem dL_law_622 : decode cL_law 622 = .ok (.aload_n 1, 1) := by decide +kernel
theorem dL_law_623 : decode cL_law 623 = .ok (.aload_n 0, 1) := by decide +kernel
theorem dL_law_624 : decode cL_law 624 = .ok (.iload 4, 2) := by decide +kernel
theorem dL_law_626 : decode cL_law 626 = .ok (.iconst 1, 1) := by decide +kernel
theorem dL_law_627 : decode cL_law 627 = .ok (.iadd, 1) := by decide +kernel
theorem dL_law_628 : decode cL_law 628 = .ok (.iaload, 1) := by decide +kernel
theorem dL_law_629 : decode cL_law 629 = .ok (.aload_n 3, 1) := by decide +kernel
theorem dL_law_630 : decode cL_law 630 = .ok (.invokestatic 121, 3) := by decide +kernel
theorem dL_law_633 : decode cL_law 633 = .ok (.istore 5, 2) := by decide +kernel
theorem dL_law_635 : decode cL_law 635 = .ok (.aload_n 2, 1) := by decide +kernel
theorem dL_law_636 : decode cL_law 636 = .ok (.aload_n 0, 1) := by decide +kernel
theorem dL_law_637 : decode cL_law 637 = .ok (.iload 4, 2) := by decide +kernel
theorem dL_law_639 : decode cL_law 639 = .ok (.iconst 1, 1) := by decide +kernel
theorem dL_law_640 : decode cL_law 640 = .ok (.iadd, 1) := by decide +kernel
theorem dL_law_641 : decode cL_law 641 = .ok (.iaload, 1) := by decide +kernel
theorem dL_law_642 : decode cL_law 642 = .ok (.invokevirtual 123, 3) := by decide +kernel
theorem dL_law_645 : decode cL_law 645 = .ok (.istore 6, 2) := by decide +kernel
theorem dL_law_647 : decode cL_law 647 = .ok (.aload_n 2, 1) := by decide +kernel
theorem dL_law_648 : decode cL_law 648 = .ok (.invokevirtual 100, 3) := by decide +kernel
theorem dL_law_651 : decode cL_law 651 = .ok (.iload 5, 2) := by decide +kernel
theorem dL_law_653 : decode cL_law 653 = .ok (.if_icmp .eq 5, 3) := by decide +kernel
theorem dL_law_656 : decode cL_law 656 = .ok (.iconst 0, 1) := by decide +kernel
theorem dL_law_657 : decode cL_law 657 = .ok (.ireturn, 1) := by decide +kernel
theorem dL_law_658 : decode cL_law 658 = .ok (.iload 5, 2) := by decide +kernel
theorem dL_law_660 : decode cL_law 660 = .ok (.ifCond .ne 15, 3) := by decide +kernel
theorem dL_law_663 : decode cL_law 663 = .ok (.aload_n 3, 1) := by decide +kernel
theorem dL_law_664 : decode cL_law 664 = .ok (.iconst 0, 1) := by decide +kernel
theorem dL_law_665 : decode cL_law 665 = .ok (.laload, 1) := by decide +kernel
theorem dL_law_666 : decode cL_law 666 = .ok (.iload 6, 2) := by decide +kernel
theorem dL_law_668 : decode cL_law 668 = .ok (.i2l, 1) := by decide +kernel
theorem dL_law_669 : decode cL_law 669 = .ok (.lcmp, 1) := by decide +kernel
theorem dL_law_670 : decode cL_law 670 = .ok (.ifCond .eq 5, 3) := by decide +kernel
theorem dL_law_673 : decode cL_law 673 = .ok (.iconst 0, 1) := by decide +kernel
theorem dL_law_674 : decode cL_law 674 = .ok (.ireturn, 1) := by decide +kernel
theorem dL_law_675 : decode cL_law 675 = .ok (.goto 1371, 3) := by decide +kernel
theorem dL_law_678 : decode cL_law 678 = .ok (.aload_n 1, 1) := by decide +kernel
theorem dL_law_679 : decode cL_law 679 = .ok (.aload_n 0, 1) := by decide +kernel
theorem dL_law_680 : decode cL_law 680 = .ok (.iload 4, 2) := by decide +kernel
theorem dL_law_682 : decode cL_law 682 = .ok (.iconst 1, 1) := by decide +kernel
theorem dL_law_683 : decode cL_law 683 = .ok (.iadd, 1) := by decide +kernel
theorem dL_law_684 : decode cL_law 684 = .ok (.iaload, 1) := by decide +kernel
theorem dL_law_685 : decode cL_law 685 = .ok (.aload_n 3, 1) := by decide +kernel
theorem dL_law_686 : decode cL_law 686 = .ok (.invokestatic 124, 3) := by decide +kernel
theorem dL_law_689 : decode cL_law 689 = .ok (.istore 5, 2) := by decide +kernel
theorem dL_law_691 : decode cL_law 691 = .ok (.aload_n 2, 1) := by decide +kernel
theorem dL_law_692 : decode cL_law 692 = .ok (.aload_n 0, 1) := by decide +kernel
theorem dL_law_693 : decode cL_law 693 = .ok (.iload 4, 2) := by decide +kernel
theorem dL_law_695 : decode cL_law 695 = .ok (.iconst 1, 1) := by decide +kernel
theorem dL_law_696 : decode cL_law 696 = .ok (.iadd, 1) := by decide +kernel
theorem dL_law_697 : decode cL_law 697 = .ok (.iaload, 1) := by decide +kernel
theorem dL_law_698 : decode cL_law 698 = .ok (.invokevirtual 126, 3) := by decide +kernel
theorem dL_law_701 : decode cL_law 701 = .ok (.istore 6, 2) := by decide +kernel
theorem dL_law_703 : decode cL_law 703 = .ok (.aload_n 2, 1) := by decide +kernel
theorem dL_law_704 : decode cL_law 704 = .ok (.invokevirtual 100, 3) := by decide +kernel
theorem dL_law_707 : decode cL_law 707 = .ok (.iload 5, 2) := by decide +kernel
theorem dL_law_709 : decode cL_law 709 = .ok (.if_icmp .eq 5, 3) := by decide +kernel
theorem dL_law_712 : decode cL_law 712 = .ok (.iconst 0, 1) := by decide +kernel
theorem dL_law_713 : decode cL_law 713 = .ok (.ireturn, 1) := by decide +kernel
theorem dL_law_714 : decode cL_law 714 = .ok (.iload 5, 2) := by decide +kernel
theorem dL_law_716 : decode cL_law 716 = .ok (.ifCond .ne 15, 3) := by decide +kernel
theorem dL_law_719 : decode cL_law 719 = .ok (.aload_n 3, 1) := by decide +kernel
theorem dL_law_720 : decode cL_law 720 = .ok (.iconst 0, 1) := by decide +kernel
theorem dL_law_721 : decode cL_law 721 = .ok (.laload, 1) := by decide +kernel
theorem dL_law_722 : decode cL_law 722 = .ok (.iload 6, 2) := by decide +kernel
theorem dL_law_724 : decode cL_law 724 = .ok (.i2l, 1) := by decide +kernel
theorem dL_law_725 : decode cL_law 725 = .ok (.lcmp, 1) := by decide +kernel
theorem dL_law_726 : decode cL_law 726 = .ok (.ifCond .eq 5, 3) := by decide +kernel
theorem dL_law_729 : decode cL_law 729 = .ok (.iconst 0, 1) := by decide +kernel
theorem dL_law_730 : decode cL_law 730 = .ok (.ireturn, 1) := by decide +kernel
theorem dL_law_731 : decode cL_law 731 = .ok (.goto 1315, 3) := by decide +kernel
theorem dL_law_734 : decode cL_law 734 = .ok (.aload_n 1, 1) := by decide +kernel
theorem dL_law_735 : decode cL_law 735 = .ok (.aload_n 0, 1) := by decide +kernel
theorem dL_law_736 : decode cL_law 736 = .ok (.iload 4, 2) := by decide +kernel
theorem dL_law_738 : decode cL_law 738 = .ok (.iconst 1, 1) := by decide +kernel
theorem dL_law_739 : decode cL_law 739 = .ok (.iadd, 1) := by decide +kernel
theorem dL_law_740 : decode cL_law 740 = .ok (.iaload, 1) := by decide +kernel
theorem dL_law_741 : decode cL_law 741 = .ok (.aload_n 0, 1) := by decide +kernel
theorem dL_law_742 : decode cL_law 742 = .ok (.iload 4, 2) := by decide +kernel
theorem dL_law_744 : decode cL_law 744 = .ok (.iconst 2, 1) := by decide +kernel
theorem dL_law_745 : decode cL_law 745 = .ok (.iadd, 1) := by decide +kernel
theorem dL_law_746 : decode cL_law 746 = .ok (.iaload, 1) := by decide +kernel
theorem dL_law_747 : decode cL_law 747 = .ok (.aload_n 3, 1) := by decide +kernel
theorem dL_law_748 : decode cL_law 748 = .ok (.invokestatic 127, 3) := by decide +kernel
theorem dL_law_751 : decode cL_law 751 = .ok (.istore 5, 2) := by decide +kernel
theorem dL_law_753 : decode cL_law 753 = .ok (.aload_n 2, 1) := by decide +kernel
theorem dL_law_754 : decode cL_law 754 = .ok (.aload_n 0, 1) := by decide +kernel
theorem dL_law_755 : decode cL_law 755 = .ok (.iload 4, 2) := by decide +kernel
theorem dL_law_757 : decode cL_law 757 = .ok (.iconst 1, 1) := by decide +kernel
theorem dL_law_758 : decode cL_law 758 = .ok (.iadd, 1) := by decide +kernel
theorem dL_law_759 : decode cL_law 759 = .ok (.iaload, 1) := by decide +kernel
theorem dL_law_760 : decode cL_law 760 = .ok (.aload_n 0, 1) := by decide +kernel
theorem dL_law_761 : decode cL_law 761 = .ok (.iload 4, 2) := by decide +kernel
theorem dL_law_763 : decode cL_law 763 = .ok (.iconst 2, 1) := by decide +kernel
theorem dL_law_764 : decode cL_law 764 = .ok (.iadd, 1) := by decide +kernel
theorem dL_law_765 : decode cL_law 765 = .ok (.iaload, 1) := by decide +kernel
theorem dL_law_766 : decode cL_law 766 = .ok (.invokevirtual 129, 3) := by decide +kernel
theorem dL_law_769 : decode cL_law 769 = .ok (.istore 6, 2) := by decide +kernel
theorem dL_law_771 : decode cL_law 771 = .ok (.aload_n 2, 1) := by decide +kernel
theorem dL_law_772 : decode cL_law 772 = .ok (.invokevirtual 100, 3) := by decide +kernel
theorem dL_law_775 : decode cL_law 775 = .ok (.iload 5, 2) := by decide +kernel
theorem dL_law_777 : decode cL_law 777 = .ok (.if_icmp .eq 5, 3) := by decide +kernel
theorem dL_law_780 : decode cL_law 780 = .ok (.iconst 0, 1) := by decide +kernel
theorem dL_law_781 : decode cL_law 781 = .ok (.ireturn, 1) := by decide +kernel
theorem dL_law_782 : decode cL_law 782 = .ok (.iload 5, 2) := by decide +kernel
theorem dL_law_784 : decode cL_law 784 = .ok (.ifCond .ne 15, 3) := by decide +kernel
theorem dL_law_787 : decode cL_law 787 = .ok (.aload_n 3, 1) := by decide +kernel
theorem dL_law_788 : decode cL_law 788 = .ok (.iconst 0, 1) := by decide +kernel
theorem dL_law_789 : decode cL_law 789 = .ok (.laload, 1) := by decide +kernel
theorem dL_law_790 : decode cL_law 790 = .ok (.iload 6, 2) := by decide +kernel
theorem dL_law_792 : decode cL_law 792 = .ok (.i2l, 1) := by decide +kernel
theorem dL_law_793 : decode cL_law 793 = .ok (.lcmp, 1) := by decide +kernel
theorem dL_law_794 : decode cL_law 794 = .ok (.ifCond .eq 5, 3) := by decide +kernel
theorem dL_law_797 : decode cL_law 797 = .ok (.iconst 0, 1) := by decide +kernel
theorem dL_law_798 : decode cL_law 798 = .ok (.ireturn, 1) := by decide +kernel
theorem dL_law_799 : decode cL_law 799 = .ok (.goto 1247, 3) := by decide +kernel
theorem dL_law_802 : decode cL_law 802 = .ok (.aload_n 1, 1) := by decide +kernel
theorem dL_law_803 : decode cL_law 803 = .ok (.aload_n 0, 1) := by decide +kernel
theorem dL_law_804 : decode cL_law 804 = .ok (.iload 4, 2) := by decide +kernel
theorem dL_law_806 : decode cL_law 806 = .ok (.iconst 1, 1) := by decide +kernel
theorem dL_law_807 : decode cL_law 807 = .ok (.iadd, 1) := by decide +kernel
theorem dL_law_808 : decode cL_law 808 = .ok (.iaload, 1) := by decide +kernel
theorem dL_law_809 : decode cL_law 809 = .ok (.aload_n 0, 1) := by decide +kernel
theorem dL_law_810 : decode cL_law 810 = .ok (.iload 4, 2) := by decide +kernel
theorem dL_law_812 : decode cL_law 812 = .ok (.iconst 2, 1) := by decide +kernel
theorem dL_law_813 : decode cL_law 813 = .ok (.iadd, 1) := by decide +kernel
theorem dL_law_814 : decode cL_law 814 = .ok (.iaload, 1) := by decide +kernel
theorem dL_law_815 : decode cL_law 815 = .ok (.aload_n 0, 1) := by decide +kernel
theorem dL_law_816 : decode cL_law 816 = .ok (.iload 4, 2) := by decide +kernel
theorem dL_law_818 : decode cL_law 818 = .ok (.iconst 3, 1) := by decide +kernel
theorem dL_law_819 : decode cL_law 819 = .ok (.iadd, 1) := by decide +kernel
theorem dL_law_820 : decode cL_law 820 = .ok (.iaload, 1) := by decide +kernel
theorem dL_law_821 : decode cL_law 821 = .ok (.aload_n 3, 1) := by decide +kernel
theorem dL_law_822 : decode cL_law 822 = .ok (.invokestatic 130, 3) := by decide +kernel
theorem dL_law_825 : decode cL_law 825 = .ok (.istore 5, 2) := by decide +kernel
theorem dL_law_827 : decode cL_law 827 = .ok (.aload_n 2, 1) := by decide +kernel
theorem dL_law_828 : decode cL_law 828 = .ok (.aload_n 0, 1) := by decide +kernel
theorem dL_law_829 : decode cL_law 829 = .ok (.iload 4, 2) := by decide +kernel
theorem dL_law_831 : decode cL_law 831 = .ok (.iconst 1, 1) := by decide +kernel
theorem dL_law_832 : decode cL_law 832 = .ok (.iadd, 1) := by decide +kernel
theorem dL_law_833 : decode cL_law 833 = .ok (.iaload, 1) := by decide +kernel
theorem dL_law_834 : decode cL_law 834 = .ok (.aload_n 0, 1) := by decide +kernel
theorem dL_law_835 : decode cL_law 835 = .ok (.iload 4, 2) := by decide +kernel
theorem dL_law_837 : decode cL_law 837 = .ok (.iconst 2, 1) := by decide +kernel
theorem dL_law_838 : decode cL_law 838 = .ok (.iadd, 1) := by decide +kernel
theorem dL_law_839 : decode cL_law 839 = .ok (.iaload, 1) := by decide +kernel
theorem dL_law_840 : decode cL_law 840 = .ok (.aload_n 0, 1) := by decide +kernel
theorem dL_law_841 : decode cL_law 841 = .ok (.iload 4, 2) := by decide +kernel
theorem dL_law_843 : decode cL_law 843 = .ok (.iconst 3, 1) := by decide +kernel
theorem dL_law_844 : decode cL_law 844 = .ok (.iadd, 1) := by decide +kernel
theorem dL_law_845 : decode cL_law 845 = .ok (.iaload, 1) := by decide +kernel
theorem dL_law_846 : decode cL_law 846 = .ok (.invokevirtual 133, 3) := by decide +kernel
theorem dL_law_849 : decode cL_law 849 = .ok (.istore 6, 2) := by decide +kernel
theorem dL_law_851 : decode cL_law 851 = .ok (.aload_n 2, 1) := by decide +kernel
theorem dL_law_852 : decode cL_law 852 = .ok (.invokevirtual 100, 3) := by decide +kernel
theorem dL_law_855 : decode cL_law 855 = .ok (.iload 5, 2) := by decide +kernel
theorem dL_law_857 : decode cL_law 857 = .ok (.if_icmp .eq 5, 3) := by decide +kernel
theorem dL_law_860 : decode cL_law 860 = .ok (.iconst 0, 1) := by decide +kernel
theorem dL_law_861 : decode cL_law 861 = .ok (.ireturn, 1) := by decide +kernel
theorem dL_law_862 : decode cL_law 862 = .ok (.iload 5, 2) := by decide +kernel
theorem dL_law_864 : decode cL_law 864 = .ok (.ifCond .ne 15, 3) := by decide +kernel
theorem dL_law_867 : decode cL_law 867 = .ok (.aload_n 3, 1) := by decide +kernel
theorem dL_law_868 : decode cL_law 868 = .ok (.iconst 0, 1) := by decide +kernel
theorem dL_law_869 : decode cL_law 869 = .ok (.laload, 1) := by decide +kernel
theorem dL_law_870 : decode cL_law 870 = .ok (.iload 6, 2) := by decide +kernel
theorem dL_law_872 : decode cL_law 872 = .ok (.i2l, 1) := by decide +kernel
theorem dL_law_873 : decode cL_law 873 = .ok (.lcmp, 1) := by decide +kernel
theorem dL_law_874 : decode cL_law 874 = .ok (.ifCond .eq 5, 3) := by decide +kernel
theorem dL_law_877 : decode cL_law 877 = .ok (.iconst 0, 1) := by decide +kernel
theorem dL_law_878 : decode cL_law 878 = .ok (.ireturn, 1) := by decide +kernel
theorem dL_law_879 : decode cL_law 879 = .ok (.goto 1167, 3) := by decide +kernel
theorem dL_law_882 : decode cL_law 882 = .ok (.aload_n 1, 1) := by decide +kernel
theorem dL_law_883 : decode cL_law 883 = .ok (.aload_n 0, 1) := by decide +kernel
theorem dL_law_884 : decode cL_law 884 = .ok (.iload 4, 2) := by decide +kernel
theorem dL_law_886 : decode cL_law 886 = .ok (.iconst 1, 1) := by decide +kernel
theorem dL_law_887 : decode cL_law 887 = .ok (.iadd, 1) := by decide +kernel
theorem dL_law_888 : decode cL_law 888 = .ok (.iaload, 1) := by decide +kernel
theorem dL_law_889 : decode cL_law 889 = .ok (.aload_n 0, 1) := by decide +kernel
theorem dL_law_890 : decode cL_law 890 = .ok (.iload 4, 2) := by decide +kernel
theorem dL_law_892 : decode cL_law 892 = .ok (.iconst 2, 1) := by decide +kernel
theorem dL_law_893 : decode cL_law 893 = .ok (.iadd, 1) := by decide +kernel
theorem dL_law_894 : decode cL_law 894 = .ok (.iaload, 1) := by decide +kernel
theorem dL_law_895 : decode cL_law 895 = .ok (.aload_n 0, 1) := by decide +kernel
theorem dL_law_896 : decode cL_law 896 = .ok (.iload 4, 2) := by decide +kernel
theorem dL_law_898 : decode cL_law 898 = .ok (.iconst 3, 1) := by decide +kernel
theorem dL_law_899 : decode cL_law 899 = .ok (.iadd, 1) := by decide +kernel
theorem dL_law_900 : decode cL_law 900 = .ok (.iaload, 1) := by decide +kernel
theorem dL_law_901 : decode cL_law 901 = .ok (.aload_n 3, 1) := by decide +kernel
theorem dL_law_902 : decode cL_law 902 = .ok (.invokestatic 134, 3) := by decide +kernel
theorem dL_law_905 : decode cL_law 905 = .ok (.istore 5, 2) := by decide +kernel
theorem dL_law_907 : decode cL_law 907 = .ok (.aload_n 2, 1) := by decide +kernel
theorem dL_law_908 : decode cL_law 908 = .ok (.aload_n 0, 1) := by decide +kernel
theorem dL_law_909 : decode cL_law 909 = .ok (.iload 4, 2) := by decide +kernel
theorem dL_law_911 : decode cL_law 911 = .ok (.iconst 1, 1) := by decide +kernel
theorem dL_law_912 : decode cL_law 912 = .ok (.iadd, 1) := by decide +kernel
theorem dL_law_913 : decode cL_law 913 = .ok (.iaload, 1) := by decide +kernel
theorem dL_law_914 : decode cL_law 914 = .ok (.aload_n 0, 1) := by decide +kernel
theorem dL_law_915 : decode cL_law 915 = .ok (.iload 4, 2) := by decide +kernel
theorem dL_law_917 : decode cL_law 917 = .ok (.iconst 2, 1) := by decide +kernel
theorem dL_law_918 : decode cL_law 918 = .ok (.iadd, 1) := by decide +kernel
theorem dL_law_919 : decode cL_law 919 = .ok (.iaload, 1) := by decide +kernel
theorem dL_law_920 : decode cL_law 920 = .ok (.aload_n 0, 1) := by decide +kernel
theorem dL_law_921 : decode cL_law 921 = .ok (.iload 4, 2) := by decide +kernel
theorem dL_law_923 : decode cL_law 923 = .ok (.iconst 3, 1) := by decide +kernel
theorem dL_law_924 : decode cL_law 924 = .ok (.iadd, 1) := by decide +kernel
theorem dL_law_925 : decode cL_law 925 = .ok (.iaload, 1) := by decide +kernel
theorem dL_law_926 : decode cL_law 926 = .ok (.invokevirtual 136, 3) := by decide +kernel
theorem dL_law_929 : decode cL_law 929 = .ok (.istore 6, 2) := by decide +kernel
theorem dL_law_931 : decode cL_law 931 = .ok (.aload_n 2, 1) := by decide +kernel
theorem dL_law_932 : decode cL_law 932 = .ok (.invokevirtual 100, 3) := by decide +kernel
theorem dL_law_935 : decode cL_law 935 = .ok (.iload 5, 2) := by decide +kernel
theorem dL_law_937 : decode cL_law 937 = .ok (.if_icmp .eq 5, 3) := by decide +kernel
theorem dL_law_940 : decode cL_law 940 = .ok (.iconst 0, 1) := by decide +kernel
theorem dL_law_941 : decode cL_law 941 = .ok (.ireturn, 1) := by decide +kernel
theorem dL_law_942 : decode cL_law 942 = .ok (.iload 5, 2) := by decide +kernel
theorem dL_law_944 : decode cL_law 944 = .ok (.ifCond .ne 22, 3) := by decide +kernel
theorem dL_law_947 : decode cL_law 947 = .ok (.aload_n 3, 1) := by decide +kernel
theorem dL_law_948 : decode cL_law 948 = .ok (.iconst 0, 1) := by decide +kernel
theorem dL_law_949 : decode cL_law 949 = .ok (.laload, 1) := by decide +kernel
theorem dL_law_950 : decode cL_law 950 = .ok (.iload 6, 2) := by decide +kernel
theorem dL_law_952 : decode cL_law 952 = .ok (.ifCond .eq 7, 3) := by decide +kernel
theorem dL_law_955 : decode cL_law 955 = .ok (.lconst 1, 1) := by decide +kernel
theorem dL_law_956 : decode cL_law 956 = .ok (.goto 4, 3) := by decide +kernel
theorem dL_law_959 : decode cL_law 959 = .ok (.lconst 0, 1) := by decide +kernel
theorem dL_law_960 : decode cL_law 960 = .ok (.lcmp, 1) := by decide +kernel
theorem dL_law_961 : decode cL_law 961 = .ok (.ifCond .eq 5, 3) := by decide +kernel
theorem dL_law_964 : decode cL_law 964 = .ok (.iconst 0, 1) := by decide +kernel
theorem dL_law_965 : decode cL_law 965 = .ok (.ireturn, 1) := by decide +kernel
theorem dL_law_966 : decode cL_law 966 = .ok (.goto 1080, 3) := by decide +kernel
theorem dL_law_969 : decode cL_law 969 = .ok (.aload_n 1, 1) := by decide +kernel
theorem dL_law_970 : decode cL_law 970 = .ok (.aload_n 0, 1) := by decide +kernel
theorem dL_law_971 : decode cL_law 971 = .ok (.iload 4, 2) := by decide +kernel
theorem dL_law_973 : decode cL_law 973 = .ok (.iconst 1, 1) := by decide +kernel
theorem dL_law_974 : decode cL_law 974 = .ok (.iadd, 1) := by decide +kernel
theorem dL_law_975 : decode cL_law 975 = .ok (.iaload, 1) := by decide +kernel
theorem dL_law_976 : decode cL_law 976 = .ok (.aload_n 3, 1) := by decide +kernel
theorem dL_law_977 : decode cL_law 977 = .ok (.invokestatic 137, 3) := by decide +kernel
theorem dL_law_980 : decode cL_law 980 = .ok (.istore 5, 2) := by decide +kernel
theorem dL_law_982 : decode cL_law 982 = .ok (.aload_n 2, 1) := by decide +kernel
theorem dL_law_983 : decode cL_law 983 = .ok (.aload_n 0, 1) := by decide +kernel
theorem dL_law_984 : decode cL_law 984 = .ok (.iload 4, 2) := by decide +kernel
theorem dL_law_986 : decode cL_law 986 = .ok (.iconst 1, 1) := by decide +kernel
theorem dL_law_987 : decode cL_law 987 = .ok (.iadd, 1) := by decide +kernel
theorem dL_law_988 : decode cL_law 988 = .ok (.iaload, 1) := by decide +kernel
theorem dL_law_989 : decode cL_law 989 = .ok (.invokevirtual 139, 3) := by decide +kernel
theorem dL_law_992 : decode cL_law 992 = .ok (.istore 6, 2) := by decide +kernel
theorem dL_law_994 : decode cL_law 994 = .ok (.aload_n 2, 1) := by decide +kernel
theorem dL_law_995 : decode cL_law 995 = .ok (.invokevirtual 100, 3) := by decide +kernel
theorem dL_law_998 : decode cL_law 998 = .ok (.iload 5, 2) := by decide +kernel
theorem dL_law_1000 : decode cL_law 1000 = .ok (.if_icmp .eq 5, 3) := by decide +kernel
theorem dL_law_1003 : decode cL_law 1003 = .ok (.iconst 0, 1) := by decide +kernel
theorem dL_law_1004 : decode cL_law 1004 = .ok (.ireturn, 1) := by decide +kernel
theorem dL_law_1005 : decode cL_law 1005 = .ok (.iload 5, 2) := by decide +kernel
theorem dL_law_1007 : decode cL_law 1007 = .ok (.ifCond .ne 15, 3) := by decide +kernel
theorem dL_law_1010 : decode cL_law 1010 = .ok (.aload_n 3, 1) := by decide +kernel
theorem dL_law_1011 : decode cL_law 1011 = .ok (.iconst 0, 1) := by decide +kernel
theorem dL_law_1012 : decode cL_law 1012 = .ok (.laload, 1) := by decide +kernel
theorem dL_law_1013 : decode cL_law 1013 = .ok (.iload 6, 2) := by decide +kernel
theorem dL_law_1015 : decode cL_law 1015 = .ok (.i2l, 1) := by decide +kernel
theorem dL_law_1016 : decode cL_law 1016 = .ok (.lcmp, 1) := by decide +kernel
theorem dL_law_1017 : decode cL_law 1017 = .ok (.ifCond .eq 5, 3) := by decide +kernel
theorem dL_law_1020 : decode cL_law 1020 = .ok (.iconst 0, 1) := by decide +kernel
theorem dL_law_1021 : decode cL_law 1021 = .ok (.ireturn, 1) := by decide +kernel
theorem dL_law_1022 : decode cL_law 1022 = .ok (.goto 1024, 3) := by decide +kernel
theorem dL_law_1025 : decode cL_law 1025 = .ok (.aload_n 1, 1) := by decide +kernel
theorem dL_law_1026 : decode cL_law 1026 = .ok (.invokevirtual 140, 3) := by decide +kernel
theorem dL_law_1029 : decode cL_law 1029 = .ok (.aload_n 2, 1) := by decide +kernel
theorem dL_law_1030 : decode cL_law 1030 = .ok (.invokevirtual 143, 3) := by decide +kernel
theorem dL_law_1033 : decode cL_law 1033 = .ok (.if_icmp .eq 1013, 3) := by decide +kernel
theorem dL_law_1036 : decode cL_law 1036 = .ok (.iconst 0, 1) := by decide +kernel
theorem dL_law_1037 : decode cL_law 1037 = .ok (.ireturn, 1) := by decide +kernel
theorem dL_law_1038 : decode cL_law 1038 = .ok (.aload_n 1, 1) := by decide +kernel
theorem dL_law_1039 : decode cL_law 1039 = .ok (.invokevirtual 144, 3) := by decide +kernel
theorem dL_law_1042 : decode cL_law 1042 = .ok (.aload_n 2, 1) := by decide +kernel
theorem dL_law_1043 : decode cL_law 1043 = .ok (.invokevirtual 147, 3) := by decide +kernel
theorem dL_law_1046 : decode cL_law 1046 = .ok (.if_icmp .eq 1000, 3) := by decide +kernel
theorem dL_law_1049 : decode cL_law 1049 = .ok (.iconst 0, 1) := by decide +kernel
theorem dL_law_1050 : decode cL_law 1050 = .ok (.ireturn, 1) := by decide +kernel
theorem dL_law_1051 : decode cL_law 1051 = .ok (.aload_n 1, 1) := by decide +kernel
theorem dL_law_1052 : decode cL_law 1052 = .ok (.invokevirtual 148, 3) := by decide +kernel
theorem dL_law_1055 : decode cL_law 1055 = .ok (.aload_n 2, 1) := by decide +kernel
theorem dL_law_1056 : decode cL_law 1056 = .ok (.invokevirtual 151, 3) := by decide +kernel
theorem dL_law_1059 : decode cL_law 1059 = .ok (.if_icmp .eq 987, 3) := by decide +kernel
theorem dL_law_1062 : decode cL_law 1062 = .ok (.iconst 0, 1) := by decide +kernel
theorem dL_law_1063 : decode cL_law 1063 = .ok (.ireturn, 1) := by decide +kernel
theorem dL_law_1064 : decode cL_law 1064 = .ok (.aload_n 1, 1) := by decide +kernel
theorem dL_law_1065 : decode cL_law 1065 = .ok (.invokevirtual 152, 3) := by decide +kernel
theorem dL_law_1068 : decode cL_law 1068 = .ok (.aload_n 2, 1) := by decide +kernel
theorem dL_law_1069 : decode cL_law 1069 = .ok (.invokevirtual 155, 3) := by decide +kernel
theorem dL_law_1072 : decode cL_law 1072 = .ok (.if_icmp .eq 974, 3) := by decide +kernel
theorem dL_law_1075 : decode cL_law 1075 = .ok (.iconst 0, 1) := by decide +kernel
theorem dL_law_1076 : decode cL_law 1076 = .ok (.ireturn, 1) := by decide +kernel
theorem dL_law_1077 : decode cL_law 1077 = .ok (.aload_n 1, 1) := by decide +kernel
theorem dL_law_1078 : decode cL_law 1078 = .ok (.aload_n 0, 1) := by decide +kernel
theorem dL_law_1079 : decode cL_law 1079 = .ok (.iload 4, 2) := by decide +kernel
theorem dL_law_1081 : decode cL_law 1081 = .ok (.iconst 1, 1) := by decide +kernel
theorem dL_law_1082 : decode cL_law 1082 = .ok (.iadd, 1) := by decide +kernel
theorem dL_law_1083 : decode cL_law 1083 = .ok (.iaload, 1) := by decide +kernel
theorem dL_law_1084 : decode cL_law 1084 = .ok (.aload_n 3, 1) := by decide +kernel
theorem dL_law_1085 : decode cL_law 1085 = .ok (.invokestatic 156, 3) := by decide +kernel
theorem dL_law_1088 : decode cL_law 1088 = .ok (.istore 5, 2) := by decide +kernel
theorem dL_law_1090 : decode cL_law 1090 = .ok (.aload_n 2, 1) := by decide +kernel
theorem dL_law_1091 : decode cL_law 1091 = .ok (.aload_n 0, 1) := by decide +kernel
theorem dL_law_1092 : decode cL_law 1092 = .ok (.iload 4, 2) := by decide +kernel
theorem dL_law_1094 : decode cL_law 1094 = .ok (.iconst 1, 1) := by decide +kernel
theorem dL_law_1095 : decode cL_law 1095 = .ok (.iadd, 1) := by decide +kernel
theorem dL_law_1096 : decode cL_law 1096 = .ok (.iaload, 1) := by decide +kernel
theorem dL_law_1097 : decode cL_law 1097 = .ok (.invokevirtual 158, 3) := by decide +kernel
theorem dL_law_1100 : decode cL_law 1100 = .ok (.istore 6, 2) := by decide +kernel
theorem dL_law_1102 : decode cL_law 1102 = .ok (.aload_n 2, 1) := by decide +kernel
theorem dL_law_1103 : decode cL_law 1103 = .ok (.invokevirtual 100, 3) := by decide +kernel
theorem dL_law_1106 : decode cL_law 1106 = .ok (.iload 5, 2) := by decide +kernel
theorem dL_law_1108 : decode cL_law 1108 = .ok (.if_icmp .eq 5, 3) := by decide +kernel
theorem dL_law_1111 : decode cL_law 1111 = .ok (.iconst 0, 1) := by decide +kernel
theorem dL_law_1112 : decode cL_law 1112 = .ok (.ireturn, 1) := by decide +kernel
theorem dL_law_1113 : decode cL_law 1113 = .ok (.iload 5, 2) := by decide +kernel
theorem dL_law_1115 : decode cL_law 1115 = .ok (.ifCond .ne 15, 3) := by decide +kernel
theorem dL_law_1118 : decode cL_law 1118 = .ok (.aload_n 3, 1) := by decide +kernel
theorem dL_law_1119 : decode cL_law 1119 = .ok (.iconst 0, 1) := by decide +kernel
theorem dL_law_1120 : decode cL_law 1120 = .ok (.laload, 1) := by decide +kernel
theorem dL_law_1121 : decode cL_law 1121 = .ok (.iload 6, 2) := by decide +kernel
theorem dL_law_1123 : decode cL_law 1123 = .ok (.i2l, 1) := by decide +kernel
theorem dL_law_1124 : decode cL_law 1124 = .ok (.lcmp, 1) := by decide +kernel
theorem dL_law_1125 : decode cL_law 1125 = .ok (.ifCond .eq 5, 3) := by decide +kernel
theorem dL_law_1128 : decode cL_law 1128 = .ok (.iconst 0, 1) := by decide +kernel
theorem dL_law_1129 : decode cL_law 1129 = .ok (.ireturn, 1) := by decide +kernel
theorem dL_law_1130 : decode cL_law 1130 = .ok (.goto 916, 3) := by decide +kernel
theorem dL_law_1133 : decode cL_law 1133 = .ok (.aload_n 1, 1) := by decide +kernel
theorem dL_law_1134 : decode cL_law 1134 = .ok (.invokevirtual 159, 3) := by decide +kernel
theorem dL_law_1137 : decode cL_law 1137 = .ok (.aload_n 2, 1) := by decide +kernel
theorem dL_law_1138 : decode cL_law 1138 = .ok (.invokevirtual 162, 3) := by decide +kernel
theorem dL_law_1141 : decode cL_law 1141 = .ok (.if_icmp .eq 905, 3) := by decide +kernel
theorem dL_law_1144 : decode cL_law 1144 = .ok (.iconst 0, 1) := by decide +kernel
theorem dL_law_1145 : decode cL_law 1145 = .ok (.ireturn, 1) := by decide +kernel
theorem dL_law_1146 : decode cL_law 1146 = .ok (.aload_n 1, 1) := by decide +kernel
theorem dL_law_1147 : decode cL_law 1147 = .ok (.invokevirtual 163, 3) := by decide +kernel
theorem dL_law_1150 : decode cL_law 1150 = .ok (.f2d, 1) := by decide +kernel
theorem dL_law_1151 : decode cL_law 1151 = .ok (.dstore 5, 2) := by decide +kernel
theorem dL_law_1153 : decode cL_law 1153 = .ok (.aload_n 2, 1) := by decide +kernel
theorem dL_law_1154 : decode cL_law 1154 = .ok (.invokevirtual 167, 3) := by decide +kernel
theorem dL_law_1157 : decode cL_law 1157 = .ok (.f2d, 1) := by decide +kernel
theorem dL_law_1158 : decode cL_law 1158 = .ok (.dstore 7, 2) := by decide +kernel
theorem dL_law_1160 : decode cL_law 1160 = .ok (.dload 5, 2) := by decide +kernel
theorem dL_law_1162 : decode cL_law 1162 = .ok (.dload 7, 2) := by decide +kernel
theorem dL_law_1164 : decode cL_law 1164 = .ok (.dcmp .l, 1) := by decide +kernel
theorem dL_law_1165 : decode cL_law 1165 = .ok (.ifCond .eq 21, 3) := by decide +kernel
theorem dL_law_1168 : decode cL_law 1168 = .ok (.dload 5, 2) := by decide +kernel
theorem dL_law_1170 : decode cL_law 1170 = .ok (.dload 5, 2) := by decide +kernel
theorem dL_law_1172 : decode cL_law 1172 = .ok (.dcmp .l, 1) := by decide +kernel
theorem dL_law_1173 : decode cL_law 1173 = .ok (.ifCond .eq 11, 3) := by decide +kernel
theorem dL_law_1176 : decode cL_law 1176 = .ok (.dload 7, 2) := by decide +kernel
theorem dL_law_1178 : decode cL_law 1178 = .ok (.dload 7, 2) := by decide +kernel
theorem dL_law_1180 : decode cL_law 1180 = .ok (.dcmp .l, 1) := by decide +kernel
theorem dL_law_1181 : decode cL_law 1181 = .ok (.ifCond .ne 5, 3) := by decide +kernel
theorem dL_law_1184 : decode cL_law 1184 = .ok (.iconst 0, 1) := by decide +kernel
theorem dL_law_1185 : decode cL_law 1185 = .ok (.ireturn, 1) := by decide +kernel
theorem dL_law_1186 : decode cL_law 1186 = .ok (.goto 860, 3) := by decide +kernel
theorem dL_law_1189 : decode cL_law 1189 = .ok (.aload_n 1, 1) := by decide +kernel
theorem dL_law_1190 : decode cL_law 1190 = .ok (.invokevirtual 168, 3) := by decide +kernel
theorem dL_law_1193 : decode cL_law 1193 = .ok (.dstore 5, 2) := by decide +kernel
theorem dL_law_1195 : decode cL_law 1195 = .ok (.aload_n 2, 1) := by decide +kernel
theorem dL_law_1196 : decode cL_law 1196 = .ok (.invokevirtual 172, 3) := by decide +kernel
theorem dL_law_1199 : decode cL_law 1199 = .ok (.dstore 7, 2) := by decide +kernel
theorem dL_law_1201 : decode cL_law 1201 = .ok (.dload 5, 2) := by decide +kernel
theorem dL_law_1203 : decode cL_law 1203 = .ok (.dload 7, 2) := by decide +kernel
theorem dL_law_1205 : decode cL_law 1205 = .ok (.dcmp .l, 1) := by decide +kernel
theorem dL_law_1206 : decode cL_law 1206 = .ok (.ifCond .eq 21, 3) := by decide +kernel
theorem dL_law_1209 : decode cL_law 1209 = .ok (.dload 5, 2) := by decide +kernel
theorem dL_law_1211 : decode cL_law 1211 = .ok (.dload 5, 2) := by decide +kernel
theorem dL_law_1213 : decode cL_law 1213 = .ok (.dcmp .l, 1) := by decide +kernel
theorem dL_law_1214 : decode cL_law 1214 = .ok (.ifCond .eq 11, 3) := by decide +kernel
theorem dL_law_1217 : decode cL_law 1217 = .ok (.dload 7, 2) := by decide +kernel
theorem dL_law_1219 : decode cL_law 1219 = .ok (.dload 7, 2) := by decide +kernel
theorem dL_law_1221 : decode cL_law 1221 = .ok (.dcmp .l, 1) := by decide +kernel
theorem dL_law_1222 : decode cL_law 1222 = .ok (.ifCond .ne 5, 3) := by decide +kernel
theorem dL_law_1225 : decode cL_law 1225 = .ok (.iconst 0, 1) := by decide +kernel
theorem dL_law_1226 : decode cL_law 1226 = .ok (.ireturn, 1) := by decide +kernel
theorem dL_law_1227 : decode cL_law 1227 = .ok (.goto 819, 3) := by decide +kernel
theorem dL_law_1230 : decode cL_law 1230 = .ok (.aload_n 1, 1) := by decide +kernel
theorem dL_law_1231 : decode cL_law 1231 = .ok (.aload_n 0, 1) := by decide +kernel
theorem dL_law_1232 : decode cL_law 1232 = .ok (.iload 4, 2) := by decide +kernel
theorem dL_law_1234 : decode cL_law 1234 = .ok (.iconst 1, 1) := by decide +kernel
theorem dL_law_1235 : decode cL_law 1235 = .ok (.iadd, 1) := by decide +kernel
theorem dL_law_1236 : decode cL_law 1236 = .ok (.iaload, 1) := by decide +kernel
theorem dL_law_1237 : decode cL_law 1237 = .ok (.aload_n 0, 1) := by decide +kernel
theorem dL_law_1238 : decode cL_law 1238 = .ok (.iload 4, 2) := by decide +kernel
theorem dL_law_1240 : decode cL_law 1240 = .ok (.iconst 2, 1) := by decide +kernel
theorem dL_law_1241 : decode cL_law 1241 = .ok (.iadd, 1) := by decide +kernel
theorem dL_law_1242 : decode cL_law 1242 = .ok (.iaload, 1) := by decide +kernel
theorem dL_law_1243 : decode cL_law 1243 = .ok (.aload_n 3, 1) := by decide +kernel
theorem dL_law_1244 : decode cL_law 1244 = .ok (.invokestatic 173, 3) := by decide +kernel
theorem dL_law_1247 : decode cL_law 1247 = .ok (.istore 5, 2) := by decide +kernel
theorem dL_law_1249 : decode cL_law 1249 = .ok (.aload_n 2, 1) := by decide +kernel
theorem dL_law_1250 : decode cL_law 1250 = .ok (.aload_n 0, 1) := by decide +kernel
theorem dL_law_1251 : decode cL_law 1251 = .ok (.iload 4, 2) := by decide +kernel
theorem dL_law_1253 : decode cL_law 1253 = .ok (.iconst 1, 1) := by decide +kernel
theorem dL_law_1254 : decode cL_law 1254 = .ok (.iadd, 1) := by decide +kernel
theorem dL_law_1255 : decode cL_law 1255 = .ok (.iaload, 1) := by decide +kernel
theorem dL_law_1256 : decode cL_law 1256 = .ok (.aload_n 0, 1) := by decide +kernel
theorem dL_law_1257 : decode cL_law 1257 = .ok (.iload 4, 2) := by decide +kernel
theorem dL_law_1259 : decode cL_law 1259 = .ok (.iconst 2, 1) := by decide +kernel
theorem dL_law_1260 : decode cL_law 1260 = .ok (.iadd, 1) := by decide +kernel
theorem dL_law_1261 : decode cL_law 1261 = .ok (.iaload, 1) := by decide +kernel
theorem dL_law_1262 : decode cL_law 1262 = .ok (.invokevirtual 175, 3) := by decide +kernel
theorem dL_law_1265 : decode cL_law 1265 = .ok (.istore 6, 2) := by decide +kernel
theorem dL_law_1267 : decode cL_law 1267 = .ok (.aload_n 2, 1) := by decide +kernel
theorem dL_law_1268 : decode cL_law 1268 = .ok (.invokevirtual 100, 3) := by decide +kernel
theorem dL_law_1271 : decode cL_law 1271 = .ok (.iload 5, 2) := by decide +kernel
theorem dL_law_1273 : decode cL_law 1273 = .ok (.if_icmp .eq 5, 3) := by decide +kernel
theorem dL_law_1276 : decode cL_law 1276 = .ok (.iconst 0, 1) := by decide +kernel
theorem dL_law_1277 : decode cL_law 1277 = .ok (.ireturn, 1) := by decide +kernel
theorem dL_law_1278 : decode cL_law 1278 = .ok (.iload 5, 2) := by decide +kernel
theorem dL_law_1280 : decode cL_law 1280 = .ok (.ifCond .ne 15, 3) := by decide +kernel
theorem dL_law_1283 : decode cL_law 1283 = .ok (.aload_n 3, 1) := by decide +kernel
theorem dL_law_1284 : decode cL_law 1284 = .ok (.iconst 0, 1) := by decide +kernel
theorem dL_law_1285 : decode cL_law 1285 = .ok (.laload, 1) := by decide +kernel
theorem dL_law_1286 : decode cL_law 1286 = .ok (.iload 6, 2) := by decide +kernel
theorem dL_law_1288 : decode cL_law 1288 = .ok (.i2l, 1) := by decide +kernel
theorem dL_law_1289 : decode cL_law 1289 = .ok (.lcmp, 1) := by decide +kernel
theorem dL_law_1290 : decode cL_law 1290 = .ok (.ifCond .eq 5, 3) := by decide +kernel
theorem dL_law_1293 : decode cL_law 1293 = .ok (.iconst 0, 1) := by decide +kernel
theorem dL_law_1294 : decode cL_law 1294 = .ok (.ireturn, 1) := by decide +kernel
theorem dL_law_1295 : decode cL_law 1295 = .ok (.goto 751, 3) := by decide +kernel
theorem dL_law_1298 : decode cL_law 1298 = .ok (.aload_n 1, 1) := by decide +kernel
theorem dL_law_1299 : decode cL_law 1299 = .ok (.aload_n 0, 1) := by decide +kernel
theorem dL_law_1300 : decode cL_law 1300 = .ok (.iload 4, 2) := by decide +kernel
theorem dL_law_1302 : decode cL_law 1302 = .ok (.iconst 1, 1) := by decide +kernel
theorem dL_law_1303 : decode cL_law 1303 = .ok (.iadd, 1) := by decide +kernel
theorem dL_law_1304 : decode cL_law 1304 = .ok (.iaload, 1) := by decide +kernel
theorem dL_law_1305 : decode cL_law 1305 = .ok (.aload_n 3, 1) := by decide +kernel
theorem dL_law_1306 : decode cL_law 1306 = .ok (.invokestatic 176, 3) := by decide +kernel
theorem dL_law_1309 : decode cL_law 1309 = .ok (.istore 5, 2) := by decide +kernel
theorem dL_law_1311 : decode cL_law 1311 = .ok (.aload_n 2, 1) := by decide +kernel
theorem dL_law_1312 : decode cL_law 1312 = .ok (.aload_n 0, 1) := by decide +kernel
theorem dL_law_1313 : decode cL_law 1313 = .ok (.iload 4, 2) := by decide +kernel
theorem dL_law_1315 : decode cL_law 1315 = .ok (.iconst 1, 1) := by decide +kernel
theorem dL_law_1316 : decode cL_law 1316 = .ok (.iadd, 1) := by decide +kernel
theorem dL_law_1317 : decode cL_law 1317 = .ok (.iaload, 1) := by decide +kernel
theorem dL_law_1318 : decode cL_law 1318 = .ok (.invokevirtual 178, 3) := by decide +kernel
theorem dL_law_1321 : decode cL_law 1321 = .ok (.istore 6, 2) := by decide +kernel
theorem dL_law_1323 : decode cL_law 1323 = .ok (.aload_n 2, 1) := by decide +kernel
theorem dL_law_1324 : decode cL_law 1324 = .ok (.invokevirtual 100, 3) := by decide +kernel
theorem dL_law_1327 : decode cL_law 1327 = .ok (.iload 5, 2) := by decide +kernel
theorem dL_law_1329 : decode cL_law 1329 = .ok (.if_icmp .eq 5, 3) := by decide +kernel
theorem dL_law_1332 : decode cL_law 1332 = .ok (.iconst 0, 1) := by decide +kernel
theorem dL_law_1333 : decode cL_law 1333 = .ok (.ireturn, 1) := by decide +kernel
theorem dL_law_1334 : decode cL_law 1334 = .ok (.iload 5, 2) := by decide +kernel
theorem dL_law_1336 : decode cL_law 1336 = .ok (.ifCond .ne 15, 3) := by decide +kernel
theorem dL_law_1339 : decode cL_law 1339 = .ok (.aload_n 3, 1) := by decide +kernel
theorem dL_law_1340 : decode cL_law 1340 = .ok (.iconst 0, 1) := by decide +kernel
theorem dL_law_1341 : decode cL_law 1341 = .ok (.laload, 1) := by decide +kernel
theorem dL_law_1342 : decode cL_law 1342 = .ok (.iload 6, 2) := by decide +kernel
theorem dL_law_1344 : decode cL_law 1344 = .ok (.i2l, 1) := by decide +kernel
theorem dL_law_1345 : decode cL_law 1345 = .ok (.lcmp, 1) := by decide +kernel
theorem dL_law_1346 : decode cL_law 1346 = .ok (.ifCond .eq 5, 3) := by decide +kernel
theorem dL_law_1349 : decode cL_law 1349 = .ok (.iconst 0, 1) := by decide +kernel
theorem dL_law_1350 : decode cL_law 1350 = .ok (.ireturn, 1) := by decide +kernel
theorem dL_law_1351 : decode cL_law 1351 = .ok (.goto 695, 3) := by decide +kernel
theorem dL_law_1354 : decode cL_law 1354 = .ok (.aload_n 1, 1) := by decide +kernel
theorem dL_law_1355 : decode cL_law 1355 = .ok (.aload_n 0, 1) := by decide +kernel
theorem dL_law_1356 : decode cL_law 1356 = .ok (.iload 4, 2) := by decide +kernel
theorem dL_law_1358 : decode cL_law 1358 = .ok (.iconst 1, 1) := by decide +kernel
theorem dL_law_1359 : decode cL_law 1359 = .ok (.iadd, 1) := by decide +kernel
theorem dL_law_1360 : decode cL_law 1360 = .ok (.iaload, 1) := by decide +kernel
theorem dL_law_1361 : decode cL_law 1361 = .ok (.aload_n 0, 1) := by decide +kernel
theorem dL_law_1362 : decode cL_law 1362 = .ok (.iload 4, 2) := by decide +kernel
theorem dL_law_1364 : decode cL_law 1364 = .ok (.iconst 2, 1) := by decide +kernel
theorem dL_law_1365 : decode cL_law 1365 = .ok (.iadd, 1) := by decide +kernel
theorem dL_law_1366 : decode cL_law 1366 = .ok (.iaload, 1) := by decide +kernel
theorem dL_law_1367 : decode cL_law 1367 = .ok (.aload_n 0, 1) := by decide +kernel
theorem dL_law_1368 : decode cL_law 1368 = .ok (.iload 4, 2) := by decide +kernel
theorem dL_law_1370 : decode cL_law 1370 = .ok (.iconst 3, 1) := by decide +kernel
theorem dL_law_1371 : decode cL_law 1371 = .ok (.iadd, 1) := by decide +kernel
theorem dL_law_1372 : decode cL_law 1372 = .ok (.iaload, 1) := by decide +kernel
theorem dL_law_1373 : decode cL_law 1373 = .ok (.aload_n 3, 1) := by decide +kernel
theorem dL_law_1374 : decode cL_law 1374 = .ok (.invokestatic 179, 3) := by decide +kernel
theorem dL_law_1377 : decode cL_law 1377 = .ok (.istore 5, 2) := by decide +kernel
theorem dL_law_1379 : decode cL_law 1379 = .ok (.aload_n 2, 1) := by decide +kernel
theorem dL_law_1380 : decode cL_law 1380 = .ok (.aload_n 0, 1) := by decide +kernel
theorem dL_law_1381 : decode cL_law 1381 = .ok (.iload 4, 2) := by decide +kernel
theorem dL_law_1383 : decode cL_law 1383 = .ok (.iconst 1, 1) := by decide +kernel
theorem dL_law_1384 : decode cL_law 1384 = .ok (.iadd, 1) := by decide +kernel
theorem dL_law_1385 : decode cL_law 1385 = .ok (.iaload, 1) := by decide +kernel
theorem dL_law_1386 : decode cL_law 1386 = .ok (.aload_n 0, 1) := by decide +kernel
theorem dL_law_1387 : decode cL_law 1387 = .ok (.iload 4, 2) := by decide +kernel
theorem dL_law_1389 : decode cL_law 1389 = .ok (.iconst 2, 1) := by decide +kernel
theorem dL_law_1390 : decode cL_law 1390 = .ok (.iadd, 1) := by decide +kernel
theorem dL_law_1391 : decode cL_law 1391 = .ok (.iaload, 1) := by decide +kernel
theorem dL_law_1392 : decode cL_law 1392 = .ok (.aload_n 0, 1) := by decide +kernel
theorem dL_law_1393 : decode cL_law 1393 = .ok (.iload 4, 2) := by decide +kernel
theorem dL_law_1395 : decode cL_law 1395 = .ok (.iconst 3, 1) := by decide +kernel
theorem dL_law_1396 : decode cL_law 1396 = .ok (.iadd, 1) := by decide +kernel
theorem dL_law_1397 : decode cL_law 1397 = .ok (.iaload, 1) := by decide +kernel
theorem dL_law_1398 : decode cL_law 1398 = .ok (.invokevirtual 181, 3) := by decide +kernel
theorem dL_law_1401 : decode cL_law 1401 = .ok (.istore 6, 2) := by decide +kernel
theorem dL_law_1403 : decode cL_law 1403 = .ok (.aload_n 2, 1) := by decide +kernel
theorem dL_law_1404 : decode cL_law 1404 = .ok (.invokevirtual 100, 3) := by decide +kernel
theorem dL_law_1407 : decode cL_law 1407 = .ok (.iload 5, 2) := by decide +kernel
theorem dL_law_1409 : decode cL_law 1409 = .ok (.if_icmp .eq 5, 3) := by decide +kernel
theorem dL_law_1412 : decode cL_law 1412 = .ok (.iconst 0, 1) := by decide +kernel
theorem dL_law_1413 : decode cL_law 1413 = .ok (.ireturn, 1) := by decide +kernel
theorem dL_law_1414 : decode cL_law 1414 = .ok (.iload 5, 2) := by decide +kernel
theorem dL_law_1416 : decode cL_law 1416 = .ok (.ifCond .ne 15, 3) := by decide +kernel
theorem dL_law_1419 : decode cL_law 1419 = .ok (.aload_n 3, 1) := by decide +kernel
theorem dL_law_1420 : decode cL_law 1420 = .ok (.iconst 0, 1) := by decide +kernel
theorem dL_law_1421 : decode cL_law 1421 = .ok (.laload, 1) := by decide +kernel
theorem dL_law_1422 : decode cL_law 1422 = .ok (.iload 6, 2) := by decide +kernel
theorem dL_law_1424 : decode cL_law 1424 = .ok (.i2l, 1) := by decide +kernel
theorem dL_law_1425 : decode cL_law 1425 = .ok (.lcmp, 1) := by decide +kernel
theorem dL_law_1426 : decode cL_law 1426 = .ok (.ifCond .eq 5, 3) := by decide +kernel
theorem dL_law_1429 : decode cL_law 1429 = .ok (.iconst 0, 1) := by decide +kernel
theorem dL_law_1430 : decode cL_law 1430 = .ok (.ireturn, 1) := by decide +kernel
theorem dL_law_1431 : decode cL_law 1431 = .ok (.goto 615, 3) := by decide +kernel
theorem dL_law_1434 : decode cL_law 1434 = .ok (.aload_n 1, 1) := by decide +kernel
theorem dL_law_1435 : decode cL_law 1435 = .ok (.aload_n 0, 1) := by decide +kernel
theorem dL_law_1436 : decode cL_law 1436 = .ok (.iload 4, 2) := by decide +kernel
theorem dL_law_1438 : decode cL_law 1438 = .ok (.iconst 1, 1) := by decide +kernel
theorem dL_law_1439 : decode cL_law 1439 = .ok (.iadd, 1) := by decide +kernel
theorem dL_law_1440 : decode cL_law 1440 = .ok (.iaload, 1) := by decide +kernel
theorem dL_law_1441 : decode cL_law 1441 = .ok (.aload_n 3, 1) := by decide +kernel
theorem dL_law_1442 : decode cL_law 1442 = .ok (.invokestatic 182, 3) := by decide +kernel
theorem dL_law_1445 : decode cL_law 1445 = .ok (.istore 5, 2) := by decide +kernel
theorem dL_law_1447 : decode cL_law 1447 = .ok (.aload_n 2, 1) := by decide +kernel
theorem dL_law_1448 : decode cL_law 1448 = .ok (.aload_n 0, 1) := by decide +kernel
theorem dL_law_1449 : decode cL_law 1449 = .ok (.iload 4, 2) := by decide +kernel
theorem dL_law_1451 : decode cL_law 1451 = .ok (.iconst 1, 1) := by decide +kernel
theorem dL_law_1452 : decode cL_law 1452 = .ok (.iadd, 1) := by decide +kernel
theorem dL_law_1453 : decode cL_law 1453 = .ok (.iaload, 1) := by decide +kernel
theorem dL_law_1454 : decode cL_law 1454 = .ok (.invokevirtual 184, 3) := by decide +kernel
theorem dL_law_1457 : decode cL_law 1457 = .ok (.istore 6, 2) := by decide +kernel
theorem dL_law_1459 : decode cL_law 1459 = .ok (.aload_n 2, 1) := by decide +kernel
theorem dL_law_1460 : decode cL_law 1460 = .ok (.invokevirtual 100, 3) := by decide +kernel
theorem dL_law_1463 : decode cL_law 1463 = .ok (.iload 5, 2) := by decide +kernel
theorem dL_law_1465 : decode cL_law 1465 = .ok (.if_icmp .eq 5, 3) := by decide +kernel
theorem dL_law_1468 : decode cL_law 1468 = .ok (.iconst 0, 1) := by decide +kernel
theorem dL_law_1469 : decode cL_law 1469 = .ok (.ireturn, 1) := by decide +kernel
theorem dL_law_1470 : decode cL_law 1470 = .ok (.iload 5, 2) := by decide +kernel
theorem dL_law_1472 : decode cL_law 1472 = .ok (.ifCond .ne 15, 3) := by decide +kernel
theorem dL_law_1475 : decode cL_law 1475 = .ok (.aload_n 3, 1) := by decide +kernel
theorem dL_law_1476 : decode cL_law 1476 = .ok (.iconst 0, 1) := by decide +kernel
theorem dL_law_1477 : decode cL_law 1477 = .ok (.laload, 1) := by decide +kernel
theorem dL_law_1478 : decode cL_law 1478 = .ok (.iload 6, 2) := by decide +kernel
theorem dL_law_1480 : decode cL_law 1480 = .ok (.i2l, 1) := by decide +kernel
theorem dL_law_1481 : decode cL_law 1481 = .ok (.lcmp, 1) := by decide +kernel
theorem dL_law_1482 : decode cL_law 1482 = .ok (.ifCond .eq 5, 3) := by decide +kernel
theorem dL_law_1485 : decode cL_law 1485 = .ok (.iconst 0, 1) := by decide +kernel
theorem dL_law_1486 : decode cL_law 1486 = .ok (.ireturn, 1) := by decide +kernel
theorem dL_law_1487 : decode cL_law 1487 = .ok (.goto 559, 3) := by decide +kernel
theorem dL_law_1490 : decode cL_law 1490 = .ok (.aload_n 1, 1) := by decide +kernel
theorem dL_law_1491 : decode cL_law 1491 = .ok (.invokevirtual 185, 3) := by decide +kernel
theorem dL_law_1494 : decode cL_law 1494 = .ok (.aload_n 2, 1) := by decide +kernel
theorem dL_law_1495 : decode cL_law 1495 = .ok (.invokevirtual 188, 3) := by decide +kernel
theorem dL_law_1498 : decode cL_law 1498 = .ok (.if_icmp .eq 548, 3) := by decide +kernel
theorem dL_law_1501 : decode cL_law 1501 = .ok (.iconst 0, 1) := by decide +kernel
theorem dL_law_1502 : decode cL_law 1502 = .ok (.ireturn, 1) := by decide +kernel
theorem dL_law_1503 : decode cL_law 1503 = .ok (.aload_n 1, 1) := by decide +kernel
theorem dL_law_1504 : decode cL_law 1504 = .ok (.invokevirtual 189, 3) := by decide +kernel
theorem dL_law_1507 : decode cL_law 1507 = .ok (.aload_n 2, 1) := by decide +kernel
theorem dL_law_1508 : decode cL_law 1508 = .ok (.invokevirtual 192, 3) := by decide +kernel
theorem dL_law_1511 : decode cL_law 1511 = .ok (.if_icmp .eq 535, 3) := by decide +kernel
theorem dL_law_1514 : decode cL_law 1514 = .ok (.iconst 0, 1) := by decide +kernel
theorem dL_law_1515 : decode cL_law 1515 = .ok (.ireturn, 1) := by decide +kernel
theorem dL_law_1516 : decode cL_law 1516 = .ok (.aload_n 1, 1) := by decide +kernel
theorem dL_law_1517 : decode cL_law 1517 = .ok (.invokevirtual 193, 3) := by decide +kernel
theorem dL_law_1520 : decode cL_law 1520 = .ok (.aload_n 2, 1) := by decide +kernel
theorem dL_law_1521 : decode cL_law 1521 = .ok (.invokevirtual 196, 3) := by decide +kernel
theorem dL_law_1524 : decode cL_law 1524 = .ok (.if_icmp .eq 522, 3) := by decide +kernel
theorem dL_law_1527 : decode cL_law 1527 = .ok (.iconst 0, 1) := by decide +kernel
theorem dL_law_1528 : decode cL_law 1528 = .ok (.ireturn, 1) := by decide +kernel
theorem dL_law_1529 : decode cL_law 1529 = .ok (.aload_n 1, 1) := by decide +kernel
theorem dL_law_1530 : decode cL_law 1530 = .ok (.invokevirtual 197, 3) := by decide +kernel
theorem dL_law_1533 : decode cL_law 1533 = .ok (.aload_n 2, 1) := by decide +kernel
theorem dL_law_1534 : decode cL_law 1534 = .ok (.invokevirtual 200, 3) := by decide +kernel
theorem dL_law_1537 : decode cL_law 1537 = .ok (.if_icmp .eq 509, 3) := by decide +kernel
theorem dL_law_1540 : decode cL_law 1540 = .ok (.iconst 0, 1) := by decide +kernel
theorem dL_law_1541 : decode cL_law 1541 = .ok (.ireturn, 1) := by decide +kernel
theorem dL_law_1542 : decode cL_law 1542 = .ok (.aload_n 1, 1) := by decide +kernel
theorem dL_law_1543 : decode cL_law 1543 = .ok (.invokevirtual 201, 3) := by decide +kernel
theorem dL_law_1546 : decode cL_law 1546 = .ok (.aload_n 2, 1) := by decide +kernel
theorem dL_law_1547 : decode cL_law 1547 = .ok (.invokevirtual 204, 3) := by decide +kernel
theorem dL_law_1550 : decode cL_law 1550 = .ok (.if_icmp .eq 496, 3) := by decide +kernel
theorem dL_law_1553 : decode cL_law 1553 = .ok (.iconst 0, 1) := by decide +kernel
theorem dL_law_1554 : decode cL_law 1554 = .ok (.ireturn, 1) := by decide +kernel
theorem dL_law_1555 : decode cL_law 1555 = .ok (.aload_n 1, 1) := by decide +kernel
theorem dL_law_1556 : decode cL_law 1556 = .ok (.aload_n 0, 1) := by decide +kernel
theorem dL_law_1557 : decode cL_law 1557 = .ok (.iload 4, 2) := by decide +kernel
theorem dL_law_1559 : decode cL_law 1559 = .ok (.iconst 1, 1) := by decide +kernel
theorem dL_law_1560 : decode cL_law 1560 = .ok (.iadd, 1) := by decide +kernel
theorem dL_law_1561 : decode cL_law 1561 = .ok (.iaload, 1) := by decide +kernel
theorem dL_law_1562 : decode cL_law 1562 = .ok (.aload_n 0, 1) := by decide +kernel
theorem dL_law_1563 : decode cL_law 1563 = .ok (.iload 4, 2) := by decide +kernel
theorem dL_law_1565 : decode cL_law 1565 = .ok (.iconst 2, 1) := by decide +kernel
theorem dL_law_1566 : decode cL_law 1566 = .ok (.iadd, 1) := by decide +kernel
theorem dL_law_1567 : decode cL_law 1567 = .ok (.iaload, 1) := by decide +kernel
theorem dL_law_1568 : decode cL_law 1568 = .ok (.ifCond .eq 7, 3) := by decide +kernel
theorem dL_law_1571 : decode cL_law 1571 = .ok (.iconst 1, 1) := by decide +kernel
theorem dL_law_1572 : decode cL_law 1572 = .ok (.goto 4, 3) := by decide +kernel
theorem dL_law_1575 : decode cL_law 1575 = .ok (.iconst 0, 1) := by decide +kernel
theorem dL_law_1576 : decode cL_law 1576 = .ok (.aload_n 0, 1) := by decide +kernel
theorem dL_law_1577 : decode cL_law 1577 = .ok (.iload 4, 2) := by decide +kernel
theorem dL_law_1579 : decode cL_law 1579 = .ok (.iconst 3, 1) := by decide +kernel
theorem dL_law_1580 : decode cL_law 1580 = .ok (.iadd, 1) := by decide +kernel
theorem dL_law_1581 : decode cL_law 1581 = .ok (.iaload, 1) := by decide +kernel
theorem dL_law_1582 : decode cL_law 1582 = .ok (.aload_n 0, 1) := by decide +kernel
theorem dL_law_1583 : decode cL_law 1583 = .ok (.iload 4, 2) := by decide +kernel
theorem dL_law_1585 : decode cL_law 1585 = .ok (.iconst 4, 1) := by decide +kernel
theorem dL_law_1586 : decode cL_law 1586 = .ok (.iadd, 1) := by decide +kernel
theorem dL_law_1587 : decode cL_law 1587 = .ok (.iaload, 1) := by decide +kernel
theorem dL_law_1588 : decode cL_law 1588 = .ok (.aload_n 3, 1) := by decide +kernel
theorem dL_law_1589 : decode cL_law 1589 = .ok (.invokestatic 205, 3) := by decide +kernel
theorem dL_law_1592 : decode cL_law 1592 = .ok (.istore 5, 2) := by decide +kernel
theorem dL_law_1594 : decode cL_law 1594 = .ok (.aload_n 2, 1) := by decide +kernel
theorem dL_law_1595 : decode cL_law 1595 = .ok (.aload_n 0, 1) := by decide +kernel
theorem dL_law_1596 : decode cL_law 1596 = .ok (.iload 4, 2) := by decide +kernel
theorem dL_law_1598 : decode cL_law 1598 = .ok (.iconst 1, 1) := by decide +kernel
theorem dL_law_1599 : decode cL_law 1599 = .ok (.iadd, 1) := by decide +kernel
theorem dL_law_1600 : decode cL_law 1600 = .ok (.iaload, 1) := by decide +kernel
theorem dL_law_1601 : decode cL_law 1601 = .ok (.aload_n 0, 1) := by decide +kernel
theorem dL_law_1602 : decode cL_law 1602 = .ok (.iload 4, 2) := by decide +kernel
theorem dL_law_1604 : decode cL_law 1604 = .ok (.iconst 2, 1) := by decide +kernel
theorem dL_law_1605 : decode cL_law 1605 = .ok (.iadd, 1) := by decide +kernel
theorem dL_law_1606 : decode cL_law 1606 = .ok (.iaload, 1) := by decide +kernel
theorem dL_law_1607 : decode cL_law 1607 = .ok (.ifCond .eq 7, 3) := by decide +kernel
theorem dL_law_1610 : decode cL_law 1610 = .ok (.iconst 1, 1) := by decide +kernel
theorem dL_law_1611 : decode cL_law 1611 = .ok (.goto 4, 3) := by decide +kernel
theorem dL_law_1614 : decode cL_law 1614 = .ok (.iconst 0, 1) := by decide +kernel
theorem dL_law_1615 : decode cL_law 1615 = .ok (.aload_n 0, 1) := by decide +kernel
theorem dL_law_1616 : decode cL_law 1616 = .ok (.iload 4, 2) := by decide +kernel
theorem dL_law_1618 : decode cL_law 1618 = .ok (.iconst 3, 1) := by decide +kernel
theorem dL_law_1619 : decode cL_law 1619 = .ok (.iadd, 1) := by decide +kernel
theorem dL_law_1620 : decode cL_law 1620 = .ok (.iaload, 1) := by decide +kernel
theorem dL_law_1621 : decode cL_law 1621 = .ok (.aload_n 0, 1) := by decide +kernel
theorem dL_law_1622 : decode cL_law 1622 = .ok (.iload 4, 2) := by decide +kernel
theorem dL_law_1624 : decode cL_law 1624 = .ok (.iconst 4, 1) := by decide +kernel
theorem dL_law_1625 : decode cL_law 1625 = .ok (.iadd, 1) := by decide +kernel
theorem dL_law_1626 : decode cL_law 1626 = .ok (.iaload, 1) := by decide +kernel
theorem dL_law_1627 : decode cL_law 1627 = .ok (.invokevirtual 208, 3) := by decide +kernel
theorem dL_law_1630 : decode cL_law 1630 = .ok (.istore 6, 2) := by decide +kernel
theorem dL_law_1632 : decode cL_law 1632 = .ok (.aload_n 2, 1) := by decide +kernel
theorem dL_law_1633 : decode cL_law 1633 = .ok (.invokevirtual 100, 3) := by decide +kernel
theorem dL_law_1636 : decode cL_law 1636 = .ok (.iload 5, 2) := by decide +kernel
theorem dL_law_1638 : decode cL_law 1638 = .ok (.if_icmp .eq 5, 3) := by decide +kernel
theorem dL_law_1641 : decode cL_law 1641 = .ok (.iconst 0, 1) := by decide +kernel
theorem dL_law_1642 : decode cL_law 1642 = .ok (.ireturn, 1) := by decide +kernel
theorem dL_law_1643 : decode cL_law 1643 = .ok (.iload 5, 2) := by decide +kernel
theorem dL_law_1645 : decode cL_law 1645 = .ok (.ifCond .ne 15, 3) := by decide +kernel
theorem dL_law_1648 : decode cL_law 1648 = .ok (.aload_n 3, 1) := by decide +kernel
theorem dL_law_1649 : decode cL_law 1649 = .ok (.iconst 0, 1) := by decide +kernel
theorem dL_law_1650 : decode cL_law 1650 = .ok (.laload, 1) := by decide +kernel
theorem dL_law_1651 : decode cL_law 1651 = .ok (.iload 6, 2) := by decide +kernel
theorem dL_law_1653 : decode cL_law 1653 = .ok (.i2l, 1) := by decide +kernel
theorem dL_law_1654 : decode cL_law 1654 = .ok (.lcmp, 1) := by decide +kernel
theorem dL_law_1655 : decode cL_law 1655 = .ok (.ifCond .eq 5, 3) := by decide +kernel
theorem dL_law_1658 : decode cL_law 1658 = .ok (.iconst 0, 1) := by decide +kernel
theorem dL_law_1659 : decode cL_law 1659 = .ok (.ireturn, 1) := by decide +kernel
theorem dL_law_1660 : decode cL_law 1660 = .ok (.goto 386, 3) := by decide +kernel
theorem dL_law_1663 : decode cL_law 1663 = .ok (.aload_n 1, 1) := by decide +kernel
theorem dL_law_1664 : decode cL_law 1664 = .ok (.aload_n 0, 1) := by decide +kernel
theorem dL_law_1665 : decode cL_law 1665 = .ok (.iload 4, 2) := by decide +kernel
theorem dL_law_1667 : decode cL_law 1667 = .ok (.iconst 1, 1) := by decide +kernel
theorem dL_law_1668 : decode cL_law 1668 = .ok (.iadd, 1) := by decide +kernel
theorem dL_law_1669 : decode cL_law 1669 = .ok (.iaload, 1) := by decide +kernel
theorem dL_law_1670 : decode cL_law 1670 = .ok (.aload_n 3, 1) := by decide +kernel
theorem dL_law_1671 : decode cL_law 1671 = .ok (.invokestatic 209, 3) := by decide +kernel
theorem dL_law_1674 : decode cL_law 1674 = .ok (.istore 5, 2) := by decide +kernel
theorem dL_law_1676 : decode cL_law 1676 = .ok (.aload_n 2, 1) := by decide +kernel
theorem dL_law_1677 : decode cL_law 1677 = .ok (.aload_n 0, 1) := by decide +kernel
theorem dL_law_1678 : decode cL_law 1678 = .ok (.iload 4, 2) := by decide +kernel
theorem dL_law_1680 : decode cL_law 1680 = .ok (.iconst 1, 1) := by decide +kernel
theorem dL_law_1681 : decode cL_law 1681 = .ok (.iadd, 1) := by decide +kernel
theorem dL_law_1682 : decode cL_law 1682 = .ok (.iaload, 1) := by decide +kernel
theorem dL_law_1683 : decode cL_law 1683 = .ok (.invokevirtual 211, 3) := by decide +kernel
theorem dL_law_1686 : decode cL_law 1686 = .ok (.istore 6, 2) := by decide +kernel
theorem dL_law_1688 : decode cL_law 1688 = .ok (.aload_n 2, 1) := by decide +kernel
theorem dL_law_1689 : decode cL_law 1689 = .ok (.invokevirtual 100, 3) := by decide +kernel
theorem dL_law_1692 : decode cL_law 1692 = .ok (.iload 5, 2) := by decide +kernel
theorem dL_law_1694 : decode cL_law 1694 = .ok (.if_icmp .eq 5, 3) := by decide +kernel
theorem dL_law_1697 : decode cL_law 1697 = .ok (.iconst 0, 1) := by decide +kernel
theorem dL_law_1698 : decode cL_law 1698 = .ok (.ireturn, 1) := by decide +kernel
theorem dL_law_1699 : decode cL_law 1699 = .ok (.iload 5, 2) := by decide +kernel
theorem dL_law_1701 : decode cL_law 1701 = .ok (.ifCond .ne 15, 3) := by decide +kernel
theorem dL_law_1704 : decode cL_law 1704 = .ok (.aload_n 3, 1) := by decide +kernel
theorem dL_law_1705 : decode cL_law 1705 = .ok (.iconst 0, 1) := by decide +kernel
theorem dL_law_1706 : decode cL_law 1706 = .ok (.laload, 1) := by decide +kernel
theorem dL_law_1707 : decode cL_law 1707 = .ok (.iload 6, 2) := by decide +kernel
theorem dL_law_1709 : decode cL_law 1709 = .ok (.i2l, 1) := by decide +kernel
theorem dL_law_1710 : decode cL_law 1710 = .ok (.lcmp, 1) := by decide +kernel
theorem dL_law_1711 : decode cL_law 1711 = .ok (.ifCond .eq 5, 3) := by decide +kernel
theorem dL_law_1714 : decode cL_law 1714 = .ok (.iconst 0, 1) := by decide +kernel
theorem dL_law_1715 : decode cL_law 1715 = .ok (.ireturn, 1) := by decide +kernel
theorem dL_law_1716 : decode cL_law 1716 = .ok (.goto 330, 3) := by decide +kernel
theorem dL_law_1719 : decode cL_law 1719 = .ok (.aload_n 1, 1) := by decide +kernel
theorem dL_law_1720 : decode cL_law 1720 = .ok (.aload_n 0, 1) := by decide +kernel
theorem dL_law_1721 : decode cL_law 1721 = .ok (.iload 4, 2) := by decide +kernel
theorem dL_law_1723 : decode cL_law 1723 = .ok (.iconst 1, 1) := by decide +kernel
theorem dL_law_1724 : decode cL_law 1724 = .ok (.iadd, 1) := by decide +kernel
theorem dL_law_1725 : decode cL_law 1725 = .ok (.iaload, 1) := by decide +kernel
theorem dL_law_1726 : decode cL_law 1726 = .ok (.aload_n 3, 1) := by decide +kernel
theorem dL_law_1727 : decode cL_law 1727 = .ok (.invokestatic 212, 3) := by decide +kernel
theorem dL_law_1730 : decode cL_law 1730 = .ok (.istore 5, 2) := by decide +kernel
theorem dL_law_1732 : decode cL_law 1732 = .ok (.aload_n 2, 1) := by decide +kernel
theorem dL_law_1733 : decode cL_law 1733 = .ok (.aload_n 0, 1) := by decide +kernel
theorem dL_law_1734 : decode cL_law 1734 = .ok (.iload 4, 2) := by decide +kernel
theorem dL_law_1736 : decode cL_law 1736 = .ok (.iconst 1, 1) := by decide +kernel
theorem dL_law_1737 : decode cL_law 1737 = .ok (.iadd, 1) := by decide +kernel
theorem dL_law_1738 : decode cL_law 1738 = .ok (.iaload, 1) := by decide +kernel
theorem dL_law_1739 : decode cL_law 1739 = .ok (.invokevirtual 214, 3) := by decide +kernel
theorem dL_law_1742 : decode cL_law 1742 = .ok (.istore 6, 2) := by decide +kernel
theorem dL_law_1744 : decode cL_law 1744 = .ok (.aload_n 2, 1) := by decide +kernel
theorem dL_law_1745 : decode cL_law 1745 = .ok (.invokevirtual 100, 3) := by decide +kernel
theorem dL_law_1748 : decode cL_law 1748 = .ok (.iload 5, 2) := by decide +kernel
theorem dL_law_1750 : decode cL_law 1750 = .ok (.if_icmp .eq 5, 3) := by decide +kernel
theorem dL_law_1753 : decode cL_law 1753 = .ok (.iconst 0, 1) := by decide +kernel
theorem dL_law_1754 : decode cL_law 1754 = .ok (.ireturn, 1) := by decide +kernel
theorem dL_law_1755 : decode cL_law 1755 = .ok (.iload 5, 2) := by decide +kernel
theorem dL_law_1757 : decode cL_law 1757 = .ok (.ifCond .ne 15, 3) := by decide +kernel
theorem dL_law_1760 : decode cL_law 1760 = .ok (.aload_n 3, 1) := by decide +kernel
theorem dL_law_1761 : decode cL_law 1761 = .ok (.iconst 0, 1) := by decide +kernel
theorem dL_law_1762 : decode cL_law 1762 = .ok (.laload, 1) := by decide +kernel
theorem dL_law_1763 : decode cL_law 1763 = .ok (.iload 6, 2) := by decide +kernel
theorem dL_law_1765 : decode cL_law 1765 = .ok (.i2l, 1) := by decide +kernel
theorem dL_law_1766 : decode cL_law 1766 = .ok (.lcmp, 1) := by decide +kernel
theorem dL_law_1767 : decode cL_law 1767 = .ok (.ifCond .eq 5, 3) := by decide +kernel
theorem dL_law_1770 : decode cL_law 1770 = .ok (.iconst 0, 1) := by decide +kernel
theorem dL_law_1771 : decode cL_law 1771 = .ok (.ireturn, 1) := by decide +kernel
theorem dL_law_1772 : decode cL_law 1772 = .ok (.goto 274, 3) := by decide +kernel
theorem dL_law_1775 : decode cL_law 1775 = .ok (.aload_n 1, 1) := by decide +kernel
theorem dL_law_1776 : decode cL_law 1776 = .ok (.aload_n 0, 1) := by decide +kernel
theorem dL_law_1777 : decode cL_law 1777 = .ok (.iload 4, 2) := by decide +kernel
theorem dL_law_1779 : decode cL_law 1779 = .ok (.iconst 1, 1) := by decide +kernel
theorem dL_law_1780 : decode cL_law 1780 = .ok (.iadd, 1) := by decide +kernel
theorem dL_law_1781 : decode cL_law 1781 = .ok (.iaload, 1) := by decide +kernel
theorem dL_law_1782 : decode cL_law 1782 = .ok (.aload_n 0, 1) := by decide +kernel
theorem dL_law_1783 : decode cL_law 1783 = .ok (.iload 4, 2) := by decide +kernel
theorem dL_law_1785 : decode cL_law 1785 = .ok (.iconst 2, 1) := by decide +kernel
theorem dL_law_1786 : decode cL_law 1786 = .ok (.iadd, 1) := by decide +kernel
theorem dL_law_1787 : decode cL_law 1787 = .ok (.iaload, 1) := by decide +kernel
theorem dL_law_1788 : decode cL_law 1788 = .ok (.ifCond .eq 7, 3) := by decide +kernel
theorem dL_law_1791 : decode cL_law 1791 = .ok (.iconst 1, 1) := by decide +kernel
theorem dL_law_1792 : decode cL_law 1792 = .ok (.goto 4, 3) := by decide +kernel
theorem dL_law_1795 : decode cL_law 1795 = .ok (.iconst 0, 1) := by decide +kernel
theorem dL_law_1796 : decode cL_law 1796 = .ok (.aload_n 3, 1) := by decide +kernel
theorem dL_law_1797 : decode cL_law 1797 = .ok (.invokestatic 215, 3) := by decide +kernel
theorem dL_law_1800 : decode cL_law 1800 = .ok (.istore 5, 2) := by decide +kernel
theorem dL_law_1802 : decode cL_law 1802 = .ok (.aload_n 2, 1) := by decide +kernel
theorem dL_law_1803 : decode cL_law 1803 = .ok (.aload_n 0, 1) := by decide +kernel
theorem dL_law_1804 : decode cL_law 1804 = .ok (.iload 4, 2) := by decide +kernel
theorem dL_law_1806 : decode cL_law 1806 = .ok (.iconst 1, 1) := by decide +kernel
theorem dL_law_1807 : decode cL_law 1807 = .ok (.iadd, 1) := by decide +kernel
theorem dL_law_1808 : decode cL_law 1808 = .ok (.iaload, 1) := by decide +kernel
theorem dL_law_1809 : decode cL_law 1809 = .ok (.aload_n 0, 1) := by decide +kernel
theorem dL_law_1810 : decode cL_law 1810 = .ok (.iload 4, 2) := by decide +kernel
theorem dL_law_1812 : decode cL_law 1812 = .ok (.iconst 2, 1) := by decide +kernel
theorem dL_law_1813 : decode cL_law 1813 = .ok (.iadd, 1) := by decide +kernel
theorem dL_law_1814 : decode cL_law 1814 = .ok (.iaload, 1) := by decide +kernel
theorem dL_law_1815 : decode cL_law 1815 = .ok (.ifCond .eq 7, 3) := by decide +kernel
theorem dL_law_1818 : decode cL_law 1818 = .ok (.iconst 1, 1) := by decide +kernel
theorem dL_law_1819 : decode cL_law 1819 = .ok (.goto 4, 3) := by decide +kernel
theorem dL_law_1822 : decode cL_law 1822 = .ok (.iconst 0, 1) := by decide +kernel
theorem dL_law_1823 : decode cL_law 1823 = .ok (.invokevirtual 218, 3) := by decide +kernel
theorem dL_law_1826 : decode cL_law 1826 = .ok (.istore 6, 2) := by decide +kernel
theorem dL_law_1828 : decode cL_law 1828 = .ok (.aload_n 2, 1) := by decide +kernel
theorem dL_law_1829 : decode cL_law 1829 = .ok (.invokevirtual 100, 3) := by decide +kernel
theorem dL_law_1832 : decode cL_law 1832 = .ok (.iload 5, 2) := by decide +kernel
theorem dL_law_1834 : decode cL_law 1834 = .ok (.if_icmp .eq 5, 3) := by decide +kernel
theorem dL_law_1837 : decode cL_law 1837 = .ok (.iconst 0, 1) := by decide +kernel
theorem dL_law_1838 : decode cL_law 1838 = .ok (.ireturn, 1) := by decide +kernel
theorem dL_law_1839 : decode cL_law 1839 = .ok (.iload 5, 2) := by decide +kernel
theorem dL_law_1841 : decode cL_law 1841 = .ok (.ifCond .ne 15, 3) := by decide +kernel
theorem dL_law_1844 : decode cL_law 1844 = .ok (.aload_n 3, 1) := by decide +kernel
theorem dL_law_1845 : decode cL_law 1845 = .ok (.iconst 0, 1) := by decide +kernel
theorem dL_law_1846 : decode cL_law 1846 = .ok (.laload, 1) := by decide +kernel
theorem dL_law_1847 : decode cL_law 1847 = .ok (.iload 6, 2) := by decide +kernel
theorem dL_law_1849 : decode cL_law 1849 = .ok (.i2l, 1) := by decide +kernel
theorem dL_law_1850 : decode cL_law 1850 = .ok (.lcmp, 1) := by decide +kernel
theorem dL_law_1851 : decode cL_law 1851 = .ok (.ifCond .eq 5, 3) := by decide +kernel
theorem dL_law_1854 : decode cL_law 1854 = .ok (.iconst 0, 1) := by decide +kernel
theorem dL_law_1855 : decode cL_law 1855 = .ok (.ireturn, 1) := by decide +kernel
theorem dL_law_1856 : decode cL_law 1856 = .ok (.goto 190, 3) := by decide +kernel
theorem dL_law_1859 : decode cL_law 1859 = .ok (.aload_n 1, 1) := by decide +kernel
theorem dL_law_1860 : decode cL_law 1860 = .ok (.aload_n 0, 1) := by decide +kernel
theorem dL_law_1861 : decode cL_law 1861 = .ok (.iload 4, 2) := by decide +kernel
theorem dL_law_1863 : decode cL_law 1863 = .ok (.iconst 1, 1) := by decide +kernel
theorem dL_law_1864 : decode cL_law 1864 = .ok (.iadd, 1) := by decide +kernel
theorem dL_law_1865 : decode cL_law 1865 = .ok (.iaload, 1) := by decide +kernel
theorem dL_law_1866 : decode cL_law 1866 = .ok (.aload_n 3, 1) := by decide +kernel
theorem dL_law_1867 : decode cL_law 1867 = .ok (.invokestatic 219, 3) := by decide +kernel
theorem dL_law_1870 : decode cL_law 1870 = .ok (.istore 5, 2) := by decide +kernel
theorem dL_law_1872 : decode cL_law 1872 = .ok (.aload_n 2, 1) := by decide +kernel
theorem dL_law_1873 : decode cL_law 1873 = .ok (.aload_n 0, 1) := by decide +kernel
theorem dL_law_1874 : decode cL_law 1874 = .ok (.iload 4, 2) := by decide +kernel
theorem dL_law_1876 : decode cL_law 1876 = .ok (.iconst 1, 1) := by decide +kernel
theorem dL_law_1877 : decode cL_law 1877 = .ok (.iadd, 1) := by decide +kernel
theorem dL_law_1878 : decode cL_law 1878 = .ok (.iaload, 1) := by decide +kernel
theorem dL_law_1879 : decode cL_law 1879 = .ok (.invokevirtual 221, 3) := by decide +kernel
theorem dL_law_1882 : decode cL_law 1882 = .ok (.istore 6, 2) := by decide +kernel
theorem dL_law_1884 : decode cL_law 1884 = .ok (.aload_n 2, 1) := by decide +kernel
theorem dL_law_1885 : decode cL_law 1885 = .ok (.invokevirtual 100, 3) := by decide +kernel
theorem dL_law_1888 : decode cL_law 1888 = .ok (.iload 5, 2) := by decide +kernel
theorem dL_law_1890 : decode cL_law 1890 = .ok (.if_icmp .eq 5, 3) := by decide +kernel
theorem dL_law_1893 : decode cL_law 1893 = .ok (.iconst 0, 1) := by decide +kernel
theorem dL_law_1894 : decode cL_law 1894 = .ok (.ireturn, 1) := by decide +kernel
theorem dL_law_1895 : decode cL_law 1895 = .ok (.iload 5, 2) := by decide +kernel
theorem dL_law_1897 : decode cL_law 1897 = .ok (.ifCond .ne 15, 3) := by decide +kernel
theorem dL_law_1900 : decode cL_law 1900 = .ok (.aload_n 3, 1) := by decide +kernel
theorem dL_law_1901 : decode cL_law 1901 = .ok (.iconst 0, 1) := by decide +kernel
theorem dL_law_1902 : decode cL_law 1902 = .ok (.laload, 1) := by decide +kernel
theorem dL_law_1903 : decode cL_law 1903 = .ok (.iload 6, 2) := by decide +kernel
theorem dL_law_1905 : decode cL_law 1905 = .ok (.i2l, 1) := by decide +kernel
theorem dL_law_1906 : decode cL_law 1906 = .ok (.lcmp, 1) := by decide +kernel
theorem dL_law_1907 : decode cL_law 1907 = .ok (.ifCond .eq 5, 3) := by decide +kernel
theorem dL_law_1910 : decode cL_law 1910 = .ok (.iconst 0, 1) := by decide +kernel
theorem dL_law_1911 : decode cL_law 1911 = .ok (.ireturn, 1) := by decide +kernel
theorem dL_law_1912 : decode cL_law 1912 = .ok (.goto 134, 3) := by decide +kernel
theorem dL_law_1915 : decode cL_law 1915 = .ok (.aload_n 1, 1) := by decide +kernel
theorem dL_law_1916 : decode cL_law 1916 = .ok (.aload_n 0, 1) := by decide +kernel
theorem dL_law_1917 : decode cL_law 1917 = .ok (.iload 4, 2) := by decide +kernel
theorem dL_law_1919 : decode cL_law 1919 = .ok (.iconst 1, 1) := by decide +kernel
theorem dL_law_1920 : decode cL_law 1920 = .ok (.iadd, 1) := by decide +kernel
theorem dL_law_1921 : decode cL_law 1921 = .ok (.iaload, 1) := by decide +kernel
theorem dL_law_1922 : decode cL_law 1922 = .ok (.invokevirtual 222, 3) := by decide +kernel
theorem dL_law_1925 : decode cL_law 1925 = .ok (.aload_n 2, 1) := by decide +kernel
theorem dL_law_1926 : decode cL_law 1926 = .ok (.aload_n 0, 1) := by decide +kernel
theorem dL_law_1927 : decode cL_law 1927 = .ok (.iload 4, 2) := by decide +kernel
theorem dL_law_1929 : decode cL_law 1929 = .ok (.iconst 1, 1) := by decide +kernel
theorem dL_law_1930 : decode cL_law 1930 = .ok (.iadd, 1) := by decide +kernel
theorem dL_law_1931 : decode cL_law 1931 = .ok (.iaload, 1) := by decide +kernel
theorem dL_law_1932 : decode cL_law 1932 = .ok (.invokevirtual 225, 3) := by decide +kernel
theorem dL_law_1935 : decode cL_law 1935 = .ok (.if_icmp .eq 111, 3) := by decide +kernel
theorem dL_law_1938 : decode cL_law 1938 = .ok (.iconst 0, 1) := by decide +kernel
theorem dL_law_1939 : decode cL_law 1939 = .ok (.ireturn, 1) := by decide +kernel
theorem dL_law_1940 : decode cL_law 1940 = .ok (.aload_n 1, 1) := by decide +kernel
theorem dL_law_1941 : decode cL_law 1941 = .ok (.invokevirtual 226, 3) := by decide +kernel
theorem dL_law_1944 : decode cL_law 1944 = .ok (.aload_n 2, 1) := by decide +kernel
theorem dL_law_1945 : decode cL_law 1945 = .ok (.invokevirtual 229, 3) := by decide +kernel
theorem dL_law_1948 : decode cL_law 1948 = .ok (.if_icmp .eq 98, 3) := by decide +kernel
theorem dL_law_1951 : decode cL_law 1951 = .ok (.iconst 0, 1) := by decide +kernel
theorem dL_law_1952 : decode cL_law 1952 = .ok (.ireturn, 1) := by decide +kernel
theorem dL_law_1953 : decode cL_law 1953 = .ok (.aload_n 1, 1) := by decide +kernel
theorem dL_law_1954 : decode cL_law 1954 = .ok (.invokevirtual 230, 3) := by decide +kernel
theorem dL_law_1957 : decode cL_law 1957 = .ok (.aload_n 2, 1) := by decide +kernel
theorem dL_law_1958 : decode cL_law 1958 = .ok (.invokevirtual 233, 3) := by decide +kernel
theorem dL_law_1961 : decode cL_law 1961 = .ok (.if_icmp .eq 85, 3) := by decide +kernel
theorem dL_law_1964 : decode cL_law 1964 = .ok (.iconst 0, 1) := by decide +kernel
theorem dL_law_1965 : decode cL_law 1965 = .ok (.ireturn, 1) := by decide +kernel
theorem dL_law_1966 : decode cL_law 1966 = .ok (.aload_n 1, 1) := by decide +kernel
theorem dL_law_1967 : decode cL_law 1967 = .ok (.invokevirtual 234, 3) := by decide +kernel
theorem dL_law_1970 : decode cL_law 1970 = .ok (.aload_n 2, 1) := by decide +kernel
theorem dL_law_1971 : decode cL_law 1971 = .ok (.invokevirtual 237, 3) := by decide +kernel
theorem dL_law_1974 : decode cL_law 1974 = .ok (.goto 72, 3) := by decide +kernel
theorem dL_law_1977 : decode cL_law 1977 = .ok (.aload_n 1, 1) := by decide +kernel
theorem dL_law_1978 : decode cL_law 1978 = .ok (.invokevirtual 238, 3) := by decide +kernel
theorem dL_law_1981 : decode cL_law 1981 = .ok (.aload_n 2, 1) := by decide +kernel
theorem dL_law_1982 : decode cL_law 1982 = .ok (.invokevirtual 242, 3) := by decide +kernel
theorem dL_law_1985 : decode cL_law 1985 = .ok (.if_icmp .eq 61, 3) := by decide +kernel
theorem dL_law_1988 : decode cL_law 1988 = .ok (.iconst 0, 1) := by decide +kernel
theorem dL_law_1989 : decode cL_law 1989 = .ok (.ireturn, 1) := by decide +kernel
theorem dL_law_1990 : decode cL_law 1990 = .ok (.aload_n 1, 1) := by decide +kernel
theorem dL_law_1991 : decode cL_law 1991 = .ok (.aload_n 0, 1) := by decide +kernel
theorem dL_law_1992 : decode cL_law 1992 = .ok (.iload 4, 2) := by decide +kernel
theorem dL_law_1994 : decode cL_law 1994 = .ok (.iconst 1, 1) := by decide +kernel
theorem dL_law_1995 : decode cL_law 1995 = .ok (.iadd, 1) := by decide +kernel
theorem dL_law_1996 : decode cL_law 1996 = .ok (.iaload, 1) := by decide +kernel
theorem dL_law_1997 : decode cL_law 1997 = .ok (.aload_n 3, 1) := by decide +kernel
theorem dL_law_1998 : decode cL_law 1998 = .ok (.invokestatic 243, 3) := by decide +kernel
theorem dL_law_2001 : decode cL_law 2001 = .ok (.istore 5, 2) := by decide +kernel
theorem dL_law_2003 : decode cL_law 2003 = .ok (.aload_n 2, 1) := by decide +kernel
theorem dL_law_2004 : decode cL_law 2004 = .ok (.aload_n 0, 1) := by decide +kernel
theorem dL_law_2005 : decode cL_law 2005 = .ok (.iload 4, 2) := by decide +kernel
theorem dL_law_2007 : decode cL_law 2007 = .ok (.iconst 1, 1) := by decide +kernel
theorem dL_law_2008 : decode cL_law 2008 = .ok (.iadd, 1) := by decide +kernel
theorem dL_law_2009 : decode cL_law 2009 = .ok (.iaload, 1) := by decide +kernel
theorem dL_law_2010 : decode cL_law 2010 = .ok (.invokevirtual 245, 3) := by decide +kernel
theorem dL_law_2013 : decode cL_law 2013 = .ok (.istore 6, 2) := by decide +kernel
theorem dL_law_2015 : decode cL_law 2015 = .ok (.aload_n 2, 1) := by decide +kernel
theorem dL_law_2016 : decode cL_law 2016 = .ok (.invokevirtual 100, 3) := by decide +kernel
theorem dL_law_2019 : decode cL_law 2019 = .ok (.iload 5, 2) := by decide +kernel
theorem dL_law_2021 : decode cL_law 2021 = .ok (.if_icmp .eq 5, 3) := by decide +kernel
theorem dL_law_2024 : decode cL_law 2024 = .ok (.iconst 0, 1) := by decide +kernel
theorem dL_law_2025 : decode cL_law 2025 = .ok (.ireturn, 1) := by decide +kernel
theorem dL_law_2026 : decode cL_law 2026 = .ok (.iload 5, 2) := by decide +kernel
theorem dL_law_2028 : decode cL_law 2028 = .ok (.ifCond .ne 15, 3) := by decide +kernel
theorem dL_law_2031 : decode cL_law 2031 = .ok (.aload_n 3, 1) := by decide +kernel
theorem dL_law_2032 : decode cL_law 2032 = .ok (.iconst 0, 1) := by decide +kernel
theorem dL_law_2033 : decode cL_law 2033 = .ok (.laload, 1) := by decide +kernel
theorem dL_law_2034 : decode cL_law 2034 = .ok (.iload 6, 2) := by decide +kernel
theorem dL_law_2036 : decode cL_law 2036 = .ok (.i2l, 1) := by decide +kernel
theorem dL_law_2037 : decode cL_law 2037 = .ok (.lcmp, 1) := by decide +kernel
theorem dL_law_2038 : decode cL_law 2038 = .ok (.ifCond .eq 5, 3) := by decide +kernel
theorem dL_law_2041 : decode cL_law 2041 = .ok (.iconst 0, 1) := by decide +kernel
theorem dL_law_2042 : decode cL_law 2042 = .ok (.ireturn, 1) := by decide +kernel
theorem dL_law_2043 : decode cL_law 2043 = .ok (.goto 3, 3) := by decide +kernel
theorem dL_law_2046 : decode cL_law 2046 = .ok (.iinc 4 6, 3) := by decide +kernel
theorem dL_law_2049 : decode cL_law 2049 = .ok (.goto (-2026), 3) := by decide +kernel
theorem dL_law_2052 : decode cL_law 2052 = .ok (.iconst 1, 1) := by decide +kernel
theorem dL_law_2053 : decode cL_law 2053 = .ok (.ireturn, 1) := by decide +kernel
