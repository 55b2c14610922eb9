theorem dX0_init_0 : decode cX0_init 0 = .ok (.aload_n 0, 1) := by decide +kernel
theorem dX0_init_1 : decode cX0_init 1 = .ok (.invokespecial 3, 3) := by decide +kernel
theorem dX0_init_4 : decode cX0_init 4 = .ok (.aload_n 0, 1) := by decide +kernel
theorem dX0_init_5 : decode cX0_init 5 = .ok (.bipush 10, 2) := by decide +kernel
theorem dX0_init_7 : decode cX0_init 7 = .ok (.anewarray 9, 3) := by decide +kernel
theorem dX0_init_10 : decode cX0_init 10 = .ok (.putfield 11, 3) := by decide +kernel
theorem dX0_init_13 : decode cX0_init 13 = .ok (.iconst 0, 1) := by decide +kernel
theorem dX0_init_14 : decode cX0_init 14 = .ok (.istore_n 1, 1) := by decide +kernel
theorem dX0_init_15 : decode cX0_init 15 = .ok (.iload_n 1, 1) := by decide +kernel
theorem dX0_init_16 : decode cX0_init 16 = .ok (.bipush 10, 2) := by decide +kernel
theorem dX0_init_18 : decode cX0_init 18 = .ok (.if_icmp .ge 22, 3) := by decide +kernel
theorem dX0_init_21 : decode cX0_init 21 = .ok (.aload_n 0, 1) := by decide +kernel
theorem dX0_init_22 : decode cX0_init 22 = .ok (.getfield 11, 3) := by decide +kernel
theorem dX0_init_25 : decode cX0_init 25 = .ok (.iload_n 1, 1) := by decide +kernel
theorem dX0_init_26 : decode cX0_init 26 = .ok (.new 9, 3) := by decide +kernel
theorem dX0_init_29 : decode cX0_init 29 = .ok (.dup, 1) := by decide +kernel
theorem dX0_init_30 : decode cX0_init 30 = .ok (.invokespecial 17, 3) := by decide +kernel
theorem dX0_init_33 : decode cX0_init 33 = .ok (.aastore, 1) := by decide +kernel
theorem dX0_init_34 : decode cX0_init 34 = .ok (.iinc 1 1, 3) := by decide +kernel
theorem dX0_init_37 : decode cX0_init 37 = .ok (.goto (-22), 3) := by decide +kernel
theorem dX0_init_40 : decode cX0_init 40 = .ok (.return_, 1) := by decide +kernel
theorem dX0_clear_0 : decode cX0_clear 0 = .ok (.aload_n 0, 1) := by decide +kernel
theorem dX0_clear_1 : decode cX0_clear 1 = .ok (.iconst 0, 1) := by decide +kernel
theorem dX0_clear_2 : decode cX0_clear 2 = .ok (.putfield 18, 3) := by decide +kernel
theorem dX0_clear_5 : decode cX0_clear 5 = .ok (.return_, 1) := by decide +kernel
theorem dX0_add_0 : decode cX0_add 0 = .ok (.aload_n 0, 1) := by decide +kernel
theorem dX0_add_1 : decode cX0_add 1 = .ok (.aload_n 0, 1) := by decide +kernel
theorem dX0_add_2 : decode cX0_add 2 = .ok (.getfield 22, 3) := by decide +kernel
theorem dX0_add_5 : decode cX0_add 5 = .ok (.iconst 1, 1) := by decide +kernel
theorem dX0_add_6 : decode cX0_add 6 = .ok (.iadd, 1) := by decide +kernel
theorem dX0_add_7 : decode cX0_add 7 = .ok (.bipush 10, 2) := by decide +kernel
theorem dX0_add_9 : decode cX0_add 9 = .ok (.if_icmp .ge 12, 3) := by decide +kernel
theorem dX0_add_12 : decode cX0_add 12 = .ok (.aload_n 0, 1) := by decide +kernel
theorem dX0_add_13 : decode cX0_add 13 = .ok (.getfield 22, 3) := by decide +kernel
theorem dX0_add_16 : decode cX0_add 16 = .ok (.iconst 1, 1) := by decide +kernel
theorem dX0_add_17 : decode cX0_add 17 = .ok (.iadd, 1) := by decide +kernel
theorem dX0_add_18 : decode cX0_add 18 = .ok (.goto 4, 3) := by decide +kernel
theorem dX0_add_21 : decode cX0_add 21 = .ok (.iconst 0, 1) := by decide +kernel
theorem dX0_add_22 : decode cX0_add 22 = .ok (.putfield 22, 3) := by decide +kernel
theorem dX0_add_25 : decode cX0_add 25 = .ok (.aload_n 0, 1) := by decide +kernel
theorem dX0_add_26 : decode cX0_add 26 = .ok (.getfield 11, 3) := by decide +kernel
theorem dX0_add_29 : decode cX0_add 29 = .ok (.aload_n 0, 1) := by decide +kernel
theorem dX0_add_30 : decode cX0_add 30 = .ok (.getfield 22, 3) := by decide +kernel
theorem dX0_add_33 : decode cX0_add 33 = .ok (.aaload, 1) := by decide +kernel
theorem dX0_add_34 : decode cX0_add 34 = .ok (.astore_n 2, 1) := by decide +kernel
theorem dX0_add_35 : decode cX0_add 35 = .ok (.aload_n 2, 1) := by decide +kernel
theorem dX0_add_36 : decode cX0_add 36 = .ok (.ifnull 23, 3) := by decide +kernel
theorem dX0_add_39 : decode cX0_add 39 = .ok (.aload_n 2, 1) := by decide +kernel
theorem dX0_add_40 : decode cX0_add 40 = .ok (.aload_n 1, 1) := by decide +kernel
theorem dX0_add_41 : decode cX0_add 41 = .ok (.invokevirtual 25, 3) := by decide +kernel
theorem dX0_add_44 : decode cX0_add 44 = .ok (.aload_n 0, 1) := by decide +kernel
theorem dX0_add_45 : decode cX0_add 45 = .ok (.bipush 10, 2) := by decide +kernel
theorem dX0_add_47 : decode cX0_add 47 = .ok (.aload_n 0, 1) := by decide +kernel
theorem dX0_add_48 : decode cX0_add 48 = .ok (.getfield 18, 3) := by decide +kernel
theorem dX0_add_51 : decode cX0_add 51 = .ok (.iconst 1, 1) := by decide +kernel
theorem dX0_add_52 : decode cX0_add 52 = .ok (.iadd, 1) := by decide +kernel
theorem dX0_add_53 : decode cX0_add 53 = .ok (.invokestatic 29, 3) := by decide +kernel
theorem dX0_add_56 : decode cX0_add 56 = .ok (.putfield 18, 3) := by decide +kernel
theorem dX0_add_59 : decode cX0_add 59 = .ok (.return_, 1) := by decide +kernel
theorem dX0_takeNewest_0 : decode cX0_takeNewest 0 = .ok (.aload_n 0, 1) := by decide +kernel
theorem dX0_takeNewest_1 : decode cX0_takeNewest 1 = .ok (.getfield 11, 3) := by decide +kernel
theorem dX0_takeNewest_4 : decode cX0_takeNewest 4 = .ok (.aload_n 0, 1) := by decide +kernel
theorem dX0_takeNewest_5 : decode cX0_takeNewest 5 = .ok (.getfield 22, 3) := by decide +kernel
theorem dX0_takeNewest_8 : decode cX0_takeNewest 8 = .ok (.aaload, 1) := by decide +kernel
theorem dX0_takeNewest_9 : decode cX0_takeNewest 9 = .ok (.astore_n 2, 1) := by decide +kernel
theorem dX0_takeNewest_10 : decode cX0_takeNewest 10 = .ok (.aload_n 0, 1) := by decide +kernel
theorem dX0_takeNewest_11 : decode cX0_takeNewest 11 = .ok (.getfield 18, 3) := by decide +kernel
theorem dX0_takeNewest_14 : decode cX0_takeNewest 14 = .ok (.ifCond .le 44, 3) := by decide +kernel
theorem dX0_takeNewest_17 : decode cX0_takeNewest 17 = .ok (.aload_n 2, 1) := by decide +kernel
theorem dX0_takeNewest_18 : decode cX0_takeNewest 18 = .ok (.ifnull 40, 3) := by decide +kernel
theorem dX0_takeNewest_21 : decode cX0_takeNewest 21 = .ok (.aload_n 1, 1) := by decide +kernel
theorem dX0_takeNewest_22 : decode cX0_takeNewest 22 = .ok (.aload_n 2, 1) := by decide +kernel
theorem dX0_takeNewest_23 : decode cX0_takeNewest 23 = .ok (.invokevirtual 25, 3) := by decide +kernel
theorem dX0_takeNewest_26 : decode cX0_takeNewest 26 = .ok (.aload_n 0, 1) := by decide +kernel
theorem dX0_takeNewest_27 : decode cX0_takeNewest 27 = .ok (.dup, 1) := by decide +kernel
theorem dX0_takeNewest_28 : decode cX0_takeNewest 28 = .ok (.getfield 18, 3) := by decide +kernel
theorem dX0_takeNewest_31 : decode cX0_takeNewest 31 = .ok (.iconst 1, 1) := by decide +kernel
theorem dX0_takeNewest_32 : decode cX0_takeNewest 32 = .ok (.isub, 1) := by decide +kernel
theorem dX0_takeNewest_33 : decode cX0_takeNewest 33 = .ok (.putfield 18, 3) := by decide +kernel
theorem dX0_takeNewest_36 : decode cX0_takeNewest 36 = .ok (.aload_n 0, 1) := by decide +kernel
theorem dX0_takeNewest_37 : decode cX0_takeNewest 37 = .ok (.aload_n 0, 1) := by decide +kernel
theorem dX0_takeNewest_38 : decode cX0_takeNewest 38 = .ok (.getfield 22, 3) := by decide +kernel
theorem dX0_takeNewest_41 : decode cX0_takeNewest 41 = .ok (.ifCond .le 12, 3) := by decide +kernel
theorem dX0_takeNewest_44 : decode cX0_takeNewest 44 = .ok (.aload_n 0, 1) := by decide +kernel
theorem dX0_takeNewest_45 : decode cX0_takeNewest 45 = .ok (.getfield 22, 3) := by decide +kernel
theorem dX0_takeNewest_48 : decode cX0_takeNewest 48 = .ok (.iconst 1, 1) := by decide +kernel
theorem dX0_takeNewest_49 : decode cX0_takeNewest 49 = .ok (.isub, 1) := by decide +kernel
theorem dX0_takeNewest_50 : decode cX0_takeNewest 50 = .ok (.goto 5, 3) := by decide +kernel
theorem dX0_takeNewest_53 : decode cX0_takeNewest 53 = .ok (.bipush 9, 2) := by decide +kernel
theorem dX0_takeNewest_55 : decode cX0_takeNewest 55 = .ok (.putfield 22, 3) := by decide +kernel
theorem dX0_takeNewest_58 : decode cX0_takeNewest 58 = .ok (.return_, 1) := by decide +kernel
theorem dX1_init_0 : decode cX1_init 0 = .ok (.aload_n 0, 1) := by decide +kernel
theorem dX1_init_1 : decode cX1_init 1 = .ok (.invokespecial 3, 3) := by decide +kernel
theorem dX1_init_4 : decode cX1_init 4 = .ok (.aload_n 0, 1) := by decide +kernel
theorem dX1_init_5 : decode cX1_init 5 = .ok (.bipush 32, 2) := by decide +kernel
theorem dX1_init_7 : decode cX1_init 7 = .ok (.newarray .byte, 2) := by decide +kernel
theorem dX1_init_9 : decode cX1_init 9 = .ok (.putfield 11, 3) := by decide +kernel
theorem dX1_init_12 : decode cX1_init 12 = .ok (.return_, 1) := by decide +kernel
theorem dX2_init_0 : decode cX2_init 0 = .ok (.aload_n 0, 1) := by decide +kernel
theorem dX2_init_1 : decode cX2_init 1 = .ok (.invokespecial 3, 3) := by decide +kernel
theorem dX2_init_4 : decode cX2_init 4 = .ok (.aload_n 0, 1) := by decide +kernel
theorem dX2_init_5 : decode cX2_init 5 = .ok (.aload_n 1, 1) := by decide +kernel
theorem dX2_init_6 : decode cX2_init 6 = .ok (.putfield 9, 3) := by decide +kernel
theorem dX2_init_9 : decode cX2_init 9 = .ok (.aload_n 0, 1) := by decide +kernel
theorem dX2_init_10 : decode cX2_init 10 = .ok (.aload_n 2, 1) := by decide +kernel
theorem dX2_init_11 : decode cX2_init 11 = .ok (.putfield 15, 3) := by decide +kernel
theorem dX2_init_14 : decode cX2_init 14 = .ok (.return_, 1) := by decide +kernel
theorem dX2_readText_0 : decode cX2_readText 0 = .ok (.aload_n 0, 1) := by decide +kernel
theorem dX2_readText_1 : decode cX2_readText 1 = .ok (.iconst 0, 1) := by decide +kernel
theorem dX2_readText_2 : decode cX2_readText 2 = .ok (.putfield 19, 3) := by decide +kernel
theorem dX2_readText_5 : decode cX2_readText 5 = .ok (.aload_n 0, 1) := by decide +kernel
theorem dX2_readText_6 : decode cX2_readText 6 = .ok (.getfield 15, 3) := by decide +kernel
theorem dX2_readText_9 : decode cX2_readText 9 = .ok (.invokevirtual 23, 3) := by decide +kernel
theorem dX2_readText_12 : decode cX2_readText 12 = .ok (.aload_n 0, 1) := by decide +kernel
theorem dX2_readText_13 : decode cX2_readText 13 = .ok (.invokevirtual 28, 3) := by decide +kernel
theorem dX2_readText_16 : decode cX2_readText 16 = .ok (.istore_n 1, 1) := by decide +kernel
theorem dX2_readText_17 : decode cX2_readText 17 = .ok (.iconst 0, 1) := by decide +kernel
theorem dX2_readText_18 : decode cX2_readText 18 = .ok (.istore_n 2, 1) := by decide +kernel
theorem dX2_readText_19 : decode cX2_readText 19 = .ok (.iload_n 1, 1) := by decide +kernel
theorem dX2_readText_20 : decode cX2_readText 20 = .ok (.ifCond .eq 106, 3) := by decide +kernel
theorem dX2_readText_23 : decode cX2_readText 23 = .ok (.iload_n 2, 1) := by decide +kernel
theorem dX2_readText_24 : decode cX2_readText 24 = .ok (.sipush 900, 3) := by decide +kernel
theorem dX2_readText_27 : decode cX2_readText 27 = .ok (.if_icmp .ge 99, 3) := by decide +kernel
theorem dX2_readText_30 : decode cX2_readText 30 = .ok (.aload_n 0, 1) := by decide +kernel
theorem dX2_readText_31 : decode cX2_readText 31 = .ok (.getfield 9, 3) := by decide +kernel
theorem dX2_readText_34 : decode cX2_readText 34 = .ok (.getfield 32, 3) := by decide +kernel
theorem dX2_readText_37 : decode cX2_readText 37 = .ok (.ifCond .eq 89, 3) := by decide +kernel
theorem dX2_readText_40 : decode cX2_readText 40 = .ok (.aload_n 0, 1) := by decide +kernel
theorem dX2_readText_41 : decode cX2_readText 41 = .ok (.getfield 9, 3) := by decide +kernel
theorem dX2_readText_44 : decode cX2_readText 44 = .ok (.ldc 37, 2) := by decide +kernel
theorem dX2_readText_46 : decode cX2_readText 46 = .ok (.invokevirtual 39, 3) := by decide +kernel
theorem dX2_readText_49 : decode cX2_readText 49 = .ok (.ifCond .eq 10, 3) := by decide +kernel
theorem dX2_readText_52 : decode cX2_readText 52 = .ok (.aload_n 0, 1) := by decide +kernel
theorem dX2_readText_53 : decode cX2_readText 53 = .ok (.invokevirtual 43, 3) := by decide +kernel
theorem dX2_readText_56 : decode cX2_readText 56 = .ok (.goto 46, 3) := by decide +kernel
theorem dX2_readText_59 : decode cX2_readText 59 = .ok (.aload_n 0, 1) := by decide +kernel
theorem dX2_readText_60 : decode cX2_readText 60 = .ok (.getfield 9, 3) := by decide +kernel
theorem dX2_readText_63 : decode cX2_readText 63 = .ok (.ldc 46, 2) := by decide +kernel
theorem dX2_readText_65 : decode cX2_readText 65 = .ok (.invokevirtual 39, 3) := by decide +kernel
theorem dX2_readText_68 : decode cX2_readText 68 = .ok (.ifCond .eq 10, 3) := by decide +kernel
theorem dX2_readText_71 : decode cX2_readText 71 = .ok (.aload_n 0, 1) := by decide +kernel
theorem dX2_readText_72 : decode cX2_readText 72 = .ok (.invokevirtual 48, 3) := by decide +kernel
theorem dX2_readText_75 : decode cX2_readText 75 = .ok (.goto 27, 3) := by decide +kernel
theorem dX2_readText_78 : decode cX2_readText 78 = .ok (.aload_n 0, 1) := by decide +kernel
theorem dX2_readText_79 : decode cX2_readText 79 = .ok (.getfield 9, 3) := by decide +kernel
theorem dX2_readText_82 : decode cX2_readText 82 = .ok (.ldc 51, 2) := by decide +kernel
theorem dX2_readText_84 : decode cX2_readText 84 = .ok (.invokevirtual 39, 3) := by decide +kernel
theorem dX2_readText_87 : decode cX2_readText 87 = .ok (.ifCond .eq 10, 3) := by decide +kernel
theorem dX2_readText_90 : decode cX2_readText 90 = .ok (.aload_n 0, 1) := by decide +kernel
theorem dX2_readText_91 : decode cX2_readText 91 = .ok (.invokevirtual 53, 3) := by decide +kernel
theorem dX2_readText_94 : decode cX2_readText 94 = .ok (.goto 8, 3) := by decide +kernel
theorem dX2_readText_97 : decode cX2_readText 97 = .ok (.aload_n 0, 1) := by decide +kernel
theorem dX2_readText_98 : decode cX2_readText 98 = .ok (.iconst 1, 1) := by decide +kernel
theorem dX2_readText_99 : decode cX2_readText 99 = .ok (.invokevirtual 56, 3) := by decide +kernel
theorem dX2_readText_102 : decode cX2_readText 102 = .ok (.istore_n 1, 1) := by decide +kernel
theorem dX2_readText_103 : decode cX2_readText 103 = .ok (.iload_n 1, 1) := by decide +kernel
theorem dX2_readText_104 : decode cX2_readText 104 = .ok (.ifCond .eq 14, 3) := by decide +kernel
theorem dX2_readText_107 : decode cX2_readText 107 = .ok (.aload_n 0, 1) := by decide +kernel
theorem dX2_readText_108 : decode cX2_readText 108 = .ok (.invokevirtual 60, 3) := by decide +kernel
theorem dX2_readText_111 : decode cX2_readText 111 = .ok (.ifCond .eq 7, 3) := by decide +kernel
theorem dX2_readText_114 : decode cX2_readText 114 = .ok (.iconst 1, 1) := by decide +kernel
theorem dX2_readText_115 : decode cX2_readText 115 = .ok (.goto 4, 3) := by decide +kernel
theorem dX2_readText_118 : decode cX2_readText 118 = .ok (.iconst 0, 1) := by decide +kernel
theorem dX2_readText_119 : decode cX2_readText 119 = .ok (.istore_n 1, 1) := by decide +kernel
theorem dX2_readText_120 : decode cX2_readText 120 = .ok (.iinc 2 1, 3) := by decide +kernel
theorem dX2_readText_123 : decode cX2_readText 123 = .ok (.goto (-104), 3) := by decide +kernel
theorem dX2_readText_126 : decode cX2_readText 126 = .ok (.aload_n 0, 1) := by decide +kernel
theorem dX2_readText_127 : decode cX2_readText 127 = .ok (.getfield 19, 3) := by decide +kernel
theorem dX2_readText_130 : decode cX2_readText 130 = .ok (.ireturn, 1) := by decide +kernel
theorem dX2_readHead_0 : decode cX2_readHead 0 = .ok (.aload_n 0, 1) := by decide +kernel
theorem dX2_readHead_1 : decode cX2_readHead 1 = .ok (.ldc 63, 2) := by decide +kernel
theorem dX2_readHead_3 : decode cX2_readHead 3 = .ok (.invokevirtual 64, 3) := by decide +kernel
theorem dX2_readHead_6 : decode cX2_readHead 6 = .ok (.ifCond .eq 35, 3) := by decide +kernel
theorem dX2_readHead_9 : decode cX2_readHead 9 = .ok (.aload_n 0, 1) := by decide +kernel
theorem dX2_readHead_10 : decode cX2_readHead 10 = .ok (.invokevirtual 67, 3) := by decide +kernel
theorem dX2_readHead_13 : decode cX2_readHead 13 = .ok (.ifCond .eq 28, 3) := by decide +kernel
theorem dX2_readHead_16 : decode cX2_readHead 16 = .ok (.aload_n 0, 1) := by decide +kernel
theorem dX2_readHead_17 : decode cX2_readHead 17 = .ok (.invokevirtual 70, 3) := by decide +kernel
theorem dX2_readHead_20 : decode cX2_readHead 20 = .ok (.ifCond .eq 21, 3) := by decide +kernel
theorem dX2_readHead_23 : decode cX2_readHead 23 = .ok (.aload_n 0, 1) := by decide +kernel
theorem dX2_readHead_24 : decode cX2_readHead 24 = .ok (.invokevirtual 73, 3) := by decide +kernel
theorem dX2_readHead_27 : decode cX2_readHead 27 = .ok (.ifCond .eq 14, 3) := by decide +kernel
theorem dX2_readHead_30 : decode cX2_readHead 30 = .ok (.aload_n 0, 1) := by decide +kernel
theorem dX2_readHead_31 : decode cX2_readHead 31 = .ok (.invokevirtual 60, 3) := by decide +kernel
theorem dX2_readHead_34 : decode cX2_readHead 34 = .ok (.ifCond .eq 7, 3) := by decide +kernel
theorem dX2_readHead_37 : decode cX2_readHead 37 = .ok (.iconst 1, 1) := by decide +kernel
theorem dX2_readHead_38 : decode cX2_readHead 38 = .ok (.goto 4, 3) := by decide +kernel
theorem dX2_readHead_41 : decode cX2_readHead 41 = .ok (.iconst 0, 1) := by decide +kernel
theorem dX2_readHead_42 : decode cX2_readHead 42 = .ok (.ireturn, 1) := by decide +kernel
theorem dX2_readKeep_0 : decode cX2_readKeep 0 = .ok (.aload_n 0, 1) := by decide +kernel
theorem dX2_readKeep_1 : decode cX2_readKeep 1 = .ok (.getfield 9, 3) := by decide +kernel
theorem dX2_readKeep_4 : decode cX2_readKeep 4 = .ok (.ldc 76, 2) := by decide +kernel
theorem dX2_readKeep_6 : decode cX2_readKeep 6 = .ok (.invokevirtual 39, 3) := by decide +kernel
theorem dX2_readKeep_9 : decode cX2_readKeep 9 = .ok (.ifCond .ne 5, 3) := by decide +kernel
theorem dX2_readKeep_12 : decode cX2_readKeep 12 = .ok (.iconst 1, 1) := by decide +kernel
theorem dX2_readKeep_13 : decode cX2_readKeep 13 = .ok (.ireturn, 1) := by decide +kernel
theorem dX2_readKeep_14 : decode cX2_readKeep 14 = .ok (.aload_n 0, 1) := by decide +kernel
theorem dX2_readKeep_15 : decode cX2_readKeep 15 = .ok (.getfield 9, 3) := by decide +kernel
theorem dX2_readKeep_18 : decode cX2_readKeep 18 = .ok (.invokevirtual 78, 3) := by decide +kernel
theorem dX2_readKeep_21 : decode cX2_readKeep 21 = .ok (.aload_n 0, 1) := by decide +kernel
theorem dX2_readKeep_22 : decode cX2_readKeep 22 = .ok (.iconst 0, 1) := by decide +kernel
theorem dX2_readKeep_23 : decode cX2_readKeep 23 = .ok (.iconst 3, 1) := by decide +kernel
theorem dX2_readKeep_24 : decode cX2_readKeep 24 = .ok (.invokevirtual 81, 3) := by decide +kernel
theorem dX2_readKeep_27 : decode cX2_readKeep 27 = .ok (.ifCond .ne 5, 3) := by decide +kernel
theorem dX2_readKeep_30 : decode cX2_readKeep 30 = .ok (.iconst 0, 1) := by decide +kernel
theorem dX2_readKeep_31 : decode cX2_readKeep 31 = .ok (.ireturn, 1) := by decide +kernel
theorem dX2_readKeep_32 : decode cX2_readKeep 32 = .ok (.aload_n 0, 1) := by decide +kernel
theorem dX2_readKeep_33 : decode cX2_readKeep 33 = .ok (.getfield 15, 3) := by decide +kernel
theorem dX2_readKeep_36 : decode cX2_readKeep 36 = .ok (.aload_n 0, 1) := by decide +kernel
theorem dX2_readKeep_37 : decode cX2_readKeep 37 = .ok (.getfield 85, 3) := by decide +kernel
theorem dX2_readKeep_40 : decode cX2_readKeep 40 = .ok (.putfield 88, 3) := by decide +kernel
theorem dX2_readKeep_43 : decode cX2_readKeep 43 = .ok (.iconst 1, 1) := by decide +kernel
theorem dX2_readKeep_44 : decode cX2_readKeep 44 = .ok (.ireturn, 1) := by decide +kernel
theorem dX2_readPer_0 : decode cX2_readPer 0 = .ok (.aload_n 0, 1) := by decide +kernel
theorem dX2_readPer_1 : decode cX2_readPer 1 = .ok (.getfield 9, 3) := by decide +kernel
theorem dX2_readPer_4 : decode cX2_readPer 4 = .ok (.ldc 90, 2) := by decide +kernel
theorem dX2_readPer_6 : decode cX2_readPer 6 = .ok (.invokevirtual 39, 3) := by decide +kernel
theorem dX2_readPer_9 : decode cX2_readPer 9 = .ok (.ifCond .ne 5, 3) := by decide +kernel
theorem dX2_readPer_12 : decode cX2_readPer 12 = .ok (.iconst 1, 1) := by decide +kernel
theorem dX2_readPer_13 : decode cX2_readPer 13 = .ok (.ireturn, 1) := by decide +kernel
theorem dX2_readPer_14 : decode cX2_readPer 14 = .ok (.aload_n 0, 1) := by decide +kernel
theorem dX2_readPer_15 : decode cX2_readPer 15 = .ok (.getfield 9, 3) := by decide +kernel
theorem dX2_readPer_18 : decode cX2_readPer 18 = .ok (.invokevirtual 78, 3) := by decide +kernel
theorem dX2_readPer_21 : decode cX2_readPer 21 = .ok (.aload_n 0, 1) := by decide +kernel
theorem dX2_readPer_22 : decode cX2_readPer 22 = .ok (.iconst 1, 1) := by decide +kernel
theorem dX2_readPer_23 : decode cX2_readPer 23 = .ok (.bipush 9, 2) := by decide +kernel
theorem dX2_readPer_25 : decode cX2_readPer 25 = .ok (.invokevirtual 81, 3) := by decide +kernel
theorem dX2_readPer_28 : decode cX2_readPer 28 = .ok (.ifCond .ne 5, 3) := by decide +kernel
theorem dX2_readPer_31 : decode cX2_readPer 31 = .ok (.iconst 0, 1) := by decide +kernel
theorem dX2_readPer_32 : decode cX2_readPer 32 = .ok (.ireturn, 1) := by decide +kernel
theorem dX2_readPer_33 : decode cX2_readPer 33 = .ok (.aload_n 0, 1) := by decide +kernel
theorem dX2_readPer_34 : decode cX2_readPer 34 = .ok (.getfield 15, 3) := by decide +kernel
theorem dX2_readPer_37 : decode cX2_readPer 37 = .ok (.aload_n 0, 1) := by decide +kernel
theorem dX2_readPer_38 : decode cX2_readPer 38 = .ok (.getfield 85, 3) := by decide +kernel
theorem dX2_readPer_41 : decode cX2_readPer 41 = .ok (.putfield 92, 3) := by decide +kernel
theorem dX2_readPer_44 : decode cX2_readPer 44 = .ok (.iconst 1, 1) := by decide +kernel
theorem dX2_readPer_45 : decode cX2_readPer 45 = .ok (.ireturn, 1) := by decide +kernel
theorem dX2_readPool_0 : decode cX2_readPool 0 = .ok (.aload_n 0, 1) := by decide +kernel
theorem dX2_readPool_1 : decode cX2_readPool 1 = .ok (.getfield 9, 3) := by decide +kernel
theorem dX2_readPool_4 : decode cX2_readPool 4 = .ok (.ldc 94, 2) := by decide +kernel
theorem dX2_readPool_6 : decode cX2_readPool 6 = .ok (.invokevirtual 39, 3) := by decide +kernel
theorem dX2_readPool_9 : decode cX2_readPool 9 = .ok (.ifCond .ne 5, 3) := by decide +kernel
theorem dX2_readPool_12 : decode cX2_readPool 12 = .ok (.iconst 1, 1) := by decide +kernel
theorem dX2_readPool_13 : decode cX2_readPool 13 = .ok (.ireturn, 1) := by decide +kernel
theorem dX2_readPool_14 : decode cX2_readPool 14 = .ok (.aload_n 0, 1) := by decide +kernel
theorem dX2_readPool_15 : decode cX2_readPool 15 = .ok (.getfield 9, 3) := by decide +kernel
theorem dX2_readPool_18 : decode cX2_readPool 18 = .ok (.invokevirtual 78, 3) := by decide +kernel
theorem dX2_readPool_21 : decode cX2_readPool 21 = .ok (.aload_n 0, 1) := by decide +kernel
theorem dX2_readPool_22 : decode cX2_readPool 22 = .ok (.iconst 1, 1) := by decide +kernel
theorem dX2_readPool_23 : decode cX2_readPool 23 = .ok (.sipush 250, 3) := by decide +kernel
theorem dX2_readPool_26 : decode cX2_readPool 26 = .ok (.invokevirtual 81, 3) := by decide +kernel
theorem dX2_readPool_29 : decode cX2_readPool 29 = .ok (.ifCond .ne 5, 3) := by decide +kernel
theorem dX2_readPool_32 : decode cX2_readPool 32 = .ok (.iconst 0, 1) := by decide +kernel
theorem dX2_readPool_33 : decode cX2_readPool 33 = .ok (.ireturn, 1) := by decide +kernel
theorem dX2_readPool_34 : decode cX2_readPool 34 = .ok (.aload_n 0, 1) := by decide +kernel
theorem dX2_readPool_35 : decode cX2_readPool 35 = .ok (.getfield 15, 3) := by decide +kernel
theorem dX2_readPool_38 : decode cX2_readPool 38 = .ok (.aload_n 0, 1) := by decide +kernel
theorem dX2_readPool_39 : decode cX2_readPool 39 = .ok (.getfield 85, 3) := by decide +kernel
theorem dX2_readPool_42 : decode cX2_readPool 42 = .ok (.putfield 96, 3) := by decide +kernel
theorem dX2_readPool_45 : decode cX2_readPool 45 = .ok (.aload_n 0, 1) := by decide +kernel
theorem dX2_readPool_46 : decode cX2_readPool 46 = .ok (.aload_n 0, 1) := by decide +kernel
theorem dX2_readPool_47 : decode cX2_readPool 47 = .ok (.getfield 15, 3) := by decide +kernel
theorem dX2_readPool_50 : decode cX2_readPool 50 = .ok (.getfield 96, 3) := by decide +kernel
theorem dX2_readPool_53 : decode cX2_readPool 53 = .ok (.sipush 250, 3) := by decide +kernel
theorem dX2_readPool_56 : decode cX2_readPool 56 = .ok (.invokevirtual 81, 3) := by decide +kernel
theorem dX2_readPool_59 : decode cX2_readPool 59 = .ok (.ifCond .ne 5, 3) := by decide +kernel
theorem dX2_readPool_62 : decode cX2_readPool 62 = .ok (.iconst 0, 1) := by decide +kernel
theorem dX2_readPool_63 : decode cX2_readPool 63 = .ok (.ireturn, 1) := by decide +kernel
theorem dX2_readPool_64 : decode cX2_readPool 64 = .ok (.aload_n 0, 1) := by decide +kernel
theorem dX2_readPool_65 : decode cX2_readPool 65 = .ok (.getfield 15, 3) := by decide +kernel
theorem dX2_readPool_68 : decode cX2_readPool 68 = .ok (.aload_n 0, 1) := by decide +kernel
theorem dX2_readPool_69 : decode cX2_readPool 69 = .ok (.getfield 85, 3) := by decide +kernel
theorem dX2_readPool_72 : decode cX2_readPool 72 = .ok (.putfield 99, 3) := by decide +kernel
theorem dX2_readPool_75 : decode cX2_readPool 75 = .ok (.iconst 1, 1) := by decide +kernel
theorem dX2_readPool_76 : decode cX2_readPool 76 = .ok (.ireturn, 1) := by decide +kernel
theorem dX2_readHost_0 : decode cX2_readHost 0 = .ok (.aload_n 0, 1) := by decide +kernel
theorem dX2_readHost_1 : decode cX2_readHost 1 = .ok (.getfield 15, 3) := by decide +kernel
theorem dX2_readHost_4 : decode cX2_readHost 4 = .ok (.getfield 102, 3) := by decide +kernel
theorem dX2_readHost_7 : decode cX2_readHost 7 = .ok (.bipush 40, 2) := by decide +kernel
theorem dX2_readHost_9 : decode cX2_readHost 9 = .ok (.if_icmp .lt 9, 3) := by decide +kernel
theorem dX2_readHost_12 : decode cX2_readHost 12 = .ok (.aload_n 0, 1) := by decide +kernel
theorem dX2_readHost_13 : decode cX2_readHost 13 = .ok (.iconst 3, 1) := by decide +kernel
theorem dX2_readHost_14 : decode cX2_readHost 14 = .ok (.invokevirtual 56, 3) := by decide +kernel
theorem dX2_readHost_17 : decode cX2_readHost 17 = .ok (.ireturn, 1) := by decide +kernel
theorem dX2_readHost_18 : decode cX2_readHost 18 = .ok (.aload_n 0, 1) := by decide +kernel
theorem dX2_readHost_19 : decode cX2_readHost 19 = .ok (.getfield 9, 3) := by decide +kernel
theorem dX2_readHost_22 : decode cX2_readHost 22 = .ok (.invokevirtual 78, 3) := by decide +kernel
theorem dX2_readHost_25 : decode cX2_readHost 25 = .ok (.aload_n 0, 1) := by decide +kernel
theorem dX2_readHost_26 : decode cX2_readHost 26 = .ok (.getfield 9, 3) := by decide +kernel
theorem dX2_readHost_29 : decode cX2_readHost 29 = .ok (.getfield 32, 3) := by decide +kernel
theorem dX2_readHost_32 : decode cX2_readHost 32 = .ok (.iconst 1, 1) := by decide +kernel
theorem dX2_readHost_33 : decode cX2_readHost 33 = .ok (.if_icmp .eq 9, 3) := by decide +kernel
theorem dX2_readHost_36 : decode cX2_readHost 36 = .ok (.aload_n 0, 1) := by decide +kernel
theorem dX2_readHost_37 : decode cX2_readHost 37 = .ok (.iconst 1, 1) := by decide +kernel
theorem dX2_readHost_38 : decode cX2_readHost 38 = .ok (.invokevirtual 56, 3) := by decide +kernel
theorem dX2_readHost_41 : decode cX2_readHost 41 = .ok (.ireturn, 1) := by decide +kernel
theorem dX2_readHost_42 : decode cX2_readHost 42 = .ok (.aload_n 0, 1) := by decide +kernel
theorem dX2_readHost_43 : decode cX2_readHost 43 = .ok (.getfield 9, 3) := by decide +kernel
theorem dX2_readHost_46 : decode cX2_readHost 46 = .ok (.invokevirtual 105, 3) := by decide +kernel
theorem dX2_readHost_49 : decode cX2_readHost 49 = .ok (.bipush 8, 2) := by decide +kernel
theorem dX2_readHost_51 : decode cX2_readHost 51 = .ok (.if_icmp .le 9, 3) := by decide +kernel
theorem dX2_readHost_54 : decode cX2_readHost 54 = .ok (.aload_n 0, 1) := by decide +kernel
theorem dX2_readHost_55 : decode cX2_readHost 55 = .ok (.iconst 2, 1) := by decide +kernel
theorem dX2_readHost_56 : decode cX2_readHost 56 = .ok (.invokevirtual 56, 3) := by decide +kernel
theorem dX2_readHost_59 : decode cX2_readHost 59 = .ok (.ireturn, 1) := by decide +kernel
theorem dX2_readHost_60 : decode cX2_readHost 60 = .ok (.aload_n 0, 1) := by decide +kernel
theorem dX2_readHost_61 : decode cX2_readHost 61 = .ok (.getfield 9, 3) := by decide +kernel
theorem dX2_readHost_64 : decode cX2_readHost 64 = .ok (.invokevirtual 109, 3) := by decide +kernel
theorem dX2_readHost_67 : decode cX2_readHost 67 = .ok (.lstore_n 1, 1) := by decide +kernel
theorem dX2_readHost_68 : decode cX2_readHost 68 = .ok (.aload_n 0, 1) := by decide +kernel
theorem dX2_readHost_69 : decode cX2_readHost 69 = .ok (.getfield 15, 3) := by decide +kernel
theorem dX2_readHost_72 : decode cX2_readHost 72 = .ok (.lload_n 1, 1) := by decide +kernel
theorem dX2_readHost_73 : decode cX2_readHost 73 = .ok (.invokevirtual 113, 3) := by decide +kernel
theorem dX2_readHost_76 : decode cX2_readHost 76 = .ok (.iconst (-1), 1) := by decide +kernel
theorem dX2_readHost_77 : decode cX2_readHost 77 = .ok (.if_icmp .eq 9, 3) := by decide +kernel
theorem dX2_readHost_80 : decode cX2_readHost 80 = .ok (.aload_n 0, 1) := by decide +kernel
theorem dX2_readHost_81 : decode cX2_readHost 81 = .ok (.iconst 3, 1) := by decide +kernel
theorem dX2_readHost_82 : decode cX2_readHost 82 = .ok (.invokevirtual 56, 3) := by decide +kernel
theorem dX2_readHost_85 : decode cX2_readHost 85 = .ok (.ireturn, 1) := by decide +kernel
theorem dX2_readHost_86 : decode cX2_readHost 86 = .ok (.aload_n 0, 1) := by decide +kernel
theorem dX2_readHost_87 : decode cX2_readHost 87 = .ok (.getfield 9, 3) := by decide +kernel
theorem dX2_readHost_90 : decode cX2_readHost 90 = .ok (.invokevirtual 78, 3) := by decide +kernel
theorem dX2_readHost_93 : decode cX2_readHost 93 = .ok (.aload_n 0, 1) := by decide +kernel
theorem dX2_readHost_94 : decode cX2_readHost 94 = .ok (.iconst 0, 1) := by decide +kernel
theorem dX2_readHost_95 : decode cX2_readHost 95 = .ok (.iconst 1, 1) := by decide +kernel
theorem dX2_readHost_96 : decode cX2_readHost 96 = .ok (.invokevirtual 81, 3) := by decide +kernel
theorem dX2_readHost_99 : decode cX2_readHost 99 = .ok (.ifCond .ne 5, 3) := by decide +kernel
theorem dX2_readHost_102 : decode cX2_readHost 102 = .ok (.iconst 0, 1) := by decide +kernel
theorem dX2_readHost_103 : decode cX2_readHost 103 = .ok (.ireturn, 1) := by decide +kernel
theorem dX2_readHost_104 : decode cX2_readHost 104 = .ok (.aload_n 0, 1) := by decide +kernel
theorem dX2_readHost_105 : decode cX2_readHost 105 = .ok (.getfield 85, 3) := by decide +kernel
theorem dX2_readHost_108 : decode cX2_readHost 108 = .ok (.istore_n 3, 1) := by decide +kernel
theorem dX2_readHost_109 : decode cX2_readHost 109 = .ok (.aload_n 0, 1) := by decide +kernel
theorem dX2_readHost_110 : decode cX2_readHost 110 = .ok (.iconst 1, 1) := by decide +kernel
theorem dX2_readHost_111 : decode cX2_readHost 111 = .ok (.sipush 250, 3) := by decide +kernel
theorem dX2_readHost_114 : decode cX2_readHost 114 = .ok (.invokevirtual 117, 3) := by decide +kernel
theorem dX2_readHost_117 : decode cX2_readHost 117 = .ok (.ifCond .ne 5, 3) := by decide +kernel
theorem dX2_readHost_120 : decode cX2_readHost 120 = .ok (.iconst 0, 1) := by decide +kernel
theorem dX2_readHost_121 : decode cX2_readHost 121 = .ok (.ireturn, 1) := by decide +kernel
theorem dX2_readHost_122 : decode cX2_readHost 122 = .ok (.aload_n 0, 1) := by decide +kernel
theorem dX2_readHost_123 : decode cX2_readHost 123 = .ok (.getfield 15, 3) := by decide +kernel
theorem dX2_readHost_126 : decode cX2_readHost 126 = .ok (.iload_n 3, 1) := by decide +kernel
theorem dX2_readHost_127 : decode cX2_readHost 127 = .ok (.aload_n 0, 1) := by decide +kernel
theorem dX2_readHost_128 : decode cX2_readHost 128 = .ok (.getfield 9, 3) := by decide +kernel
theorem dX2_readHost_131 : decode cX2_readHost 131 = .ok (.getfield 120, 3) := by decide +kernel
theorem dX2_readHost_134 : decode cX2_readHost 134 = .ok (.invokevirtual 123, 3) := by decide +kernel
theorem dX2_readHost_137 : decode cX2_readHost 137 = .ok (.iconst (-1), 1) := by decide +kernel
theorem dX2_readHost_138 : decode cX2_readHost 138 = .ok (.if_icmp .eq 9, 3) := by decide +kernel
theorem dX2_readHost_141 : decode cX2_readHost 141 = .ok (.aload_n 0, 1) := by decide +kernel
theorem dX2_readHost_142 : decode cX2_readHost 142 = .ok (.iconst 3, 1) := by decide +kernel
theorem dX2_readHost_143 : decode cX2_readHost 143 = .ok (.invokevirtual 56, 3) := by decide +kernel
theorem dX2_readHost_146 : decode cX2_readHost 146 = .ok (.ireturn, 1) := by decide +kernel
theorem dX2_readHost_147 : decode cX2_readHost 147 = .ok (.aload_n 0, 1) := by decide +kernel
theorem dX2_readHost_148 : decode cX2_readHost 148 = .ok (.getfield 15, 3) := by decide +kernel
theorem dX2_readHost_151 : decode cX2_readHost 151 = .ok (.lload_n 1, 1) := by decide +kernel
theorem dX2_readHost_152 : decode cX2_readHost 152 = .ok (.iload_n 3, 1) := by decide +kernel
theorem dX2_readHost_153 : decode cX2_readHost 153 = .ok (.aload_n 0, 1) := by decide +kernel
theorem dX2_readHost_154 : decode cX2_readHost 154 = .ok (.getfield 9, 3) := by decide +kernel
theorem dX2_readHost_157 : decode cX2_readHost 157 = .ok (.getfield 120, 3) := by decide +kernel
theorem dX2_readHost_160 : decode cX2_readHost 160 = .ok (.invokevirtual 127, 3) := by decide +kernel
theorem dX2_readHost_163 : decode cX2_readHost 163 = .ok (.istore 4, 2) := by decide +kernel
theorem dX2_readHost_165 : decode cX2_readHost 165 = .ok (.aload_n 0, 1) := by decide +kernel
theorem dX2_readHost_166 : decode cX2_readHost 166 = .ok (.getfield 9, 3) := by decide +kernel
theorem dX2_readHost_169 : decode cX2_readHost 169 = .ok (.invokevirtual 78, 3) := by decide +kernel
theorem dX2_readHost_172 : decode cX2_readHost 172 = .ok (.iload 4, 2) := by decide +kernel
theorem dX2_readHost_174 : decode cX2_readHost 174 = .ok (.iconst (-1), 1) := by decide +kernel
theorem dX2_readHost_175 : decode cX2_readHost 175 = .ok (.if_icmp .eq 33, 3) := by decide +kernel
theorem dX2_readHost_178 : decode cX2_readHost 178 = .ok (.aload_n 0, 1) := by decide +kernel
theorem dX2_readHost_179 : decode cX2_readHost 179 = .ok (.getfield 9, 3) := by decide +kernel
theorem dX2_readHost_182 : decode cX2_readHost 182 = .ok (.ldc 131, 2) := by decide +kernel
theorem dX2_readHost_184 : decode cX2_readHost 184 = .ok (.invokevirtual 39, 3) := by decide +kernel
theorem dX2_readHost_187 : decode cX2_readHost 187 = .ok (.ifCond .eq 21, 3) := by decide +kernel
theorem dX2_readHost_190 : decode cX2_readHost 190 = .ok (.aload_n 0, 1) := by decide +kernel
theorem dX2_readHost_191 : decode cX2_readHost 191 = .ok (.getfield 15, 3) := by decide +kernel
theorem dX2_readHost_194 : decode cX2_readHost 194 = .ok (.getfield 133, 3) := by decide +kernel
theorem dX2_readHost_197 : decode cX2_readHost 197 = .ok (.iload 4, 2) := by decide +kernel
theorem dX2_readHost_199 : decode cX2_readHost 199 = .ok (.iconst 1, 1) := by decide +kernel
theorem dX2_readHost_200 : decode cX2_readHost 200 = .ok (.iastore, 1) := by decide +kernel
theorem dX2_readHost_201 : decode cX2_readHost 201 = .ok (.aload_n 0, 1) := by decide +kernel
theorem dX2_readHost_202 : decode cX2_readHost 202 = .ok (.getfield 9, 3) := by decide +kernel
theorem dX2_readHost_205 : decode cX2_readHost 205 = .ok (.invokevirtual 78, 3) := by decide +kernel
theorem dX2_readHost_208 : decode cX2_readHost 208 = .ok (.iconst 1, 1) := by decide +kernel
theorem dX2_readHost_209 : decode cX2_readHost 209 = .ok (.ireturn, 1) := by decide +kernel
theorem dX2_readRule_0 : decode cX2_readRule 0 = .ok (.aload_n 0, 1) := by decide +kernel
theorem dX2_readRule_1 : decode cX2_readRule 1 = .ok (.getfield 15, 3) := by decide +kernel
theorem dX2_readRule_4 : decode cX2_readRule 4 = .ok (.getfield 136, 3) := by decide +kernel
theorem dX2_readRule_7 : decode cX2_readRule 7 = .ok (.bipush 30, 2) := by decide +kernel
theorem dX2_readRule_9 : decode cX2_readRule 9 = .ok (.if_icmp .lt 9, 3) := by decide +kernel
theorem dX2_readRule_12 : decode cX2_readRule 12 = .ok (.aload_n 0, 1) := by decide +kernel
theorem dX2_readRule_13 : decode cX2_readRule 13 = .ok (.iconst 3, 1) := by decide +kernel
theorem dX2_readRule_14 : decode cX2_readRule 14 = .ok (.invokevirtual 56, 3) := by decide +kernel
theorem dX2_readRule_17 : decode cX2_readRule 17 = .ok (.ireturn, 1) := by decide +kernel
theorem dX2_readRule_18 : decode cX2_readRule 18 = .ok (.aload_n 0, 1) := by decide +kernel
theorem dX2_readRule_19 : decode cX2_readRule 19 = .ok (.getfield 9, 3) := by decide +kernel
theorem dX2_readRule_22 : decode cX2_readRule 22 = .ok (.invokevirtual 78, 3) := by decide +kernel
theorem dX2_readRule_25 : decode cX2_readRule 25 = .ok (.aload_n 0, 1) := by decide +kernel
theorem dX2_readRule_26 : decode cX2_readRule 26 = .ok (.iconst 0, 1) := by decide +kernel
theorem dX2_readRule_27 : decode cX2_readRule 27 = .ok (.iconst 1, 1) := by decide +kernel
theorem dX2_readRule_28 : decode cX2_readRule 28 = .ok (.invokevirtual 81, 3) := by decide +kernel
theorem dX2_readRule_31 : decode cX2_readRule 31 = .ok (.ifCond .ne 5, 3) := by decide +kernel
theorem dX2_readRule_34 : decode cX2_readRule 34 = .ok (.iconst 0, 1) := by decide +kernel
theorem dX2_readRule_35 : decode cX2_readRule 35 = .ok (.ireturn, 1) := by decide +kernel
theorem dX2_readRule_36 : decode cX2_readRule 36 = .ok (.aload_n 0, 1) := by decide +kernel
theorem dX2_readRule_37 : decode cX2_readRule 37 = .ok (.getfield 85, 3) := by decide +kernel
theorem dX2_readRule_40 : decode cX2_readRule 40 = .ok (.istore_n 1, 1) := by decide +kernel
theorem dX2_readRule_41 : decode cX2_readRule 41 = .ok (.aload_n 0, 1) := by decide +kernel
theorem dX2_readRule_42 : decode cX2_readRule 42 = .ok (.getfield 9, 3) := by decide +kernel
theorem dX2_readRule_45 : decode cX2_readRule 45 = .ok (.ldc 139, 2) := by decide +kernel
theorem dX2_readRule_47 : decode cX2_readRule 47 = .ok (.invokevirtual 39, 3) := by decide +kernel
theorem dX2_readRule_50 : decode cX2_readRule 50 = .ok (.istore_n 2, 1) := by decide +kernel
theorem dX2_readRule_51 : decode cX2_readRule 51 = .ok (.iload_n 2, 1) := by decide +kernel
theorem dX2_readRule_52 : decode cX2_readRule 52 = .ok (.ifCond .ne 21, 3) := by decide +kernel
theorem dX2_readRule_55 : decode cX2_readRule 55 = .ok (.aload_n 0, 1) := by decide +kernel
theorem dX2_readRule_56 : decode cX2_readRule 56 = .ok (.getfield 9, 3) := by decide +kernel
theorem dX2_readRule_59 : decode cX2_readRule 59 = .ok (.ldc 141, 2) := by decide +kernel
theorem dX2_readRule_61 : decode cX2_readRule 61 = .ok (.invokevirtual 39, 3) := by decide +kernel
theorem dX2_readRule_64 : decode cX2_readRule 64 = .ok (.ifCond .ne 9, 3) := by decide +kernel
theorem dX2_readRule_67 : decode cX2_readRule 67 = .ok (.aload_n 0, 1) := by decide +kernel
theorem dX2_readRule_68 : decode cX2_readRule 68 = .ok (.iconst 1, 1) := by decide +kernel
theorem dX2_readRule_69 : decode cX2_readRule 69 = .ok (.invokevirtual 56, 3) := by decide +kernel
theorem dX2_readRule_72 : decode cX2_readRule 72 = .ok (.ireturn, 1) := by decide +kernel
theorem dX2_readRule_73 : decode cX2_readRule 73 = .ok (.aload_n 0, 1) := by decide +kernel
theorem dX2_readRule_74 : decode cX2_readRule 74 = .ok (.getfield 9, 3) := by decide +kernel
theorem dX2_readRule_77 : decode cX2_readRule 77 = .ok (.invokevirtual 78, 3) := by decide +kernel
theorem dX2_readRule_80 : decode cX2_readRule 80 = .ok (.aload_n 0, 1) := by decide +kernel
theorem dX2_readRule_81 : decode cX2_readRule 81 = .ok (.invokevirtual 143, 3) := by decide +kernel
theorem dX2_readRule_84 : decode cX2_readRule 84 = .ok (.ifCond .ne 5, 3) := by decide +kernel
theorem dX2_readRule_87 : decode cX2_readRule 87 = .ok (.iconst 0, 1) := by decide +kernel
theorem dX2_readRule_88 : decode cX2_readRule 88 = .ok (.ireturn, 1) := by decide +kernel
theorem dX2_readRule_89 : decode cX2_readRule 89 = .ok (.aload_n 0, 1) := by decide +kernel
theorem dX2_readRule_90 : decode cX2_readRule 90 = .ok (.getfield 85, 3) := by decide +kernel
theorem dX2_readRule_93 : decode cX2_readRule 93 = .ok (.istore_n 3, 1) := by decide +kernel
theorem dX2_readRule_94 : decode cX2_readRule 94 = .ok (.aload_n 0, 1) := by decide +kernel
theorem dX2_readRule_95 : decode cX2_readRule 95 = .ok (.invokevirtual 143, 3) := by decide +kernel
theorem dX2_readRule_98 : decode cX2_readRule 98 = .ok (.ifCond .ne 5, 3) := by decide +kernel
theorem dX2_readRule_101 : decode cX2_readRule 101 = .ok (.iconst 0, 1) := by decide +kernel
theorem dX2_readRule_102 : decode cX2_readRule 102 = .ok (.ireturn, 1) := by decide +kernel
theorem dX2_readRule_103 : decode cX2_readRule 103 = .ok (.aload_n 0, 1) := by decide +kernel
theorem dX2_readRule_104 : decode cX2_readRule 104 = .ok (.getfield 15, 3) := by decide +kernel
theorem dX2_readRule_107 : decode cX2_readRule 107 = .ok (.iload_n 1, 1) := by decide +kernel
theorem dX2_readRule_108 : decode cX2_readRule 108 = .ok (.iload_n 2, 1) := by decide +kernel
theorem dX2_readRule_109 : decode cX2_readRule 109 = .ok (.iload_n 3, 1) := by decide +kernel
theorem dX2_readRule_110 : decode cX2_readRule 110 = .ok (.aload_n 0, 1) := by decide +kernel
theorem dX2_readRule_111 : decode cX2_readRule 111 = .ok (.getfield 85, 3) := by decide +kernel
theorem dX2_readRule_114 : decode cX2_readRule 114 = .ok (.invokevirtual 146, 3) := by decide +kernel
theorem dX2_readRule_117 : decode cX2_readRule 117 = .ok (.pop, 1) := by decide +kernel
theorem dX2_readRule_118 : decode cX2_readRule 118 = .ok (.iconst 1, 1) := by decide +kernel
theorem dX2_readRule_119 : decode cX2_readRule 119 = .ok (.ireturn, 1) := by decide +kernel
theorem dX2_takeSide_0 : decode cX2_takeSide 0 = .ok (.aload_n 0, 1) := by decide +kernel
theorem dX2_takeSide_1 : decode cX2_takeSide 1 = .ok (.getfield 9, 3) := by decide +kernel
theorem dX2_takeSide_4 : decode cX2_takeSide 4 = .ok (.ldc 150, 2) := by decide +kernel
theorem dX2_takeSide_6 : decode cX2_takeSide 6 = .ok (.invokevirtual 39, 3) := by decide +kernel
theorem dX2_takeSide_9 : decode cX2_takeSide 9 = .ok (.ifCond .eq 17, 3) := by decide +kernel
theorem dX2_takeSide_12 : decode cX2_takeSide 12 = .ok (.aload_n 0, 1) := by decide +kernel
theorem dX2_takeSide_13 : decode cX2_takeSide 13 = .ok (.iconst 0, 1) := by decide +kernel
theorem dX2_takeSide_14 : decode cX2_takeSide 14 = .ok (.putfield 85, 3) := by decide +kernel
theorem dX2_takeSide_17 : decode cX2_takeSide 17 = .ok (.aload_n 0, 1) := by decide +kernel
theorem dX2_takeSide_18 : decode cX2_takeSide 18 = .ok (.getfield 9, 3) := by decide +kernel
theorem dX2_takeSide_21 : decode cX2_takeSide 21 = .ok (.invokevirtual 78, 3) := by decide +kernel
theorem dX2_takeSide_24 : decode cX2_takeSide 24 = .ok (.iconst 1, 1) := by decide +kernel
theorem dX2_takeSide_25 : decode cX2_takeSide 25 = .ok (.ireturn, 1) := by decide +kernel
theorem dX2_takeSide_26 : decode cX2_takeSide 26 = .ok (.aload_n 0, 1) := by decide +kernel
theorem dX2_takeSide_27 : decode cX2_takeSide 27 = .ok (.iconst 1, 1) := by decide +kernel
theorem dX2_takeSide_28 : decode cX2_takeSide 28 = .ok (.sipush 250, 3) := by decide +kernel
theorem dX2_takeSide_31 : decode cX2_takeSide 31 = .ok (.invokevirtual 81, 3) := by decide +kernel
theorem dX2_takeSide_34 : decode cX2_takeSide 34 = .ok (.ireturn, 1) := by decide +kernel
theorem dX2_readMove_0 : decode cX2_readMove 0 = .ok (.aload_n 0, 1) := by decide +kernel
theorem dX2_readMove_1 : decode cX2_readMove 1 = .ok (.getfield 9, 3) := by decide +kernel
theorem dX2_readMove_4 : decode cX2_readMove 4 = .ok (.invokevirtual 78, 3) := by decide +kernel
theorem dX2_readMove_7 : decode cX2_readMove 7 = .ok (.aload_n 0, 1) := by decide +kernel
theorem dX2_readMove_8 : decode cX2_readMove 8 = .ok (.getfield 9, 3) := by decide +kernel
theorem dX2_readMove_11 : decode cX2_readMove 11 = .ok (.getfield 32, 3) := by decide +kernel
theorem dX2_readMove_14 : decode cX2_readMove 14 = .ok (.iconst 1, 1) := by decide +kernel
theorem dX2_readMove_15 : decode cX2_readMove 15 = .ok (.if_icmp .eq 9, 3) := by decide +kernel
theorem dX2_readMove_18 : decode cX2_readMove 18 = .ok (.aload_n 0, 1) := by decide +kernel
theorem dX2_readMove_19 : decode cX2_readMove 19 = .ok (.iconst 1, 1) := by decide +kernel
theorem dX2_readMove_20 : decode cX2_readMove 20 = .ok (.invokevirtual 56, 3) := by decide +kernel
theorem dX2_readMove_23 : decode cX2_readMove 23 = .ok (.ireturn, 1) := by decide +kernel
theorem dX2_readMove_24 : decode cX2_readMove 24 = .ok (.aload_n 0, 1) := by decide +kernel
theorem dX2_readMove_25 : decode cX2_readMove 25 = .ok (.getfield 15, 3) := by decide +kernel
theorem dX2_readMove_28 : decode cX2_readMove 28 = .ok (.aload_n 0, 1) := by decide +kernel
theorem dX2_readMove_29 : decode cX2_readMove 29 = .ok (.getfield 9, 3) := by decide +kernel
theorem dX2_readMove_32 : decode cX2_readMove 32 = .ok (.invokevirtual 109, 3) := by decide +kernel
theorem dX2_readMove_35 : decode cX2_readMove 35 = .ok (.invokevirtual 113, 3) := by decide +kernel
theorem dX2_readMove_38 : decode cX2_readMove 38 = .ok (.istore_n 1, 1) := by decide +kernel
theorem dX2_readMove_39 : decode cX2_readMove 39 = .ok (.iload_n 1, 1) := by decide +kernel
theorem dX2_readMove_40 : decode cX2_readMove 40 = .ok (.iconst (-1), 1) := by decide +kernel
theorem dX2_readMove_41 : decode cX2_readMove 41 = .ok (.if_icmp .eq 28, 3) := by decide +kernel
theorem dX2_readMove_44 : decode cX2_readMove 44 = .ok (.aload_n 0, 1) := by decide +kernel
theorem dX2_readMove_45 : decode cX2_readMove 45 = .ok (.getfield 15, 3) := by decide +kernel
theorem dX2_readMove_48 : decode cX2_readMove 48 = .ok (.getfield 133, 3) := by decide +kernel
theorem dX2_readMove_51 : decode cX2_readMove 51 = .ok (.iload_n 1, 1) := by decide +kernel
theorem dX2_readMove_52 : decode cX2_readMove 52 = .ok (.iaload, 1) := by decide +kernel
theorem dX2_readMove_53 : decode cX2_readMove 53 = .ok (.iconst 1, 1) := by decide +kernel
theorem dX2_readMove_54 : decode cX2_readMove 54 = .ok (.if_icmp .eq 15, 3) := by decide +kernel
theorem dX2_readMove_57 : decode cX2_readMove 57 = .ok (.aload_n 0, 1) := by decide +kernel
theorem dX2_readMove_58 : decode cX2_readMove 58 = .ok (.getfield 15, 3) := by decide +kernel
theorem dX2_readMove_61 : decode cX2_readMove 61 = .ok (.getfield 152, 3) := by decide +kernel
theorem dX2_readMove_64 : decode cX2_readMove 64 = .ok (.iload_n 1, 1) := by decide +kernel
theorem dX2_readMove_65 : decode cX2_readMove 65 = .ok (.iaload, 1) := by decide +kernel
theorem dX2_readMove_66 : decode cX2_readMove 66 = .ok (.ifCond .eq 9, 3) := by decide +kernel
theorem dX2_readMove_69 : decode cX2_readMove 69 = .ok (.aload_n 0, 1) := by decide +kernel
theorem dX2_readMove_70 : decode cX2_readMove 70 = .ok (.iconst 4, 1) := by decide +kernel
theorem dX2_readMove_71 : decode cX2_readMove 71 = .ok (.invokevirtual 56, 3) := by decide +kernel
theorem dX2_readMove_74 : decode cX2_readMove 74 = .ok (.ireturn, 1) := by decide +kernel
theorem dX2_readMove_75 : decode cX2_readMove 75 = .ok (.aload_n 0, 1) := by decide +kernel
theorem dX2_readMove_76 : decode cX2_readMove 76 = .ok (.getfield 9, 3) := by decide +kernel
theorem dX2_readMove_79 : decode cX2_readMove 79 = .ok (.invokevirtual 78, 3) := by decide +kernel
theorem dX2_readMove_82 : decode cX2_readMove 82 = .ok (.aload_n 0, 1) := by decide +kernel
theorem dX2_readMove_83 : decode cX2_readMove 83 = .ok (.iconst 1, 1) := by decide +kernel
theorem dX2_readMove_84 : decode cX2_readMove 84 = .ok (.sipush 250, 3) := by decide +kernel
theorem dX2_readMove_87 : decode cX2_readMove 87 = .ok (.invokevirtual 81, 3) := by decide +kernel
theorem dX2_readMove_90 : decode cX2_readMove 90 = .ok (.ifCond .ne 5, 3) := by decide +kernel
theorem dX2_readMove_93 : decode cX2_readMove 93 = .ok (.iconst 0, 1) := by decide +kernel
theorem dX2_readMove_94 : decode cX2_readMove 94 = .ok (.ireturn, 1) := by decide +kernel
theorem dX2_readMove_95 : decode cX2_readMove 95 = .ok (.aload_n 0, 1) := by decide +kernel
theorem dX2_readMove_96 : decode cX2_readMove 96 = .ok (.getfield 85, 3) := by decide +kernel
theorem dX2_readMove_99 : decode cX2_readMove 99 = .ok (.istore_n 2, 1) := by decide +kernel
theorem dX2_readMove_100 : decode cX2_readMove 100 = .ok (.aload_n 0, 1) := by decide +kernel
theorem dX2_readMove_101 : decode cX2_readMove 101 = .ok (.iconst 1, 1) := by decide +kernel
theorem dX2_readMove_102 : decode cX2_readMove 102 = .ok (.bipush 9, 2) := by decide +kernel
theorem dX2_readMove_104 : decode cX2_readMove 104 = .ok (.invokevirtual 117, 3) := by decide +kernel
theorem dX2_readMove_107 : decode cX2_readMove 107 = .ok (.ifCond .ne 5, 3) := by decide +kernel
theorem dX2_readMove_110 : decode cX2_readMove 110 = .ok (.iconst 0, 1) := by decide +kernel
theorem dX2_readMove_111 : decode cX2_readMove 111 = .ok (.ireturn, 1) := by decide +kernel
theorem dX2_readMove_112 : decode cX2_readMove 112 = .ok (.aload_n 0, 1) := by decide +kernel
theorem dX2_readMove_113 : decode cX2_readMove 113 = .ok (.getfield 15, 3) := by decide +kernel
theorem dX2_readMove_116 : decode cX2_readMove 116 = .ok (.aload_n 0, 1) := by decide +kernel
theorem dX2_readMove_117 : decode cX2_readMove 117 = .ok (.getfield 9, 3) := by decide +kernel
theorem dX2_readMove_120 : decode cX2_readMove 120 = .ok (.getfield 120, 3) := by decide +kernel
theorem dX2_readMove_123 : decode cX2_readMove 123 = .ok (.invokevirtual 155, 3) := by decide +kernel
theorem dX2_readMove_126 : decode cX2_readMove 126 = .ok (.aload_n 0, 1) := by decide +kernel
theorem dX2_readMove_127 : decode cX2_readMove 127 = .ok (.getfield 15, 3) := by decide +kernel
theorem dX2_readMove_130 : decode cX2_readMove 130 = .ok (.getfield 92, 3) := by decide +kernel
theorem dX2_readMove_133 : decode cX2_readMove 133 = .ok (.if_icmp .lt 9, 3) := by decide +kernel
theorem dX2_readMove_136 : decode cX2_readMove 136 = .ok (.aload_n 0, 1) := by decide +kernel
theorem dX2_readMove_137 : decode cX2_readMove 137 = .ok (.iconst 4, 1) := by decide +kernel
theorem dX2_readMove_138 : decode cX2_readMove 138 = .ok (.invokevirtual 56, 3) := by decide +kernel
theorem dX2_readMove_141 : decode cX2_readMove 141 = .ok (.ireturn, 1) := by decide +kernel
theorem dX2_readMove_142 : decode cX2_readMove 142 = .ok (.aload_n 0, 1) := by decide +kernel
theorem dX2_readMove_143 : decode cX2_readMove 143 = .ok (.getfield 15, 3) := by decide +kernel
theorem dX2_readMove_146 : decode cX2_readMove 146 = .ok (.iload_n 1, 1) := by decide +kernel
theorem dX2_readMove_147 : decode cX2_readMove 147 = .ok (.iload_n 2, 1) := by decide +kernel
theorem dX2_readMove_148 : decode cX2_readMove 148 = .ok (.aload_n 0, 1) := by decide +kernel
theorem dX2_readMove_149 : decode cX2_readMove 149 = .ok (.getfield 9, 3) := by decide +kernel
theorem dX2_readMove_152 : decode cX2_readMove 152 = .ok (.getfield 120, 3) := by decide +kernel
theorem dX2_readMove_155 : decode cX2_readMove 155 = .ok (.invokevirtual 159, 3) := by decide +kernel
theorem dX2_readMove_158 : decode cX2_readMove 158 = .ok (.aload_n 0, 1) := by decide +kernel
theorem dX2_readMove_159 : decode cX2_readMove 159 = .ok (.getfield 9, 3) := by decide +kernel
theorem dX2_readMove_162 : decode cX2_readMove 162 = .ok (.invokevirtual 78, 3) := by decide +kernel
theorem dX2_readMove_165 : decode cX2_readMove 165 = .ok (.iconst 1, 1) := by decide +kernel
theorem dX2_readMove_166 : decode cX2_readMove 166 = .ok (.ireturn, 1) := by decide +kernel
theorem dX2_takeWord_0 : decode cX2_takeWord 0 = .ok (.aload_n 0, 1) := by decide +kernel
theorem dX2_takeWord_1 : decode cX2_takeWord 1 = .ok (.getfield 9, 3) := by decide +kernel
theorem dX2_takeWord_4 : decode cX2_takeWord 4 = .ok (.aload_n 1, 1) := by decide +kernel
theorem dX2_takeWord_5 : decode cX2_takeWord 5 = .ok (.invokevirtual 39, 3) := by decide +kernel
theorem dX2_takeWord_8 : decode cX2_takeWord 8 = .ok (.ifCond .ne 9, 3) := by decide +kernel
theorem dX2_takeWord_11 : decode cX2_takeWord 11 = .ok (.aload_n 0, 1) := by decide +kernel
theorem dX2_takeWord_12 : decode cX2_takeWord 12 = .ok (.iconst 1, 1) := by decide +kernel
theorem dX2_takeWord_13 : decode cX2_takeWord 13 = .ok (.invokevirtual 56, 3) := by decide +kernel
theorem dX2_takeWord_16 : decode cX2_takeWord 16 = .ok (.ireturn, 1) := by decide +kernel
theorem dX2_takeWord_17 : decode cX2_takeWord 17 = .ok (.aload_n 0, 1) := by decide +kernel
theorem dX2_takeWord_18 : decode cX2_takeWord 18 = .ok (.getfield 9, 3) := by decide +kernel
theorem dX2_takeWord_21 : decode cX2_takeWord 21 = .ok (.invokevirtual 78, 3) := by decide +kernel
theorem dX2_takeWord_24 : decode cX2_takeWord 24 = .ok (.iconst 1, 1) := by decide +kernel
theorem dX2_takeWord_25 : decode cX2_takeWord 25 = .ok (.ireturn, 1) := by decide +kernel
theorem dX2_takeSemicolon_0 : decode cX2_takeSemicolon 0 = .ok (.aload_n 0, 1) := by decide +kernel
theorem dX2_takeSemicolon_1 : decode cX2_takeSemicolon 1 = .ok (.getfield 9, 3) := by decide +kernel
theorem dX2_takeSemicolon_4 : decode cX2_takeSemicolon 4 = .ok (.bipush 59, 2) := by decide +kernel
theorem dX2_takeSemicolon_6 : decode cX2_takeSemicolon 6 = .ok (.invokevirtual 163, 3) := by decide +kernel
theorem dX2_takeSemicolon_9 : decode cX2_takeSemicolon 9 = .ok (.ifCond .ne 9, 3) := by decide +kernel
theorem dX2_takeSemicolon_12 : decode cX2_takeSemicolon 12 = .ok (.aload_n 0, 1) := by decide +kernel
theorem dX2_takeSemicolon_13 : decode cX2_takeSemicolon 13 = .ok (.iconst 1, 1) := by decide +kernel
theorem dX2_takeSemicolon_14 : decode cX2_takeSemicolon 14 = .ok (.invokevirtual 56, 3) := by decide +kernel
theorem dX2_takeSemicolon_17 : decode cX2_takeSemicolon 17 = .ok (.ireturn, 1) := by decide +kernel
theorem dX2_takeSemicolon_18 : decode cX2_takeSemicolon 18 = .ok (.aload_n 0, 1) := by decide +kernel
theorem dX2_takeSemicolon_19 : decode cX2_takeSemicolon 19 = .ok (.getfield 9, 3) := by decide +kernel
theorem dX2_takeSemicolon_22 : decode cX2_takeSemicolon 22 = .ok (.invokevirtual 78, 3) := by decide +kernel
theorem dX2_takeSemicolon_25 : decode cX2_takeSemicolon 25 = .ok (.iconst 1, 1) := by decide +kernel
theorem dX2_takeSemicolon_26 : decode cX2_takeSemicolon 26 = .ok (.ireturn, 1) := by decide +kernel
theorem dX2_takeNumber_0 : decode cX2_takeNumber 0 = .ok (.aload_n 0, 1) := by decide +kernel
theorem dX2_takeNumber_1 : decode cX2_takeNumber 1 = .ok (.iload_n 1, 1) := by decide +kernel
theorem dX2_takeNumber_2 : decode cX2_takeNumber 2 = .ok (.iload_n 2, 1) := by decide +kernel
theorem dX2_takeNumber_3 : decode cX2_takeNumber 3 = .ok (.invokevirtual 117, 3) := by decide +kernel
theorem dX2_takeNumber_6 : decode cX2_takeNumber 6 = .ok (.ifCond .ne 5, 3) := by decide +kernel
theorem dX2_takeNumber_9 : decode cX2_takeNumber 9 = .ok (.iconst 0, 1) := by decide +kernel
theorem dX2_takeNumber_10 : decode cX2_takeNumber 10 = .ok (.ireturn, 1) := by decide +kernel
theorem dX2_takeNumber_11 : decode cX2_takeNumber 11 = .ok (.aload_n 0, 1) := by decide +kernel
theorem dX2_takeNumber_12 : decode cX2_takeNumber 12 = .ok (.aload_n 0, 1) := by decide +kernel
theorem dX2_takeNumber_13 : decode cX2_takeNumber 13 = .ok (.getfield 9, 3) := by decide +kernel
theorem dX2_takeNumber_16 : decode cX2_takeNumber 16 = .ok (.getfield 120, 3) := by decide +kernel
theorem dX2_takeNumber_19 : decode cX2_takeNumber 19 = .ok (.putfield 85, 3) := by decide +kernel
theorem dX2_takeNumber_22 : decode cX2_takeNumber 22 = .ok (.aload_n 0, 1) := by decide +kernel
theorem dX2_takeNumber_23 : decode cX2_takeNumber 23 = .ok (.getfield 9, 3) := by decide +kernel
theorem dX2_takeNumber_26 : decode cX2_takeNumber 26 = .ok (.invokevirtual 78, 3) := by decide +kernel
theorem dX2_takeNumber_29 : decode cX2_takeNumber 29 = .ok (.iconst 1, 1) := by decide +kernel
theorem dX2_takeNumber_30 : decode cX2_takeNumber 30 = .ok (.ireturn, 1) := by decide +kernel
theorem dX2_isNumber_0 : decode cX2_isNumber 0 = .ok (.aload_n 0, 1) := by decide +kernel
theorem dX2_isNumber_1 : decode cX2_isNumber 1 = .ok (.getfield 9, 3) := by decide +kernel
theorem dX2_isNumber_4 : decode cX2_isNumber 4 = .ok (.getfield 120, 3) := by decide +kernel
theorem dX2_isNumber_7 : decode cX2_isNumber 7 = .ok (.iload_n 1, 1) := by decide +kernel
theorem dX2_isNumber_8 : decode cX2_isNumber 8 = .ok (.if_icmp .lt 18, 3) := by decide +kernel
theorem dX2_isNumber_11 : decode cX2_isNumber 11 = .ok (.aload_n 0, 1) := by decide +kernel
theorem dX2_isNumber_12 : decode cX2_isNumber 12 = .ok (.getfield 9, 3) := by decide +kernel
theorem dX2_isNumber_15 : decode cX2_isNumber 15 = .ok (.getfield 120, 3) := by decide +kernel
theorem dX2_isNumber_18 : decode cX2_isNumber 18 = .ok (.iload_n 2, 1) := by decide +kernel
theorem dX2_isNumber_19 : decode cX2_isNumber 19 = .ok (.if_icmp .gt 7, 3) := by decide +kernel
theorem dX2_isNumber_22 : decode cX2_isNumber 22 = .ok (.iconst 1, 1) := by decide +kernel
theorem dX2_isNumber_23 : decode cX2_isNumber 23 = .ok (.goto 4, 3) := by decide +kernel
theorem dX2_isNumber_26 : decode cX2_isNumber 26 = .ok (.iconst 0, 1) := by decide +kernel
theorem dX2_isNumber_27 : decode cX2_isNumber 27 = .ok (.istore_n 3, 1) := by decide +kernel
theorem dX2_isNumber_28 : decode cX2_isNumber 28 = .ok (.aload_n 0, 1) := by decide +kernel
theorem dX2_isNumber_29 : decode cX2_isNumber 29 = .ok (.aload_n 0, 1) := by decide +kernel
theorem dX2_isNumber_30 : decode cX2_isNumber 30 = .ok (.getfield 9, 3) := by decide +kernel
theorem dX2_isNumber_33 : decode cX2_isNumber 33 = .ok (.getfield 32, 3) := by decide +kernel
theorem dX2_isNumber_36 : decode cX2_isNumber 36 = .ok (.iconst 2, 1) := by decide +kernel
theorem dX2_isNumber_37 : decode cX2_isNumber 37 = .ok (.if_icmp .eq 7, 3) := by decide +kernel
theorem dX2_isNumber_40 : decode cX2_isNumber 40 = .ok (.iconst 1, 1) := by decide +kernel
theorem dX2_isNumber_41 : decode cX2_isNumber 41 = .ok (.goto 12, 3) := by decide +kernel
theorem dX2_isNumber_44 : decode cX2_isNumber 44 = .ok (.iload_n 3, 1) := by decide +kernel
theorem dX2_isNumber_45 : decode cX2_isNumber 45 = .ok (.ifCond .eq 7, 3) := by decide +kernel
theorem dX2_isNumber_48 : decode cX2_isNumber 48 = .ok (.iconst 0, 1) := by decide +kernel
theorem dX2_isNumber_49 : decode cX2_isNumber 49 = .ok (.goto 4, 3) := by decide +kernel
theorem dX2_isNumber_52 : decode cX2_isNumber 52 = .ok (.iconst 2, 1) := by decide +kernel
theorem dX2_isNumber_53 : decode cX2_isNumber 53 = .ok (.putfield 19, 3) := by decide +kernel
theorem dX2_isNumber_56 : decode cX2_isNumber 56 = .ok (.aload_n 0, 1) := by decide +kernel
theorem dX2_isNumber_57 : decode cX2_isNumber 57 = .ok (.getfield 19, 3) := by decide +kernel
theorem dX2_isNumber_60 : decode cX2_isNumber 60 = .ok (.ifCond .ne 7, 3) := by decide +kernel
theorem dX2_isNumber_63 : decode cX2_isNumber 63 = .ok (.iconst 1, 1) := by decide +kernel
theorem dX2_isNumber_64 : decode cX2_isNumber 64 = .ok (.goto 4, 3) := by decide +kernel
theorem dX2_isNumber_67 : decode cX2_isNumber 67 = .ok (.iconst 0, 1) := by decide +kernel
theorem dX2_isNumber_68 : decode cX2_isNumber 68 = .ok (.ireturn, 1) := by decide +kernel
theorem dX2_fail_0 : decode cX2_fail 0 = .ok (.aload_n 0, 1) := by decide +kernel
theorem dX2_fail_1 : decode cX2_fail 1 = .ok (.iload_n 1, 1) := by decide +kernel
theorem dX2_fail_2 : decode cX2_fail 2 = .ok (.putfield 19, 3) := by decide +kernel
theorem dX2_fail_5 : decode cX2_fail 5 = .ok (.iconst 0, 1) := by decide +kernel
theorem dX2_fail_6 : decode cX2_fail 6 = .ok (.ireturn, 1) := by decide +kernel
theorem dX3_init_0 : decode cX3_init 0 = .ok (.aload_n 0, 1) := by decide +kernel
theorem dX3_init_1 : decode cX3_init 1 = .ok (.invokespecial 3, 3) := by decide +kernel
theorem dX3_init_4 : decode cX3_init 4 = .ok (.aload_n 0, 1) := by decide +kernel
theorem dX3_init_5 : decode cX3_init 5 = .ok (.bipush 40, 2) := by decide +kernel
theorem dX3_init_7 : decode cX3_init 7 = .ok (.newarray .long, 2) := by decide +kernel
theorem dX3_init_9 : decode cX3_init 9 = .ok (.putfield 9, 3) := by decide +kernel
theorem dX3_init_12 : decode cX3_init 12 = .ok (.aload_n 0, 1) := by decide +kernel
theorem dX3_init_13 : decode cX3_init 13 = .ok (.bipush 40, 2) := by decide +kernel
theorem dX3_init_15 : decode cX3_init 15 = .ok (.newarray .int, 2) := by decide +kernel
theorem dX3_init_17 : decode cX3_init 17 = .ok (.putfield 15, 3) := by decide +kernel
theorem dX3_init_20 : decode cX3_init 20 = .ok (.aload_n 0, 1) := by decide +kernel
theorem dX3_init_21 : decode cX3_init 21 = .ok (.bipush 40, 2) := by decide +kernel
theorem dX3_init_23 : decode cX3_init 23 = .ok (.newarray .int, 2) := by decide +kernel
theorem dX3_init_25 : decode cX3_init 25 = .ok (.putfield 19, 3) := by decide +kernel
theorem dX3_init_28 : decode cX3_init 28 = .ok (.aload_n 0, 1) := by decide +kernel
theorem dX3_init_29 : decode cX3_init 29 = .ok (.bipush 40, 2) := by decide +kernel
theorem dX3_init_31 : decode cX3_init 31 = .ok (.newarray .int, 2) := by decide +kernel
theorem dX3_init_33 : decode cX3_init 33 = .ok (.putfield 22, 3) := by decide +kernel
theorem dX3_init_36 : decode cX3_init 36 = .ok (.aload_n 0, 1) := by decide +kernel
theorem dX3_init_37 : decode cX3_init 37 = .ok (.bipush 40, 2) := by decide +kernel
theorem dX3_init_39 : decode cX3_init 39 = .ok (.newarray .int, 2) := by decide +kernel
theorem dX3_init_41 : decode cX3_init 41 = .ok (.putfield 25, 3) := by decide +kernel
theorem dX3_init_44 : decode cX3_init 44 = .ok (.aload_n 0, 1) := by decide +kernel
theorem dX3_init_45 : decode cX3_init 45 = .ok (.bipush 40, 2) := by decide +kernel
theorem dX3_init_47 : decode cX3_init 47 = .ok (.newarray .int, 2) := by decide +kernel
theorem dX3_init_49 : decode cX3_init 49 = .ok (.putfield 28, 3) := by decide +kernel
theorem dX3_init_52 : decode cX3_init 52 = .ok (.aload_n 0, 1) := by decide +kernel
theorem dX3_init_53 : decode cX3_init 53 = .ok (.bipush 40, 2) := by decide +kernel
theorem dX3_init_55 : decode cX3_init 55 = .ok (.newarray .int, 2) := by decide +kernel
theorem dX3_init_57 : decode cX3_init 57 = .ok (.putfield 31, 3) := by decide +kernel
theorem dX3_init_60 : decode cX3_init 60 = .ok (.aload_n 0, 1) := by decide +kernel
theorem dX3_init_61 : decode cX3_init 61 = .ok (.sipush 400, 3) := by decide +kernel
theorem dX3_init_64 : decode cX3_init 64 = .ok (.newarray .int, 2) := by decide +kernel
theorem dX3_init_66 : decode cX3_init 66 = .ok (.putfield 34, 3) := by decide +kernel
theorem dX3_init_69 : decode cX3_init 69 = .ok (.aload_n 0, 1) := by decide +kernel
theorem dX3_init_70 : decode cX3_init 70 = .ok (.bipush 30, 2) := by decide +kernel
theorem dX3_init_72 : decode cX3_init 72 = .ok (.newarray .int, 2) := by decide +kernel
theorem dX3_init_74 : decode cX3_init 74 = .ok (.putfield 37, 3) := by decide +kernel
theorem dX3_init_77 : decode cX3_init 77 = .ok (.aload_n 0, 1) := by decide +kernel
theorem dX3_init_78 : decode cX3_init 78 = .ok (.bipush 30, 2) := by decide +kernel
theorem dX3_init_80 : decode cX3_init 80 = .ok (.newarray .int, 2) := by decide +kernel
theorem dX3_init_82 : decode cX3_init 82 = .ok (.putfield 40, 3) := by decide +kernel
theorem dX3_init_85 : decode cX3_init 85 = .ok (.aload_n 0, 1) := by decide +kernel
theorem dX3_init_86 : decode cX3_init 86 = .ok (.bipush 30, 2) := by decide +kernel
theorem dX3_init_88 : decode cX3_init 88 = .ok (.newarray .int, 2) := by decide +kernel
theorem dX3_init_90 : decode cX3_init 90 = .ok (.putfield 43, 3) := by decide +kernel
theorem dX3_init_93 : decode cX3_init 93 = .ok (.aload_n 0, 1) := by decide +kernel
theorem dX3_init_94 : decode cX3_init 94 = .ok (.bipush 30, 2) := by decide +kernel
theorem dX3_init_96 : decode cX3_init 96 = .ok (.newarray .int, 2) := by decide +kernel
theorem dX3_init_98 : decode cX3_init 98 = .ok (.putfield 46, 3) := by decide +kernel
theorem dX3_init_101 : decode cX3_init 101 = .ok (.return_, 1) := by decide +kernel
theorem dX3_clear_0 : decode cX3_clear 0 = .ok (.aload_n 0, 1) := by decide +kernel
theorem dX3_clear_1 : decode cX3_clear 1 = .ok (.iconst 0, 1) := by decide +kernel
theorem dX3_clear_2 : decode cX3_clear 2 = .ok (.putfield 49, 3) := by decide +kernel
theorem dX3_clear_5 : decode cX3_clear 5 = .ok (.aload_n 0, 1) := by decide +kernel
theorem dX3_clear_6 : decode cX3_clear 6 = .ok (.iconst 0, 1) := by decide +kernel
theorem dX3_clear_7 : decode cX3_clear 7 = .ok (.putfield 53, 3) := by decide +kernel
theorem dX3_clear_10 : decode cX3_clear 10 = .ok (.aload_n 0, 1) := by decide +kernel
theorem dX3_clear_11 : decode cX3_clear 11 = .ok (.iconst 0, 1) := by decide +kernel
theorem dX3_clear_12 : decode cX3_clear 12 = .ok (.putfield 56, 3) := by decide +kernel
theorem dX3_clear_15 : decode cX3_clear 15 = .ok (.aload_n 0, 1) := by decide +kernel
theorem dX3_clear_16 : decode cX3_clear 16 = .ok (.iconst 1, 1) := by decide +kernel
theorem dX3_clear_17 : decode cX3_clear 17 = .ok (.putfield 59, 3) := by decide +kernel
theorem dX3_clear_20 : decode cX3_clear 20 = .ok (.aload_n 0, 1) := by decide +kernel
theorem dX3_clear_21 : decode cX3_clear 21 = .ok (.iconst 3, 1) := by decide +kernel
theorem dX3_clear_22 : decode cX3_clear 22 = .ok (.putfield 62, 3) := by decide +kernel
theorem dX3_clear_25 : decode cX3_clear 25 = .ok (.aload_n 0, 1) := by decide +kernel
theorem dX3_clear_26 : decode cX3_clear 26 = .ok (.sipush 200, 3) := by decide +kernel
theorem dX3_clear_29 : decode cX3_clear 29 = .ok (.putfield 65, 3) := by decide +kernel
theorem dX3_clear_32 : decode cX3_clear 32 = .ok (.aload_n 0, 1) := by decide +kernel
theorem dX3_clear_33 : decode cX3_clear 33 = .ok (.sipush 250, 3) := by decide +kernel
theorem dX3_clear_36 : decode cX3_clear 36 = .ok (.putfield 68, 3) := by decide +kernel
theorem dX3_clear_39 : decode cX3_clear 39 = .ok (.aload_n 0, 1) := by decide +kernel
theorem dX3_clear_40 : decode cX3_clear 40 = .ok (.iconst 0, 1) := by decide +kernel
theorem dX3_clear_41 : decode cX3_clear 41 = .ok (.putfield 71, 3) := by decide +kernel
theorem dX3_clear_44 : decode cX3_clear 44 = .ok (.return_, 1) := by decide +kernel
theorem dX3_copyFrom_0 : decode cX3_copyFrom 0 = .ok (.aload_n 0, 1) := by decide +kernel
theorem dX3_copyFrom_1 : decode cX3_copyFrom 1 = .ok (.aload_n 1, 1) := by decide +kernel
theorem dX3_copyFrom_2 : decode cX3_copyFrom 2 = .ok (.getfield 49, 3) := by decide +kernel
theorem dX3_copyFrom_5 : decode cX3_copyFrom 5 = .ok (.putfield 49, 3) := by decide +kernel
theorem dX3_copyFrom_8 : decode cX3_copyFrom 8 = .ok (.aload_n 0, 1) := by decide +kernel
theorem dX3_copyFrom_9 : decode cX3_copyFrom 9 = .ok (.aload_n 1, 1) := by decide +kernel
theorem dX3_copyFrom_10 : decode cX3_copyFrom 10 = .ok (.getfield 53, 3) := by decide +kernel
theorem dX3_copyFrom_13 : decode cX3_copyFrom 13 = .ok (.putfield 53, 3) := by decide +kernel
theorem dX3_copyFrom_16 : decode cX3_copyFrom 16 = .ok (.aload_n 0, 1) := by decide +kernel
theorem dX3_copyFrom_17 : decode cX3_copyFrom 17 = .ok (.aload_n 1, 1) := by decide +kernel
theorem dX3_copyFrom_18 : decode cX3_copyFrom 18 = .ok (.getfield 56, 3) := by decide +kernel
theorem dX3_copyFrom_21 : decode cX3_copyFrom 21 = .ok (.putfield 56, 3) := by decide +kernel
theorem dX3_copyFrom_24 : decode cX3_copyFrom 24 = .ok (.aload_n 0, 1) := by decide +kernel
theorem dX3_copyFrom_25 : decode cX3_copyFrom 25 = .ok (.aload_n 1, 1) := by decide +kernel
theorem dX3_copyFrom_26 : decode cX3_copyFrom 26 = .ok (.getfield 59, 3) := by decide +kernel
theorem dX3_copyFrom_29 : decode cX3_copyFrom 29 = .ok (.putfield 59, 3) := by decide +kernel
theorem dX3_copyFrom_32 : decode cX3_copyFrom 32 = .ok (.aload_n 0, 1) := by decide +kernel
theorem dX3_copyFrom_33 : decode cX3_copyFrom 33 = .ok (.aload_n 1, 1) := by decide +kernel
theorem dX3_copyFrom_34 : decode cX3_copyFrom 34 = .ok (.getfield 62, 3) := by decide +kernel
theorem dX3_copyFrom_37 : decode cX3_copyFrom 37 = .ok (.putfield 62, 3) := by decide +kernel
theorem dX3_copyFrom_40 : decode cX3_copyFrom 40 = .ok (.aload_n 0, 1) := by decide +kernel
theorem dX3_copyFrom_41 : decode cX3_copyFrom 41 = .ok (.aload_n 1, 1) := by decide +kernel
theorem dX3_copyFrom_42 : decode cX3_copyFrom 42 = .ok (.getfield 65, 3) := by decide +kernel
theorem dX3_copyFrom_45 : decode cX3_copyFrom 45 = .ok (.putfield 65, 3) := by decide +kernel
theorem dX3_copyFrom_48 : decode cX3_copyFrom 48 = .ok (.aload_n 0, 1) := by decide +kernel
theorem dX3_copyFrom_49 : decode cX3_copyFrom 49 = .ok (.aload_n 1, 1) := by decide +kernel
theorem dX3_copyFrom_50 : decode cX3_copyFrom 50 = .ok (.getfield 68, 3) := by decide +kernel
theorem dX3_copyFrom_53 : decode cX3_copyFrom 53 = .ok (.putfield 68, 3) := by decide +kernel
theorem dX3_copyFrom_56 : decode cX3_copyFrom 56 = .ok (.aload_n 0, 1) := by decide +kernel
theorem dX3_copyFrom_57 : decode cX3_copyFrom 57 = .ok (.aload_n 1, 1) := by decide +kernel
theorem dX3_copyFrom_58 : decode cX3_copyFrom 58 = .ok (.getfield 71, 3) := by decide +kernel
theorem dX3_copyFrom_61 : decode cX3_copyFrom 61 = .ok (.putfield 71, 3) := by decide +kernel
theorem dX3_copyFrom_64 : decode cX3_copyFrom 64 = .ok (.aload_n 1, 1) := by decide +kernel
theorem dX3_copyFrom_65 : decode cX3_copyFrom 65 = .ok (.getfield 9, 3) := by decide +kernel
theorem dX3_copyFrom_68 : decode cX3_copyFrom 68 = .ok (.iconst 0, 1) := by decide +kernel
theorem dX3_copyFrom_69 : decode cX3_copyFrom 69 = .ok (.aload_n 0, 1) := by decide +kernel
theorem dX3_copyFrom_70 : decode cX3_copyFrom 70 = .ok (.getfield 9, 3) := by decide +kernel
theorem dX3_copyFrom_73 : decode cX3_copyFrom 73 = .ok (.iconst 0, 1) := by decide +kernel
theorem dX3_copyFrom_74 : decode cX3_copyFrom 74 = .ok (.bipush 40, 2) := by decide +kernel
theorem dX3_copyFrom_76 : decode cX3_copyFrom 76 = .ok (.invokestatic 75, 3) := by decide +kernel
theorem dX3_copyFrom_79 : decode cX3_copyFrom 79 = .ok (.aload_n 1, 1) := by decide +kernel
theorem dX3_copyFrom_80 : decode cX3_copyFrom 80 = .ok (.getfield 15, 3) := by decide +kernel
theorem dX3_copyFrom_83 : decode cX3_copyFrom 83 = .ok (.iconst 0, 1) := by decide +kernel
theorem dX3_copyFrom_84 : decode cX3_copyFrom 84 = .ok (.aload_n 0, 1) := by decide +kernel
theorem dX3_copyFrom_85 : decode cX3_copyFrom 85 = .ok (.getfield 15, 3) := by decide +kernel
theorem dX3_copyFrom_88 : decode cX3_copyFrom 88 = .ok (.iconst 0, 1) := by decide +kernel
theorem dX3_copyFrom_89 : decode cX3_copyFrom 89 = .ok (.bipush 40, 2) := by decide +kernel
theorem dX3_copyFrom_91 : decode cX3_copyFrom 91 = .ok (.invokestatic 75, 3) := by decide +kernel
theorem dX3_copyFrom_94 : decode cX3_copyFrom 94 = .ok (.aload_n 1, 1) := by decide +kernel
theorem dX3_copyFrom_95 : decode cX3_copyFrom 95 = .ok (.getfield 19, 3) := by decide +kernel
theorem dX3_copyFrom_98 : decode cX3_copyFrom 98 = .ok (.iconst 0, 1) := by decide +kernel
theorem dX3_copyFrom_99 : decode cX3_copyFrom 99 = .ok (.aload_n 0, 1) := by decide +kernel
theorem dX3_copyFrom_100 : decode cX3_copyFrom 100 = .ok (.getfield 19, 3) := by decide +kernel
theorem dX3_copyFrom_103 : decode cX3_copyFrom 103 = .ok (.iconst 0, 1) := by decide +kernel
theorem dX3_copyFrom_104 : decode cX3_copyFrom 104 = .ok (.bipush 40, 2) := by decide +kernel
theorem dX3_copyFrom_106 : decode cX3_copyFrom 106 = .ok (.invokestatic 75, 3) := by decide +kernel
theorem dX3_copyFrom_109 : decode cX3_copyFrom 109 = .ok (.aload_n 1, 1) := by decide +kernel
theorem dX3_copyFrom_110 : decode cX3_copyFrom 110 = .ok (.getfield 22, 3) := by decide +kernel
theorem dX3_copyFrom_113 : decode cX3_copyFrom 113 = .ok (.iconst 0, 1) := by decide +kernel
theorem dX3_copyFrom_114 : decode cX3_copyFrom 114 = .ok (.aload_n 0, 1) := by decide +kernel
theorem dX3_copyFrom_115 : decode cX3_copyFrom 115 = .ok (.getfield 22, 3) := by decide +kernel
theorem dX3_copyFrom_118 : decode cX3_copyFrom 118 = .ok (.iconst 0, 1) := by decide +kernel
theorem dX3_copyFrom_119 : decode cX3_copyFrom 119 = .ok (.bipush 40, 2) := by decide +kernel
theorem dX3_copyFrom_121 : decode cX3_copyFrom 121 = .ok (.invokestatic 75, 3) := by decide +kernel
theorem dX3_copyFrom_124 : decode cX3_copyFrom 124 = .ok (.aload_n 1, 1) := by decide +kernel
theorem dX3_copyFrom_125 : decode cX3_copyFrom 125 = .ok (.getfield 25, 3) := by decide +kernel
theorem dX3_copyFrom_128 : decode cX3_copyFrom 128 = .ok (.iconst 0, 1) := by decide +kernel
theorem dX3_copyFrom_129 : decode cX3_copyFrom 129 = .ok (.aload_n 0, 1) := by decide +kernel
theorem dX3_copyFrom_130 : decode cX3_copyFrom 130 = .ok (.getfield 25, 3) := by decide +kernel
theorem dX3_copyFrom_133 : decode cX3_copyFrom 133 = .ok (.iconst 0, 1) := by decide +kernel
theorem dX3_copyFrom_134 : decode cX3_copyFrom 134 = .ok (.bipush 40, 2) := by decide +kernel
theorem dX3_copyFrom_136 : decode cX3_copyFrom 136 = .ok (.invokestatic 75, 3) := by decide +kernel
theorem dX3_copyFrom_139 : decode cX3_copyFrom 139 = .ok (.aload_n 1, 1) := by decide +kernel
theorem dX3_copyFrom_140 : decode cX3_copyFrom 140 = .ok (.getfield 28, 3) := by decide +kernel
theorem dX3_copyFrom_143 : decode cX3_copyFrom 143 = .ok (.iconst 0, 1) := by decide +kernel
theorem dX3_copyFrom_144 : decode cX3_copyFrom 144 = .ok (.aload_n 0, 1) := by decide +kernel
theorem dX3_copyFrom_145 : decode cX3_copyFrom 145 = .ok (.getfield 28, 3) := by decide +kernel
theorem dX3_copyFrom_148 : decode cX3_copyFrom 148 = .ok (.iconst 0, 1) := by decide +kernel
theorem dX3_copyFrom_149 : decode cX3_copyFrom 149 = .ok (.bipush 40, 2) := by decide +kernel
theorem dX3_copyFrom_151 : decode cX3_copyFrom 151 = .ok (.invokestatic 75, 3) := by decide +kernel
theorem dX3_copyFrom_154 : decode cX3_copyFrom 154 = .ok (.aload_n 1, 1) := by decide +kernel
theorem dX3_copyFrom_155 : decode cX3_copyFrom 155 = .ok (.getfield 31, 3) := by decide +kernel
theorem dX3_copyFrom_158 : decode cX3_copyFrom 158 = .ok (.iconst 0, 1) := by decide +kernel
theorem dX3_copyFrom_159 : decode cX3_copyFrom 159 = .ok (.aload_n 0, 1) := by decide +kernel
theorem dX3_copyFrom_160 : decode cX3_copyFrom 160 = .ok (.getfield 31, 3) := by decide +kernel
theorem dX3_copyFrom_163 : decode cX3_copyFrom 163 = .ok (.iconst 0, 1) := by decide +kernel
theorem dX3_copyFrom_164 : decode cX3_copyFrom 164 = .ok (.bipush 40, 2) := by decide +kernel
theorem dX3_copyFrom_166 : decode cX3_copyFrom 166 = .ok (.invokestatic 75, 3) := by decide +kernel
theorem dX3_copyFrom_169 : decode cX3_copyFrom 169 = .ok (.aload_n 1, 1) := by decide +kernel
theorem dX3_copyFrom_170 : decode cX3_copyFrom 170 = .ok (.getfield 34, 3) := by decide +kernel
theorem dX3_copyFrom_173 : decode cX3_copyFrom 173 = .ok (.iconst 0, 1) := by decide +kernel
theorem dX3_copyFrom_174 : decode cX3_copyFrom 174 = .ok (.aload_n 0, 1) := by decide +kernel
theorem dX3_copyFrom_175 : decode cX3_copyFrom 175 = .ok (.getfield 34, 3) := by decide +kernel
theorem dX3_copyFrom_178 : decode cX3_copyFrom 178 = .ok (.iconst 0, 1) := by decide +kernel
theorem dX3_copyFrom_179 : decode cX3_copyFrom 179 = .ok (.sipush 400, 3) := by decide +kernel
theorem dX3_copyFrom_182 : decode cX3_copyFrom 182 = .ok (.invokestatic 75, 3) := by decide +kernel
theorem dX3_copyFrom_185 : decode cX3_copyFrom 185 = .ok (.aload_n 1, 1) := by decide +kernel
theorem dX3_copyFrom_186 : decode cX3_copyFrom 186 = .ok (.getfield 37, 3) := by decide +kernel
theorem dX3_copyFrom_189 : decode cX3_copyFrom 189 = .ok (.iconst 0, 1) := by decide +kernel
theorem dX3_copyFrom_190 : decode cX3_copyFrom 190 = .ok (.aload_n 0, 1) := by decide +kernel
theorem dX3_copyFrom_191 : decode cX3_copyFrom 191 = .ok (.getfield 37, 3) := by decide +kernel
theorem dX3_copyFrom_194 : decode cX3_copyFrom 194 = .ok (.iconst 0, 1) := by decide +kernel
theorem dX3_copyFrom_195 : decode cX3_copyFrom 195 = .ok (.bipush 30, 2) := by decide +kernel
theorem dX3_copyFrom_197 : decode cX3_copyFrom 197 = .ok (.invokestatic 75, 3) := by decide +kernel
theorem dX3_copyFrom_200 : decode cX3_copyFrom 200 = .ok (.aload_n 1, 1) := by decide +kernel
theorem dX3_copyFrom_201 : decode cX3_copyFrom 201 = .ok (.getfield 40, 3) := by decide +kernel
theorem dX3_copyFrom_204 : decode cX3_copyFrom 204 = .ok (.iconst 0, 1) := by decide +kernel
theorem dX3_copyFrom_205 : decode cX3_copyFrom 205 = .ok (.aload_n 0, 1) := by decide +kernel
theorem dX3_copyFrom_206 : decode cX3_copyFrom 206 = .ok (.getfield 40, 3) := by decide +kernel
theorem dX3_copyFrom_209 : decode cX3_copyFrom 209 = .ok (.iconst 0, 1) := by decide +kernel
theorem dX3_copyFrom_210 : decode cX3_copyFrom 210 = .ok (.bipush 30, 2) := by decide +kernel
theorem dX3_copyFrom_212 : decode cX3_copyFrom 212 = .ok (.invokestatic 75, 3) := by decide +kernel
theorem dX3_copyFrom_215 : decode cX3_copyFrom 215 = .ok (.aload_n 1, 1) := by decide +kernel
theorem dX3_copyFrom_216 : decode cX3_copyFrom 216 = .ok (.getfield 43, 3) := by decide +kernel
theorem dX3_copyFrom_219 : decode cX3_copyFrom 219 = .ok (.iconst 0, 1) := by decide +kernel
theorem dX3_copyFrom_220 : decode cX3_copyFrom 220 = .ok (.aload_n 0, 1) := by decide +kernel
theorem dX3_copyFrom_221 : decode cX3_copyFrom 221 = .ok (.getfield 43, 3) := by decide +kernel
theorem dX3_copyFrom_224 : decode cX3_copyFrom 224 = .ok (.iconst 0, 1) := by decide +kernel
theorem dX3_copyFrom_225 : decode cX3_copyFrom 225 = .ok (.bipush 30, 2) := by decide +kernel
theorem dX3_copyFrom_227 : decode cX3_copyFrom 227 = .ok (.invokestatic 75, 3) := by decide +kernel
theorem dX3_copyFrom_230 : decode cX3_copyFrom 230 = .ok (.aload_n 1, 1) := by decide +kernel
theorem dX3_copyFrom_231 : decode cX3_copyFrom 231 = .ok (.getfield 46, 3) := by decide +kernel
theorem dX3_copyFrom_234 : decode cX3_copyFrom 234 = .ok (.iconst 0, 1) := by decide +kernel
theorem dX3_copyFrom_235 : decode cX3_copyFrom 235 = .ok (.aload_n 0, 1) := by decide +kernel
theorem dX3_copyFrom_236 : decode cX3_copyFrom 236 = .ok (.getfield 46, 3) := by decide +kernel
theorem dX3_copyFrom_239 : decode cX3_copyFrom 239 = .ok (.iconst 0, 1) := by decide +kernel
theorem dX3_copyFrom_240 : decode cX3_copyFrom 240 = .ok (.bipush 30, 2) := by decide +kernel
theorem dX3_copyFrom_242 : decode cX3_copyFrom 242 = .ok (.invokestatic 75, 3) := by decide +kernel
theorem dX3_copyFrom_245 : decode cX3_copyFrom 245 = .ok (.return_, 1) := by decide +kernel
theorem dX3_appendHost_0 : decode cX3_appendHost 0 = .ok (.aload_n 0, 1) := by decide +kernel
theorem dX3_appendHost_1 : decode cX3_appendHost 1 = .ok (.getfield 49, 3) := by decide +kernel
theorem dX3_appendHost_4 : decode cX3_appendHost 4 = .ok (.bipush 40, 2) := by decide +kernel
theorem dX3_appendHost_6 : decode cX3_appendHost 6 = .ok (.if_icmp .lt 5, 3) := by decide +kernel
theorem dX3_appendHost_9 : decode cX3_appendHost 9 = .ok (.iconst (-1), 1) := by decide +kernel
theorem dX3_appendHost_10 : decode cX3_appendHost 10 = .ok (.ireturn, 1) := by decide +kernel
theorem dX3_appendHost_11 : decode cX3_appendHost 11 = .ok (.aload_n 0, 1) := by decide +kernel
theorem dX3_appendHost_12 : decode cX3_appendHost 12 = .ok (.getfield 49, 3) := by decide +kernel
theorem dX3_appendHost_15 : decode cX3_appendHost 15 = .ok (.istore 5, 2) := by decide +kernel
theorem dX3_appendHost_17 : decode cX3_appendHost 17 = .ok (.aload_n 0, 1) := by decide +kernel
theorem dX3_appendHost_18 : decode cX3_appendHost 18 = .ok (.dup, 1) := by decide +kernel
theorem dX3_appendHost_19 : decode cX3_appendHost 19 = .ok (.getfield 49, 3) := by decide +kernel
theorem dX3_appendHost_22 : decode cX3_appendHost 22 = .ok (.iconst 1, 1) := by decide +kernel
theorem dX3_appendHost_23 : decode cX3_appendHost 23 = .ok (.iadd, 1) := by decide +kernel
theorem dX3_appendHost_24 : decode cX3_appendHost 24 = .ok (.putfield 49, 3) := by decide +kernel
theorem dX3_appendHost_27 : decode cX3_appendHost 27 = .ok (.aload_n 0, 1) := by decide +kernel
theorem dX3_appendHost_28 : decode cX3_appendHost 28 = .ok (.getfield 9, 3) := by decide +kernel
theorem dX3_appendHost_31 : decode cX3_appendHost 31 = .ok (.iload 5, 2) := by decide +kernel
theorem dX3_appendHost_33 : decode cX3_appendHost 33 = .ok (.lload_n 1, 1) := by decide +kernel
theorem dX3_appendHost_34 : decode cX3_appendHost 34 = .ok (.lastore, 1) := by decide +kernel
theorem dX3_appendHost_35 : decode cX3_appendHost 35 = .ok (.aload_n 0, 1) := by decide +kernel
theorem dX3_appendHost_36 : decode cX3_appendHost 36 = .ok (.getfield 15, 3) := by decide +kernel
theorem dX3_appendHost_39 : decode cX3_appendHost 39 = .ok (.iload 5, 2) := by decide +kernel
theorem dX3_appendHost_41 : decode cX3_appendHost 41 = .ok (.iload_n 3, 1) := by decide +kernel
theorem dX3_appendHost_42 : decode cX3_appendHost 42 = .ok (.iastore, 1) := by decide +kernel
theorem dX3_appendHost_43 : decode cX3_appendHost 43 = .ok (.aload_n 0, 1) := by decide +kernel
theorem dX3_appendHost_44 : decode cX3_appendHost 44 = .ok (.getfield 19, 3) := by decide +kernel
theorem dX3_appendHost_47 : decode cX3_appendHost 47 = .ok (.iload 5, 2) := by decide +kernel
theorem dX3_appendHost_49 : decode cX3_appendHost 49 = .ok (.iload 4, 2) := by decide +kernel
theorem dX3_appendHost_51 : decode cX3_appendHost 51 = .ok (.iastore, 1) := by decide +kernel
theorem dX3_appendHost_52 : decode cX3_appendHost 52 = .ok (.aload_n 0, 1) := by decide +kernel
theorem dX3_appendHost_53 : decode cX3_appendHost 53 = .ok (.getfield 22, 3) := by decide +kernel
theorem dX3_appendHost_56 : decode cX3_appendHost 56 = .ok (.iload 5, 2) := by decide +kernel
theorem dX3_appendHost_58 : decode cX3_appendHost 58 = .ok (.iconst 0, 1) := by decide +kernel
theorem dX3_appendHost_59 : decode cX3_appendHost 59 = .ok (.iastore, 1) := by decide +kernel
theorem dX3_appendHost_60 : decode cX3_appendHost 60 = .ok (.aload_n 0, 1) := by decide +kernel
theorem dX3_appendHost_61 : decode cX3_appendHost 61 = .ok (.getfield 25, 3) := by decide +kernel
theorem dX3_appendHost_64 : decode cX3_appendHost 64 = .ok (.iload 5, 2) := by decide +kernel
theorem dX3_appendHost_66 : decode cX3_appendHost 66 = .ok (.iconst 0, 1) := by decide +kernel
theorem dX3_appendHost_67 : decode cX3_appendHost 67 = .ok (.iastore, 1) := by decide +kernel
theorem dX3_appendHost_68 : decode cX3_appendHost 68 = .ok (.aload_n 0, 1) := by decide +kernel
theorem dX3_appendHost_69 : decode cX3_appendHost 69 = .ok (.getfield 28, 3) := by decide +kernel
theorem dX3_appendHost_72 : decode cX3_appendHost 72 = .ok (.iload 5, 2) := by decide +kernel
theorem dX3_appendHost_74 : decode cX3_appendHost 74 = .ok (.iconst 0, 1) := by decide +kernel
theorem dX3_appendHost_75 : decode cX3_appendHost 75 = .ok (.iastore, 1) := by decide +kernel
theorem dX3_appendHost_76 : decode cX3_appendHost 76 = .ok (.aload_n 0, 1) := by decide +kernel
theorem dX3_appendHost_77 : decode cX3_appendHost 77 = .ok (.getfield 31, 3) := by decide +kernel
theorem dX3_appendHost_80 : decode cX3_appendHost 80 = .ok (.iload 5, 2) := by decide +kernel
theorem dX3_appendHost_82 : decode cX3_appendHost 82 = .ok (.iconst 0, 1) := by decide +kernel
theorem dX3_appendHost_83 : decode cX3_appendHost 83 = .ok (.iastore, 1) := by decide +kernel
theorem dX3_appendHost_84 : decode cX3_appendHost 84 = .ok (.iconst 0, 1) := by decide +kernel
theorem dX3_appendHost_85 : decode cX3_appendHost 85 = .ok (.istore 6, 2) := by decide +kernel
theorem dX3_appendHost_87 : decode cX3_appendHost 87 = .ok (.iload 6, 2) := by decide +kernel
theorem dX3_appendHost_89 : decode cX3_appendHost 89 = .ok (.bipush 10, 2) := by decide +kernel
theorem dX3_appendHost_91 : decode cX3_appendHost 91 = .ok (.if_icmp .ge 23, 3) := by decide +kernel
theorem dX3_appendHost_94 : decode cX3_appendHost 94 = .ok (.aload_n 0, 1) := by decide +kernel
theorem dX3_appendHost_95 : decode cX3_appendHost 95 = .ok (.getfield 34, 3) := by decide +kernel
theorem dX3_appendHost_98 : decode cX3_appendHost 98 = .ok (.iload 5, 2) := by decide +kernel
theorem dX3_appendHost_100 : decode cX3_appendHost 100 = .ok (.bipush 10, 2) := by decide +kernel
theorem dX3_appendHost_102 : decode cX3_appendHost 102 = .ok (.imul, 1) := by decide +kernel
theorem dX3_appendHost_103 : decode cX3_appendHost 103 = .ok (.iload 6, 2) := by decide +kernel
theorem dX3_appendHost_105 : decode cX3_appendHost 105 = .ok (.iadd, 1) := by decide +kernel
theorem dX3_appendHost_106 : decode cX3_appendHost 106 = .ok (.iconst 0, 1) := by decide +kernel
theorem dX3_appendHost_107 : decode cX3_appendHost 107 = .ok (.iastore, 1) := by decide +kernel
theorem dX3_appendHost_108 : decode cX3_appendHost 108 = .ok (.iinc 6 1, 3) := by decide +kernel
theorem dX3_appendHost_111 : decode cX3_appendHost 111 = .ok (.goto (-24), 3) := by decide +kernel
theorem dX3_appendHost_114 : decode cX3_appendHost 114 = .ok (.iload 5, 2) := by decide +kernel
theorem dX3_appendHost_116 : decode cX3_appendHost 116 = .ok (.ireturn, 1) := by decide +kernel
theorem dX3_dropHost_0 : decode cX3_dropHost 0 = .ok (.aload_n 0, 1) := by decide +kernel
theorem dX3_dropHost_1 : decode cX3_dropHost 1 = .ok (.getfield 49, 3) := by decide +kernel
theorem dX3_dropHost_4 : decode cX3_dropHost 4 = .ok (.iload_n 1, 1) := by decide +kernel
theorem dX3_dropHost_5 : decode cX3_dropHost 5 = .ok (.isub, 1) := by decide +kernel
theorem dX3_dropHost_6 : decode cX3_dropHost 6 = .ok (.iconst 1, 1) := by decide +kernel
theorem dX3_dropHost_7 : decode cX3_dropHost 7 = .ok (.isub, 1) := by decide +kernel
theorem dX3_dropHost_8 : decode cX3_dropHost 8 = .ok (.istore_n 2, 1) := by decide +kernel
theorem dX3_dropHost_9 : decode cX3_dropHost 9 = .ok (.iload_n 1, 1) := by decide +kernel
theorem dX3_dropHost_10 : decode cX3_dropHost 10 = .ok (.ifCond .lt 7, 3) := by decide +kernel
theorem dX3_dropHost_13 : decode cX3_dropHost 13 = .ok (.iload_n 2, 1) := by decide +kernel
theorem dX3_dropHost_14 : decode cX3_dropHost 14 = .ok (.ifCond .ge 4, 3) := by decide +kernel
theorem dX3_dropHost_17 : decode cX3_dropHost 17 = .ok (.return_, 1) := by decide +kernel
theorem dX3_dropHost_18 : decode cX3_dropHost 18 = .ok (.aload_n 0, 1) := by decide +kernel
theorem dX3_dropHost_19 : decode cX3_dropHost 19 = .ok (.getfield 9, 3) := by decide +kernel
theorem dX3_dropHost_22 : decode cX3_dropHost 22 = .ok (.iload_n 1, 1) := by decide +kernel
theorem dX3_dropHost_23 : decode cX3_dropHost 23 = .ok (.iconst 1, 1) := by decide +kernel
theorem dX3_dropHost_24 : decode cX3_dropHost 24 = .ok (.iadd, 1) := by decide +kernel
theorem dX3_dropHost_25 : decode cX3_dropHost 25 = .ok (.aload_n 0, 1) := by decide +kernel
theorem dX3_dropHost_26 : decode cX3_dropHost 26 = .ok (.getfield 9, 3) := by decide +kernel
theorem dX3_dropHost_29 : decode cX3_dropHost 29 = .ok (.iload_n 1, 1) := by decide +kernel
theorem dX3_dropHost_30 : decode cX3_dropHost 30 = .ok (.iload_n 2, 1) := by decide +kernel
theorem dX3_dropHost_31 : decode cX3_dropHost 31 = .ok (.invokestatic 75, 3) := by decide +kernel
theorem dX3_dropHost_34 : decode cX3_dropHost 34 = .ok (.aload_n 0, 1) := by decide +kernel
theorem dX3_dropHost_35 : decode cX3_dropHost 35 = .ok (.getfield 15, 3) := by decide +kernel
theorem dX3_dropHost_38 : decode cX3_dropHost 38 = .ok (.iload_n 1, 1) := by decide +kernel
theorem dX3_dropHost_39 : decode cX3_dropHost 39 = .ok (.iconst 1, 1) := by decide +kernel
theorem dX3_dropHost_40 : decode cX3_dropHost 40 = .ok (.iadd, 1) := by decide +kernel
theorem dX3_dropHost_41 : decode cX3_dropHost 41 = .ok (.aload_n 0, 1) := by decide +kernel
theorem dX3_dropHost_42 : decode cX3_dropHost 42 = .ok (.getfield 15, 3) := by decide +kernel
theorem dX3_dropHost_45 : decode cX3_dropHost 45 = .ok (.iload_n 1, 1) := by decide +kernel
theorem dX3_dropHost_46 : decode cX3_dropHost 46 = .ok (.iload_n 2, 1) := by decide +kernel
theorem dX3_dropHost_47 : decode cX3_dropHost 47 = .ok (.invokestatic 75, 3) := by decide +kernel
theorem dX3_dropHost_50 : decode cX3_dropHost 50 = .ok (.aload_n 0, 1) := by decide +kernel
theorem dX3_dropHost_51 : decode cX3_dropHost 51 = .ok (.getfield 19, 3) := by decide +kernel
theorem dX3_dropHost_54 : decode cX3_dropHost 54 = .ok (.iload_n 1, 1) := by decide +kernel
theorem dX3_dropHost_55 : decode cX3_dropHost 55 = .ok (.iconst 1, 1) := by decide +kernel
theorem dX3_dropHost_56 : decode cX3_dropHost 56 = .ok (.iadd, 1) := by decide +kernel
theorem dX3_dropHost_57 : decode cX3_dropHost 57 = .ok (.aload_n 0, 1) := by decide +kernel
theorem dX3_dropHost_58 : decode cX3_dropHost 58 = .ok (.getfield 19, 3) := by decide +kernel
theorem dX3_dropHost_61 : decode cX3_dropHost 61 = .ok (.iload_n 1, 1) := by decide +kernel
theorem dX3_dropHost_62 : decode cX3_dropHost 62 = .ok (.iload_n 2, 1) := by decide +kernel
theorem dX3_dropHost_63 : decode cX3_dropHost 63 = .ok (.invokestatic 75, 3) := by decide +kernel
theorem dX3_dropHost_66 : decode cX3_dropHost 66 = .ok (.aload_n 0, 1) := by decide +kernel
theorem dX3_dropHost_67 : decode cX3_dropHost 67 = .ok (.getfield 22, 3) := by decide +kernel
theorem dX3_dropHost_70 : decode cX3_dropHost 70 = .ok (.iload_n 1, 1) := by decide +kernel
theorem dX3_dropHost_71 : decode cX3_dropHost 71 = .ok (.iconst 1, 1) := by decide +kernel
theorem dX3_dropHost_72 : decode cX3_dropHost 72 = .ok (.iadd, 1) := by decide +kernel
theorem dX3_dropHost_73 : decode cX3_dropHost 73 = .ok (.aload_n 0, 1) := by decide +kernel
theorem dX3_dropHost_74 : decode cX3_dropHost 74 = .ok (.getfield 22, 3) := by decide +kernel
theorem dX3_dropHost_77 : decode cX3_dropHost 77 = .ok (.iload_n 1, 1) := by decide +kernel
theorem dX3_dropHost_78 : decode cX3_dropHost 78 = .ok (.iload_n 2, 1) := by decide +kernel
theorem dX3_dropHost_79 : decode cX3_dropHost 79 = .ok (.invokestatic 75, 3) := by decide +kernel
theorem dX3_dropHost_82 : decode cX3_dropHost 82 = .ok (.aload_n 0, 1) := by decide +kernel
theorem dX3_dropHost_83 : decode cX3_dropHost 83 = .ok (.getfield 25, 3) := by decide +kernel
theorem dX3_dropHost_86 : decode cX3_dropHost 86 = .ok (.iload_n 1, 1) := by decide +kernel
theorem dX3_dropHost_87 : decode cX3_dropHost 87 = .ok (.iconst 1, 1) := by decide +kernel
theorem dX3_dropHost_88 : decode cX3_dropHost 88 = .ok (.iadd, 1) := by decide +kernel
theorem dX3_dropHost_89 : decode cX3_dropHost 89 = .ok (.aload_n 0, 1) := by decide +kernel
theorem dX3_dropHost_90 : decode cX3_dropHost 90 = .ok (.getfield 25, 3) := by decide +kernel
theorem dX3_dropHost_93 : decode cX3_dropHost 93 = .ok (.iload_n 1, 1) := by decide +kernel
theorem dX3_dropHost_94 : decode cX3_dropHost 94 = .ok (.iload_n 2, 1) := by decide +kernel
theorem dX3_dropHost_95 : decode cX3_dropHost 95 = .ok (.invokestatic 75, 3) := by decide +kernel
theorem dX3_dropHost_98 : decode cX3_dropHost 98 = .ok (.aload_n 0, 1) := by decide +kernel
theorem dX3_dropHost_99 : decode cX3_dropHost 99 = .ok (.getfield 28, 3) := by decide +kernel
theorem dX3_dropHost_102 : decode cX3_dropHost 102 = .ok (.iload_n 1, 1) := by decide +kernel
theorem dX3_dropHost_103 : decode cX3_dropHost 103 = .ok (.iconst 1, 1) := by decide +kernel
theorem dX3_dropHost_104 : decode cX3_dropHost 104 = .ok (.iadd, 1) := by decide +kernel
theorem dX3_dropHost_105 : decode cX3_dropHost 105 = .ok (.aload_n 0, 1) := by decide +kernel
theorem dX3_dropHost_106 : decode cX3_dropHost 106 = .ok (.getfield 28, 3) := by decide +kernel
theorem dX3_dropHost_109 : decode cX3_dropHost 109 = .ok (.iload_n 1, 1) := by decide +kernel
theorem dX3_dropHost_110 : decode cX3_dropHost 110 = .ok (.iload_n 2, 1) := by decide +kernel
theorem dX3_dropHost_111 : decode cX3_dropHost 111 = .ok (.invokestatic 75, 3) := by decide +kernel
theorem dX3_dropHost_114 : decode cX3_dropHost 114 = .ok (.aload_n 0, 1) := by decide +kernel
theorem dX3_dropHost_115 : decode cX3_dropHost 115 = .ok (.getfield 31, 3) := by decide +kernel
theorem dX3_dropHost_118 : decode cX3_dropHost 118 = .ok (.iload_n 1, 1) := by decide +kernel
theorem dX3_dropHost_119 : decode cX3_dropHost 119 = .ok (.iconst 1, 1) := by decide +kernel
theorem dX3_dropHost_120 : decode cX3_dropHost 120 = .ok (.iadd, 1) := by decide +kernel
theorem dX3_dropHost_121 : decode cX3_dropHost 121 = .ok (.aload_n 0, 1) := by decide +kernel
theorem dX3_dropHost_122 : decode cX3_dropHost 122 = .ok (.getfield 31, 3) := by decide +kernel
theorem dX3_dropHost_125 : decode cX3_dropHost 125 = .ok (.iload_n 1, 1) := by decide +kernel
theorem dX3_dropHost_126 : decode cX3_dropHost 126 = .ok (.iload_n 2, 1) := by decide +kernel
theorem dX3_dropHost_127 : decode cX3_dropHost 127 = .ok (.invokestatic 75, 3) := by decide +kernel
theorem dX3_dropHost_130 : decode cX3_dropHost 130 = .ok (.aload_n 0, 1) := by decide +kernel
theorem dX3_dropHost_131 : decode cX3_dropHost 131 = .ok (.getfield 34, 3) := by decide +kernel
theorem dX3_dropHost_134 : decode cX3_dropHost 134 = .ok (.iload_n 1, 1) := by decide +kernel
theorem dX3_dropHost_135 : decode cX3_dropHost 135 = .ok (.iconst 1, 1) := by decide +kernel
theorem dX3_dropHost_136 : decode cX3_dropHost 136 = .ok (.iadd, 1) := by decide +kernel
theorem dX3_dropHost_137 : decode cX3_dropHost 137 = .ok (.bipush 10, 2) := by decide +kernel
theorem dX3_dropHost_139 : decode cX3_dropHost 139 = .ok (.imul, 1) := by decide +kernel
theorem dX3_dropHost_140 : decode cX3_dropHost 140 = .ok (.aload_n 0, 1) := by decide +kernel
theorem dX3_dropHost_141 : decode cX3_dropHost 141 = .ok (.getfield 34, 3) := by decide +kernel
theorem dX3_dropHost_144 : decode cX3_dropHost 144 = .ok (.iload_n 1, 1) := by decide +kernel
theorem dX3_dropHost_145 : decode cX3_dropHost 145 = .ok (.bipush 10, 2) := by decide +kernel
theorem dX3_dropHost_147 : decode cX3_dropHost 147 = .ok (.imul, 1) := by decide +kernel
theorem dX3_dropHost_148 : decode cX3_dropHost 148 = .ok (.iload_n 2, 1) := by decide +kernel
theorem dX3_dropHost_149 : decode cX3_dropHost 149 = .ok (.bipush 10, 2) := by decide +kernel
theorem dX3_dropHost_151 : decode cX3_dropHost 151 = .ok (.imul, 1) := by decide +kernel
theorem dX3_dropHost_152 : decode cX3_dropHost 152 = .ok (.invokestatic 75, 3) := by decide +kernel
theorem dX3_dropHost_155 : decode cX3_dropHost 155 = .ok (.aload_n 0, 1) := by decide +kernel
theorem dX3_dropHost_156 : decode cX3_dropHost 156 = .ok (.dup, 1) := by decide +kernel
theorem dX3_dropHost_157 : decode cX3_dropHost 157 = .ok (.getfield 49, 3) := by decide +kernel
theorem dX3_dropHost_160 : decode cX3_dropHost 160 = .ok (.iconst 1, 1) := by decide +kernel
theorem dX3_dropHost_161 : decode cX3_dropHost 161 = .ok (.isub, 1) := by decide +kernel
theorem dX3_dropHost_162 : decode cX3_dropHost 162 = .ok (.putfield 49, 3) := by decide +kernel
theorem dX3_dropHost_165 : decode cX3_dropHost 165 = .ok (.return_, 1) := by decide +kernel
theorem dX3_appendRule_0 : decode cX3_appendRule 0 = .ok (.aload_n 0, 1) := by decide +kernel
theorem dX3_appendRule_1 : decode cX3_appendRule 1 = .ok (.getfield 53, 3) := by decide +kernel
theorem dX3_appendRule_4 : decode cX3_appendRule 4 = .ok (.bipush 30, 2) := by decide +kernel
theorem dX3_appendRule_6 : decode cX3_appendRule 6 = .ok (.if_icmp .lt 5, 3) := by decide +kernel
theorem dX3_appendRule_9 : decode cX3_appendRule 9 = .ok (.iconst (-1), 1) := by decide +kernel
theorem dX3_appendRule_10 : decode cX3_appendRule 10 = .ok (.ireturn, 1) := by decide +kernel
theorem dX3_appendRule_11 : decode cX3_appendRule 11 = .ok (.aload_n 0, 1) := by decide +kernel
theorem dX3_appendRule_12 : decode cX3_appendRule 12 = .ok (.getfield 53, 3) := by decide +kernel
theorem dX3_appendRule_15 : decode cX3_appendRule 15 = .ok (.istore 5, 2) := by decide +kernel
theorem dX3_appendRule_17 : decode cX3_appendRule 17 = .ok (.aload_n 0, 1) := by decide +kernel
theorem dX3_appendRule_18 : decode cX3_appendRule 18 = .ok (.dup, 1) := by decide +kernel
theorem dX3_appendRule_19 : decode cX3_appendRule 19 = .ok (.getfield 53, 3) := by decide +kernel
theorem dX3_appendRule_22 : decode cX3_appendRule 22 = .ok (.iconst 1, 1) := by decide +kernel
theorem dX3_appendRule_23 : decode cX3_appendRule 23 = .ok (.iadd, 1) := by decide +kernel
theorem dX3_appendRule_24 : decode cX3_appendRule 24 = .ok (.putfield 53, 3) := by decide +kernel
theorem dX3_appendRule_27 : decode cX3_appendRule 27 = .ok (.aload_n 0, 1) := by decide +kernel
theorem dX3_appendRule_28 : decode cX3_appendRule 28 = .ok (.getfield 37, 3) := by decide +kernel
theorem dX3_appendRule_31 : decode cX3_appendRule 31 = .ok (.iload 5, 2) := by decide +kernel
theorem dX3_appendRule_33 : decode cX3_appendRule 33 = .ok (.iload_n 1, 1) := by decide +kernel
theorem dX3_appendRule_34 : decode cX3_appendRule 34 = .ok (.iastore, 1) := by decide +kernel
theorem dX3_appendRule_35 : decode cX3_appendRule 35 = .ok (.aload_n 0, 1) := by decide +kernel
theorem dX3_appendRule_36 : decode cX3_appendRule 36 = .ok (.getfield 40, 3) := by decide +kernel
theorem dX3_appendRule_39 : decode cX3_appendRule 39 = .ok (.iload 5, 2) := by decide +kernel
theorem dX3_appendRule_41 : decode cX3_appendRule 41 = .ok (.iload_n 2, 1) := by decide +kernel
theorem dX3_appendRule_42 : decode cX3_appendRule 42 = .ok (.ifCond .eq 7, 3) := by decide +kernel
theorem dX3_appendRule_45 : decode cX3_appendRule 45 = .ok (.iconst 1, 1) := by decide +kernel
theorem dX3_appendRule_46 : decode cX3_appendRule 46 = .ok (.goto 4, 3) := by decide +kernel
theorem dX3_appendRule_49 : decode cX3_appendRule 49 = .ok (.iconst 0, 1) := by decide +kernel
theorem dX3_appendRule_50 : decode cX3_appendRule 50 = .ok (.iastore, 1) := by decide +kernel
theorem dX3_appendRule_51 : decode cX3_appendRule 51 = .ok (.aload_n 0, 1) := by decide +kernel
theorem dX3_appendRule_52 : decode cX3_appendRule 52 = .ok (.getfield 43, 3) := by decide +kernel
theorem dX3_appendRule_55 : decode cX3_appendRule 55 = .ok (.iload 5, 2) := by decide +kernel
theorem dX3_appendRule_57 : decode cX3_appendRule 57 = .ok (.iload_n 3, 1) := by decide +kernel
theorem dX3_appendRule_58 : decode cX3_appendRule 58 = .ok (.iastore, 1) := by decide +kernel
theorem dX3_appendRule_59 : decode cX3_appendRule 59 = .ok (.aload_n 0, 1) := by decide +kernel
theorem dX3_appendRule_60 : decode cX3_appendRule 60 = .ok (.getfield 46, 3) := by decide +kernel
theorem dX3_appendRule_63 : decode cX3_appendRule 63 = .ok (.iload 5, 2) := by decide +kernel
theorem dX3_appendRule_65 : decode cX3_appendRule 65 = .ok (.iload 4, 2) := by decide +kernel
theorem dX3_appendRule_67 : decode cX3_appendRule 67 = .ok (.iastore, 1) := by decide +kernel
theorem dX3_appendRule_68 : decode cX3_appendRule 68 = .ok (.iload 5, 2) := by decide +kernel
theorem dX3_appendRule_70 : decode cX3_appendRule 70 = .ok (.ireturn, 1) := by decide +kernel
theorem dX3_dropRule_0 : decode cX3_dropRule 0 = .ok (.aload_n 0, 1) := by decide +kernel
theorem dX3_dropRule_1 : decode cX3_dropRule 1 = .ok (.getfield 53, 3) := by decide +kernel
theorem dX3_dropRule_4 : decode cX3_dropRule 4 = .ok (.iload_n 1, 1) := by decide +kernel
theorem dX3_dropRule_5 : decode cX3_dropRule 5 = .ok (.isub, 1) := by decide +kernel
theorem dX3_dropRule_6 : decode cX3_dropRule 6 = .ok (.iconst 1, 1) := by decide +kernel
theorem dX3_dropRule_7 : decode cX3_dropRule 7 = .ok (.isub, 1) := by decide +kernel
theorem dX3_dropRule_8 : decode cX3_dropRule 8 = .ok (.istore_n 2, 1) := by decide +kernel
theorem dX3_dropRule_9 : decode cX3_dropRule 9 = .ok (.iload_n 1, 1) := by decide +kernel
theorem dX3_dropRule_10 : decode cX3_dropRule 10 = .ok (.ifCond .lt 7, 3) := by decide +kernel
theorem dX3_dropRule_13 : decode cX3_dropRule 13 = .ok (.iload_n 2, 1) := by decide +kernel
theorem dX3_dropRule_14 : decode cX3_dropRule 14 = .ok (.ifCond .ge 4, 3) := by decide +kernel
theorem dX3_dropRule_17 : decode cX3_dropRule 17 = .ok (.return_, 1) := by decide +kernel
theorem dX3_dropRule_18 : decode cX3_dropRule 18 = .ok (.aload_n 0, 1) := by decide +kernel
theorem dX3_dropRule_19 : decode cX3_dropRule 19 = .ok (.getfield 37, 3) := by decide +kernel
theorem dX3_dropRule_22 : decode cX3_dropRule 22 = .ok (.iload_n 1, 1) := by decide +kernel
theorem dX3_dropRule_23 : decode cX3_dropRule 23 = .ok (.iconst 1, 1) := by decide +kernel
theorem dX3_dropRule_24 : decode cX3_dropRule 24 = .ok (.iadd, 1) := by decide +kernel
theorem dX3_dropRule_25 : decode cX3_dropRule 25 = .ok (.aload_n 0, 1) := by decide +kernel
theorem dX3_dropRule_26 : decode cX3_dropRule 26 = .ok (.getfield 37, 3) := by decide +kernel
theorem dX3_dropRule_29 : decode cX3_dropRule 29 = .ok (.iload_n 1, 1) := by decide +kernel
theorem dX3_dropRule_30 : decode cX3_dropRule 30 = .ok (.iload_n 2, 1) := by decide +kernel
theorem dX3_dropRule_31 : decode cX3_dropRule 31 = .ok (.invokestatic 75, 3) := by decide +kernel
theorem dX3_dropRule_34 : decode cX3_dropRule 34 = .ok (.aload_n 0, 1) := by decide +kernel
theorem dX3_dropRule_35 : decode cX3_dropRule 35 = .ok (.getfield 40, 3) := by decide +kernel
theorem dX3_dropRule_38 : decode cX3_dropRule 38 = .ok (.iload_n 1, 1) := by decide +kernel
theorem dX3_dropRule_39 : decode cX3_dropRule 39 = .ok (.iconst 1, 1) := by decide +kernel
theorem dX3_dropRule_40 : decode cX3_dropRule 40 = .ok (.iadd, 1) := by decide +kernel
theorem dX3_dropRule_41 : decode cX3_dropRule 41 = .ok (.aload_n 0, 1) := by decide +kernel
theorem dX3_dropRule_42 : decode cX3_dropRule 42 = .ok (.getfield 40, 3) := by decide +kernel
theorem dX3_dropRule_45 : decode cX3_dropRule 45 = .ok (.iload_n 1, 1) := by decide +kernel
theorem dX3_dropRule_46 : decode cX3_dropRule 46 = .ok (.iload_n 2, 1) := by decide +kernel
theorem dX3_dropRule_47 : decode cX3_dropRule 47 = .ok (.invokestatic 75, 3) := by decide +kernel
theorem dX3_dropRule_50 : decode cX3_dropRule 50 = .ok (.aload_n 0, 1) := by decide +kernel
theorem dX3_dropRule_51 : decode cX3_dropRule 51 = .ok (.getfield 43, 3) := by decide +kernel
theorem dX3_dropRule_54 : decode cX3_dropRule 54 = .ok (.iload_n 1, 1) := by decide +kernel
theorem dX3_dropRule_55 : decode cX3_dropRule 55 = .ok (.iconst 1, 1) := by decide +kernel
theorem dX3_dropRule_56 : decode cX3_dropRule 56 = .ok (.iadd, 1) := by decide +kernel
theorem dX3_dropRule_57 : decode cX3_dropRule 57 = .ok (.aload_n 0, 1) := by decide +kernel
theorem dX3_dropRule_58 : decode cX3_dropRule 58 = .ok (.getfield 43, 3) := by decide +kernel
theorem dX3_dropRule_61 : decode cX3_dropRule 61 = .ok (.iload_n 1, 1) := by decide +kernel
theorem dX3_dropRule_62 : decode cX3_dropRule 62 = .ok (.iload_n 2, 1) := by decide +kernel
theorem dX3_dropRule_63 : decode cX3_dropRule 63 = .ok (.invokestatic 75, 3) := by decide +kernel
theorem dX3_dropRule_66 : decode cX3_dropRule 66 = .ok (.aload_n 0, 1) := by decide +kernel
theorem dX3_dropRule_67 : decode cX3_dropRule 67 = .ok (.getfield 46, 3) := by decide +kernel
theorem dX3_dropRule_70 : decode cX3_dropRule 70 = .ok (.iload_n 1, 1) := by decide +kernel
theorem dX3_dropRule_71 : decode cX3_dropRule 71 = .ok (.iconst 1, 1) := by decide +kernel
theorem dX3_dropRule_72 : decode cX3_dropRule 72 = .ok (.iadd, 1) := by decide +kernel
theorem dX3_dropRule_73 : decode cX3_dropRule 73 = .ok (.aload_n 0, 1) := by decide +kernel
theorem dX3_dropRule_74 : decode cX3_dropRule 74 = .ok (.getfield 46, 3) := by decide +kernel
theorem dX3_dropRule_77 : decode cX3_dropRule 77 = .ok (.iload_n 1, 1) := by decide +kernel
theorem dX3_dropRule_78 : decode cX3_dropRule 78 = .ok (.iload_n 2, 1) := by decide +kernel
theorem dX3_dropRule_79 : decode cX3_dropRule 79 = .ok (.invokestatic 75, 3) := by decide +kernel
theorem dX3_dropRule_82 : decode cX3_dropRule 82 = .ok (.aload_n 0, 1) := by decide +kernel
theorem dX3_dropRule_83 : decode cX3_dropRule 83 = .ok (.dup, 1) := by decide +kernel
theorem dX3_dropRule_84 : decode cX3_dropRule 84 = .ok (.getfield 53, 3) := by decide +kernel
theorem dX3_dropRule_87 : decode cX3_dropRule 87 = .ok (.iconst 1, 1) := by decide +kernel
theorem dX3_dropRule_88 : decode cX3_dropRule 88 = .ok (.isub, 1) := by decide +kernel
theorem dX3_dropRule_89 : decode cX3_dropRule 89 = .ok (.putfield 53, 3) := by decide +kernel
theorem dX3_dropRule_92 : decode cX3_dropRule 92 = .ok (.return_, 1) := by decide +kernel
theorem dX3_setPlan_0 : decode cX3_setPlan 0 = .ok (.aload_n 0, 1) := by decide +kernel
theorem dX3_setPlan_1 : decode cX3_setPlan 1 = .ok (.getfield 25, 3) := by decide +kernel
theorem dX3_setPlan_4 : decode cX3_setPlan 4 = .ok (.iload_n 1, 1) := by decide +kernel
theorem dX3_setPlan_5 : decode cX3_setPlan 5 = .ok (.iload_n 2, 1) := by decide +kernel
theorem dX3_setPlan_6 : decode cX3_setPlan 6 = .ok (.iastore, 1) := by decide +kernel
theorem dX3_setPlan_7 : decode cX3_setPlan 7 = .ok (.aload_n 0, 1) := by decide +kernel
theorem dX3_setPlan_8 : decode cX3_setPlan 8 = .ok (.getfield 28, 3) := by decide +kernel
theorem dX3_setPlan_11 : decode cX3_setPlan 11 = .ok (.iload_n 1, 1) := by decide +kernel
theorem dX3_setPlan_12 : decode cX3_setPlan 12 = .ok (.iload_n 3, 1) := by decide +kernel
theorem dX3_setPlan_13 : decode cX3_setPlan 13 = .ok (.iastore, 1) := by decide +kernel
theorem dX3_setPlan_14 : decode cX3_setPlan 14 = .ok (.return_, 1) := by decide +kernel
theorem dX3_planCount_0 : decode cX3_planCount 0 = .ok (.iconst 0, 1) := by decide +kernel
theorem dX3_planCount_1 : decode cX3_planCount 1 = .ok (.istore_n 1, 1) := by decide +kernel
theorem dX3_planCount_2 : decode cX3_planCount 2 = .ok (.iconst 0, 1) := by decide +kernel
theorem dX3_planCount_3 : decode cX3_planCount 3 = .ok (.istore_n 2, 1) := by decide +kernel
theorem dX3_planCount_4 : decode cX3_planCount 4 = .ok (.iload_n 2, 1) := by decide +kernel
theorem dX3_planCount_5 : decode cX3_planCount 5 = .ok (.aload_n 0, 1) := by decide +kernel
theorem dX3_planCount_6 : decode cX3_planCount 6 = .ok (.getfield 49, 3) := by decide +kernel
theorem dX3_planCount_9 : decode cX3_planCount 9 = .ok (.if_icmp .ge 26, 3) := by decide +kernel
theorem dX3_planCount_12 : decode cX3_planCount 12 = .ok (.iload_n 1, 1) := by decide +kernel
theorem dX3_planCount_13 : decode cX3_planCount 13 = .ok (.aload_n 0, 1) := by decide +kernel
theorem dX3_planCount_14 : decode cX3_planCount 14 = .ok (.getfield 28, 3) := by decide +kernel
theorem dX3_planCount_17 : decode cX3_planCount 17 = .ok (.iload_n 2, 1) := by decide +kernel
theorem dX3_planCount_18 : decode cX3_planCount 18 = .ok (.iaload, 1) := by decide +kernel
theorem dX3_planCount_19 : decode cX3_planCount 19 = .ok (.ifCond .eq 7, 3) := by decide +kernel
theorem dX3_planCount_22 : decode cX3_planCount 22 = .ok (.iconst 1, 1) := by decide +kernel
theorem dX3_planCount_23 : decode cX3_planCount 23 = .ok (.goto 4, 3) := by decide +kernel
theorem dX3_planCount_26 : decode cX3_planCount 26 = .ok (.iconst 0, 1) := by decide +kernel
theorem dX3_planCount_27 : decode cX3_planCount 27 = .ok (.iadd, 1) := by decide +kernel
theorem dX3_planCount_28 : decode cX3_planCount 28 = .ok (.istore_n 1, 1) := by decide +kernel
theorem dX3_planCount_29 : decode cX3_planCount 29 = .ok (.iinc 2 1, 3) := by decide +kernel
theorem dX3_planCount_32 : decode cX3_planCount 32 = .ok (.goto (-28), 3) := by decide +kernel
theorem dX3_planCount_35 : decode cX3_planCount 35 = .ok (.iload_n 1, 1) := by decide +kernel
theorem dX3_planCount_36 : decode cX3_planCount 36 = .ok (.ireturn, 1) := by decide +kernel
theorem dX3_plansIn_0 : decode cX3_plansIn 0 = .ok (.iconst 0, 1) := by decide +kernel
theorem dX3_plansIn_1 : decode cX3_plansIn 1 = .ok (.istore_n 2, 1) := by decide +kernel
theorem dX3_plansIn_2 : decode cX3_plansIn 2 = .ok (.iconst 0, 1) := by decide +kernel
theorem dX3_plansIn_3 : decode cX3_plansIn 3 = .ok (.istore_n 3, 1) := by decide +kernel
theorem dX3_plansIn_4 : decode cX3_plansIn 4 = .ok (.iload_n 3, 1) := by decide +kernel
theorem dX3_plansIn_5 : decode cX3_plansIn 5 = .ok (.aload_n 0, 1) := by decide +kernel
theorem dX3_plansIn_6 : decode cX3_plansIn 6 = .ok (.getfield 49, 3) := by decide +kernel
theorem dX3_plansIn_9 : decode cX3_plansIn 9 = .ok (.if_icmp .ge 27, 3) := by decide +kernel
theorem dX3_plansIn_12 : decode cX3_plansIn 12 = .ok (.iload_n 2, 1) := by decide +kernel
theorem dX3_plansIn_13 : decode cX3_plansIn 13 = .ok (.aload_n 0, 1) := by decide +kernel
theorem dX3_plansIn_14 : decode cX3_plansIn 14 = .ok (.getfield 28, 3) := by decide +kernel
theorem dX3_plansIn_17 : decode cX3_plansIn 17 = .ok (.iload_n 3, 1) := by decide +kernel
theorem dX3_plansIn_18 : decode cX3_plansIn 18 = .ok (.iaload, 1) := by decide +kernel
theorem dX3_plansIn_19 : decode cX3_plansIn 19 = .ok (.iload_n 1, 1) := by decide +kernel
theorem dX3_plansIn_20 : decode cX3_plansIn 20 = .ok (.if_icmp .ne 7, 3) := by decide +kernel
theorem dX3_plansIn_23 : decode cX3_plansIn 23 = .ok (.iconst 1, 1) := by decide +kernel
theorem dX3_plansIn_24 : decode cX3_plansIn 24 = .ok (.goto 4, 3) := by decide +kernel
theorem dX3_plansIn_27 : decode cX3_plansIn 27 = .ok (.iconst 0, 1) := by decide +kernel
theorem dX3_plansIn_28 : decode cX3_plansIn 28 = .ok (.iadd, 1) := by decide +kernel
theorem dX3_plansIn_29 : decode cX3_plansIn 29 = .ok (.istore_n 2, 1) := by decide +kernel
theorem dX3_plansIn_30 : decode cX3_plansIn 30 = .ok (.iinc 3 1, 3) := by decide +kernel
theorem dX3_plansIn_33 : decode cX3_plansIn 33 = .ok (.goto (-29), 3) := by decide +kernel
theorem dX3_plansIn_36 : decode cX3_plansIn 36 = .ok (.iload_n 2, 1) := by decide +kernel
theorem dX3_plansIn_37 : decode cX3_plansIn 37 = .ok (.ireturn, 1) := by decide +kernel
theorem dX3_keeperCount_0 : decode cX3_keeperCount 0 = .ok (.iconst 0, 1) := by decide +kernel
theorem dX3_keeperCount_1 : decode cX3_keeperCount 1 = .ok (.istore_n 1, 1) := by decide +kernel
theorem dX3_keeperCount_2 : decode cX3_keeperCount 2 = .ok (.iconst 0, 1) := by decide +kernel
theorem dX3_keeperCount_3 : decode cX3_keeperCount 3 = .ok (.istore_n 2, 1) := by decide +kernel
theorem dX3_keeperCount_4 : decode cX3_keeperCount 4 = .ok (.iload_n 2, 1) := by decide +kernel
theorem dX3_keeperCount_5 : decode cX3_keeperCount 5 = .ok (.aload_n 0, 1) := by decide +kernel
theorem dX3_keeperCount_6 : decode cX3_keeperCount 6 = .ok (.getfield 49, 3) := by decide +kernel
theorem dX3_keeperCount_9 : decode cX3_keeperCount 9 = .ok (.if_icmp .ge 25, 3) := by decide +kernel
theorem dX3_keeperCount_12 : decode cX3_keeperCount 12 = .ok (.iload_n 1, 1) := by decide +kernel
theorem dX3_keeperCount_13 : decode cX3_keeperCount 13 = .ok (.aload_n 0, 1) := by decide +kernel
theorem dX3_keeperCount_14 : decode cX3_keeperCount 14 = .ok (.iload_n 2, 1) := by decide +kernel
theorem dX3_keeperCount_15 : decode cX3_keeperCount 15 = .ok (.invokevirtual 81, 3) := by decide +kernel
theorem dX3_keeperCount_18 : decode cX3_keeperCount 18 = .ok (.ifCond .eq 7, 3) := by decide +kernel
theorem dX3_keeperCount_21 : decode cX3_keeperCount 21 = .ok (.iconst 1, 1) := by decide +kernel
theorem dX3_keeperCount_22 : decode cX3_keeperCount 22 = .ok (.goto 4, 3) := by decide +kernel
theorem dX3_keeperCount_25 : decode cX3_keeperCount 25 = .ok (.iconst 0, 1) := by decide +kernel
theorem dX3_keeperCount_26 : decode cX3_keeperCount 26 = .ok (.iadd, 1) := by decide +kernel
theorem dX3_keeperCount_27 : decode cX3_keeperCount 27 = .ok (.istore_n 1, 1) := by decide +kernel
theorem dX3_keeperCount_28 : decode cX3_keeperCount 28 = .ok (.iinc 2 1, 3) := by decide +kernel
theorem dX3_keeperCount_31 : decode cX3_keeperCount 31 = .ok (.goto (-27), 3) := by decide +kernel
theorem dX3_keeperCount_34 : decode cX3_keeperCount 34 = .ok (.iload_n 1, 1) := by decide +kernel
theorem dX3_keeperCount_35 : decode cX3_keeperCount 35 = .ok (.ireturn, 1) := by decide +kernel
theorem dX3_hostsOfOffice_0 : decode cX3_hostsOfOffice 0 = .ok (.iconst 0, 1) := by decide +kernel
theorem dX3_hostsOfOffice_1 : decode cX3_hostsOfOffice 1 = .ok (.istore_n 2, 1) := by decide +kernel
theorem dX3_hostsOfOffice_2 : decode cX3_hostsOfOffice 2 = .ok (.iconst 0, 1) := by decide +kernel
theorem dX3_hostsOfOffice_3 : decode cX3_hostsOfOffice 3 = .ok (.istore_n 3, 1) := by decide +kernel
theorem dX3_hostsOfOffice_4 : decode cX3_hostsOfOffice 4 = .ok (.iload_n 3, 1) := by decide +kernel
theorem dX3_hostsOfOffice_5 : decode cX3_hostsOfOffice 5 = .ok (.aload_n 0, 1) := by decide +kernel
theorem dX3_hostsOfOffice_6 : decode cX3_hostsOfOffice 6 = .ok (.getfield 49, 3) := by decide +kernel
theorem dX3_hostsOfOffice_9 : decode cX3_hostsOfOffice 9 = .ok (.if_icmp .ge 27, 3) := by decide +kernel
theorem dX3_hostsOfOffice_12 : decode cX3_hostsOfOffice 12 = .ok (.iload_n 2, 1) := by decide +kernel
theorem dX3_hostsOfOffice_13 : decode cX3_hostsOfOffice 13 = .ok (.aload_n 0, 1) := by decide +kernel
theorem dX3_hostsOfOffice_14 : decode cX3_hostsOfOffice 14 = .ok (.getfield 15, 3) := by decide +kernel
theorem dX3_hostsOfOffice_17 : decode cX3_hostsOfOffice 17 = .ok (.iload_n 3, 1) := by decide +kernel
theorem dX3_hostsOfOffice_18 : decode cX3_hostsOfOffice 18 = .ok (.iaload, 1) := by decide +kernel
theorem dX3_hostsOfOffice_19 : decode cX3_hostsOfOffice 19 = .ok (.iload_n 1, 1) := by decide +kernel
theorem dX3_hostsOfOffice_20 : decode cX3_hostsOfOffice 20 = .ok (.if_icmp .ne 7, 3) := by decide +kernel
theorem dX3_hostsOfOffice_23 : decode cX3_hostsOfOffice 23 = .ok (.iconst 1, 1) := by decide +kernel
theorem dX3_hostsOfOffice_24 : decode cX3_hostsOfOffice 24 = .ok (.goto 4, 3) := by decide +kernel
theorem dX3_hostsOfOffice_27 : decode cX3_hostsOfOffice 27 = .ok (.iconst 0, 1) := by decide +kernel
theorem dX3_hostsOfOffice_28 : decode cX3_hostsOfOffice 28 = .ok (.iadd, 1) := by decide +kernel
theorem dX3_hostsOfOffice_29 : decode cX3_hostsOfOffice 29 = .ok (.istore_n 2, 1) := by decide +kernel
theorem dX3_hostsOfOffice_30 : decode cX3_hostsOfOffice 30 = .ok (.iinc 3 1, 3) := by decide +kernel
theorem dX3_hostsOfOffice_33 : decode cX3_hostsOfOffice 33 = .ok (.goto (-29), 3) := by decide +kernel
theorem dX3_hostsOfOffice_36 : decode cX3_hostsOfOffice 36 = .ok (.iload_n 2, 1) := by decide +kernel
theorem dX3_hostsOfOffice_37 : decode cX3_hostsOfOffice 37 = .ok (.ireturn, 1) := by decide +kernel
theorem dX3_firstWaveWithRoom_0 : decode cX3_firstWaveWithRoom 0 = .ok (.aload_n 0, 1) := by decide +kernel
theorem dX3_firstWaveWithRoom_1 : decode cX3_firstWaveWithRoom 1 = .ok (.getfield 56, 3) := by decide +kernel
theorem dX3_firstWaveWithRoom_4 : decode cX3_firstWaveWithRoom 4 = .ok (.iconst 1, 1) := by decide +kernel
theorem dX3_firstWaveWithRoom_5 : decode cX3_firstWaveWithRoom 5 = .ok (.iadd, 1) := by decide +kernel
theorem dX3_firstWaveWithRoom_6 : decode cX3_firstWaveWithRoom 6 = .ok (.istore_n 1, 1) := by decide +kernel
theorem dX3_firstWaveWithRoom_7 : decode cX3_firstWaveWithRoom 7 = .ok (.iload_n 1, 1) := by decide +kernel
theorem dX3_firstWaveWithRoom_8 : decode cX3_firstWaveWithRoom 8 = .ok (.bipush 9, 2) := by decide +kernel
theorem dX3_firstWaveWithRoom_10 : decode cX3_firstWaveWithRoom 10 = .ok (.if_icmp .gt 23, 3) := by decide +kernel
theorem dX3_firstWaveWithRoom_13 : decode cX3_firstWaveWithRoom 13 = .ok (.aload_n 0, 1) := by decide +kernel
theorem dX3_firstWaveWithRoom_14 : decode cX3_firstWaveWithRoom 14 = .ok (.iload_n 1, 1) := by decide +kernel
theorem dX3_firstWaveWithRoom_15 : decode cX3_firstWaveWithRoom 15 = .ok (.invokevirtual 85, 3) := by decide +kernel
theorem dX3_firstWaveWithRoom_18 : decode cX3_firstWaveWithRoom 18 = .ok (.aload_n 0, 1) := by decide +kernel
theorem dX3_firstWaveWithRoom_19 : decode cX3_firstWaveWithRoom 19 = .ok (.getfield 62, 3) := by decide +kernel
theorem dX3_firstWaveWithRoom_22 : decode cX3_firstWaveWithRoom 22 = .ok (.if_icmp .ge 5, 3) := by decide +kernel
theorem dX3_firstWaveWithRoom_25 : decode cX3_firstWaveWithRoom 25 = .ok (.iload_n 1, 1) := by decide +kernel
theorem dX3_firstWaveWithRoom_26 : decode cX3_firstWaveWithRoom 26 = .ok (.ireturn, 1) := by decide +kernel
theorem dX3_firstWaveWithRoom_27 : decode cX3_firstWaveWithRoom 27 = .ok (.iinc 1 1, 3) := by decide +kernel
theorem dX3_firstWaveWithRoom_30 : decode cX3_firstWaveWithRoom 30 = .ok (.goto (-23), 3) := by decide +kernel
theorem dX3_firstWaveWithRoom_33 : decode cX3_firstWaveWithRoom 33 = .ok (.iconst 0, 1) := by decide +kernel
theorem dX3_firstWaveWithRoom_34 : decode cX3_firstWaveWithRoom 34 = .ok (.ireturn, 1) := by decide +kernel
theorem dX3_keptBy_0 : decode cX3_keptBy 0 = .ok (.aload_n 0, 1) := by decide +kernel
theorem dX3_keptBy_1 : decode cX3_keptBy 1 = .ok (.iload_n 1, 1) := by decide +kernel
theorem dX3_keptBy_2 : decode cX3_keptBy 2 = .ok (.aload_n 0, 1) := by decide +kernel
theorem dX3_keptBy_3 : decode cX3_keptBy 3 = .ok (.getfield 56, 3) := by decide +kernel
theorem dX3_keptBy_6 : decode cX3_keptBy 6 = .ok (.invokevirtual 88, 3) := by decide +kernel
theorem dX3_keptBy_9 : decode cX3_keptBy 9 = .ok (.ifCond .eq 17, 3) := by decide +kernel
theorem dX3_keptBy_12 : decode cX3_keptBy 12 = .ok (.aload_n 0, 1) := by decide +kernel
theorem dX3_keptBy_13 : decode cX3_keptBy 13 = .ok (.iload_n 1, 1) := by decide +kernel
theorem dX3_keptBy_14 : decode cX3_keptBy 14 = .ok (.aload_n 0, 1) := by decide +kernel
theorem dX3_keptBy_15 : decode cX3_keptBy 15 = .ok (.getfield 31, 3) := by decide +kernel
theorem dX3_keptBy_18 : decode cX3_keptBy 18 = .ok (.iload_n 1, 1) := by decide +kernel
theorem dX3_keptBy_19 : decode cX3_keptBy 19 = .ok (.iaload, 1) := by decide +kernel
theorem dX3_keptBy_20 : decode cX3_keptBy 20 = .ok (.invokevirtual 92, 3) := by decide +kernel
theorem dX3_keptBy_23 : decode cX3_keptBy 23 = .ok (.goto 4, 3) := by decide +kernel
theorem dX3_keptBy_26 : decode cX3_keptBy 26 = .ok (.iconst 0, 1) := by decide +kernel
theorem dX3_keptBy_27 : decode cX3_keptBy 27 = .ok (.ireturn, 1) := by decide +kernel
theorem dX3_numberAhead_0 : decode cX3_numberAhead 0 = .ok (.iload_n 1, 1) := by decide +kernel
theorem dX3_numberAhead_1 : decode cX3_numberAhead 1 = .ok (.ifCond .lt 35, 3) := by decide +kernel
theorem dX3_numberAhead_4 : decode cX3_numberAhead 4 = .ok (.iload_n 1, 1) := by decide +kernel
theorem dX3_numberAhead_5 : decode cX3_numberAhead 5 = .ok (.aload_n 0, 1) := by decide +kernel
theorem dX3_numberAhead_6 : decode cX3_numberAhead 6 = .ok (.getfield 49, 3) := by decide +kernel
theorem dX3_numberAhead_9 : decode cX3_numberAhead 9 = .ok (.if_icmp .ge 27, 3) := by decide +kernel
theorem dX3_numberAhead_12 : decode cX3_numberAhead 12 = .ok (.iload_n 2, 1) := by decide +kernel
theorem dX3_numberAhead_13 : decode cX3_numberAhead 13 = .ok (.ifCond .lt 23, 3) := by decide +kernel
theorem dX3_numberAhead_16 : decode cX3_numberAhead 16 = .ok (.iload_n 2, 1) := by decide +kernel
theorem dX3_numberAhead_17 : decode cX3_numberAhead 17 = .ok (.bipush 10, 2) := by decide +kernel
theorem dX3_numberAhead_19 : decode cX3_numberAhead 19 = .ok (.if_icmp .ge 17, 3) := by decide +kernel
theorem dX3_numberAhead_22 : decode cX3_numberAhead 22 = .ok (.aload_n 0, 1) := by decide +kernel
theorem dX3_numberAhead_23 : decode cX3_numberAhead 23 = .ok (.getfield 34, 3) := by decide +kernel
theorem dX3_numberAhead_26 : decode cX3_numberAhead 26 = .ok (.iload_n 1, 1) := by decide +kernel
theorem dX3_numberAhead_27 : decode cX3_numberAhead 27 = .ok (.bipush 10, 2) := by decide +kernel
theorem dX3_numberAhead_29 : decode cX3_numberAhead 29 = .ok (.imul, 1) := by decide +kernel
theorem dX3_numberAhead_30 : decode cX3_numberAhead 30 = .ok (.iload_n 2, 1) := by decide +kernel
theorem dX3_numberAhead_31 : decode cX3_numberAhead 31 = .ok (.iadd, 1) := by decide +kernel
theorem dX3_numberAhead_32 : decode cX3_numberAhead 32 = .ok (.iaload, 1) := by decide +kernel
theorem dX3_numberAhead_33 : decode cX3_numberAhead 33 = .ok (.goto 4, 3) := by decide +kernel
theorem dX3_numberAhead_36 : decode cX3_numberAhead 36 = .ok (.iconst 0, 1) := by decide +kernel
theorem dX3_numberAhead_37 : decode cX3_numberAhead 37 = .ok (.ireturn, 1) := by decide +kernel
theorem dX3_keepsAt_0 : decode cX3_keepsAt 0 = .ok (.aload_n 0, 1) := by decide +kernel
theorem dX3_keepsAt_1 : decode cX3_keepsAt 1 = .ok (.getfield 31, 3) := by decide +kernel
theorem dX3_keepsAt_4 : decode cX3_keepsAt 4 = .ok (.iload_n 1, 1) := by decide +kernel
theorem dX3_keepsAt_5 : decode cX3_keepsAt 5 = .ok (.iaload, 1) := by decide +kernel
theorem dX3_keepsAt_6 : decode cX3_keepsAt 6 = .ok (.istore_n 3, 1) := by decide +kernel
theorem dX3_keepsAt_7 : decode cX3_keepsAt 7 = .ok (.iload_n 3, 1) := by decide +kernel
theorem dX3_keepsAt_8 : decode cX3_keepsAt 8 = .ok (.ifCond .le 17, 3) := by decide +kernel
theorem dX3_keepsAt_11 : decode cX3_keepsAt 11 = .ok (.iload_n 2, 1) := by decide +kernel
theorem dX3_keepsAt_12 : decode cX3_keepsAt 12 = .ok (.iload_n 3, 1) := by decide +kernel
theorem dX3_keepsAt_13 : decode cX3_keepsAt 13 = .ok (.aload_n 0, 1) := by decide +kernel
theorem dX3_keepsAt_14 : decode cX3_keepsAt 14 = .ok (.getfield 59, 3) := by decide +kernel
theorem dX3_keepsAt_17 : decode cX3_keepsAt 17 = .ok (.iadd, 1) := by decide +kernel
theorem dX3_keepsAt_18 : decode cX3_keepsAt 18 = .ok (.if_icmp .ge 7, 3) := by decide +kernel
theorem dX3_keepsAt_21 : decode cX3_keepsAt 21 = .ok (.iconst 1, 1) := by decide +kernel
theorem dX3_keepsAt_22 : decode cX3_keepsAt 22 = .ok (.goto 4, 3) := by decide +kernel
theorem dX3_keepsAt_25 : decode cX3_keepsAt 25 = .ok (.iconst 0, 1) := by decide +kernel
theorem dX3_keepsAt_26 : decode cX3_keepsAt 26 = .ok (.ireturn, 1) := by decide +kernel
theorem dX3_hostNamed_0 : decode cX3_hostNamed 0 = .ok (.iconst 0, 1) := by decide +kernel
theorem dX3_hostNamed_1 : decode cX3_hostNamed 1 = .ok (.istore_n 3, 1) := by decide +kernel
theorem dX3_hostNamed_2 : decode cX3_hostNamed 2 = .ok (.iload_n 3, 1) := by decide +kernel
theorem dX3_hostNamed_3 : decode cX3_hostNamed 3 = .ok (.aload_n 0, 1) := by decide +kernel
theorem dX3_hostNamed_4 : decode cX3_hostNamed 4 = .ok (.getfield 49, 3) := by decide +kernel
theorem dX3_hostNamed_7 : decode cX3_hostNamed 7 = .ok (.if_icmp .ge 22, 3) := by decide +kernel
theorem dX3_hostNamed_10 : decode cX3_hostNamed 10 = .ok (.aload_n 0, 1) := by decide +kernel
theorem dX3_hostNamed_11 : decode cX3_hostNamed 11 = .ok (.getfield 9, 3) := by decide +kernel
theorem dX3_hostNamed_14 : decode cX3_hostNamed 14 = .ok (.iload_n 3, 1) := by decide +kernel
theorem dX3_hostNamed_15 : decode cX3_hostNamed 15 = .ok (.laload, 1) := by decide +kernel
theorem dX3_hostNamed_16 : decode cX3_hostNamed 16 = .ok (.lload_n 1, 1) := by decide +kernel
theorem dX3_hostNamed_17 : decode cX3_hostNamed 17 = .ok (.lcmp, 1) := by decide +kernel
theorem dX3_hostNamed_18 : decode cX3_hostNamed 18 = .ok (.ifCond .ne 5, 3) := by decide +kernel
theorem dX3_hostNamed_21 : decode cX3_hostNamed 21 = .ok (.iload_n 3, 1) := by decide +kernel
theorem dX3_hostNamed_22 : decode cX3_hostNamed 22 = .ok (.ireturn, 1) := by decide +kernel
theorem dX3_hostNamed_23 : decode cX3_hostNamed 23 = .ok (.iinc 3 1, 3) := by decide +kernel
theorem dX3_hostNamed_26 : decode cX3_hostNamed 26 = .ok (.goto (-24), 3) := by decide +kernel
theorem dX3_hostNamed_29 : decode cX3_hostNamed 29 = .ok (.iconst (-1), 1) := by decide +kernel
theorem dX3_hostNamed_30 : decode cX3_hostNamed 30 = .ok (.ireturn, 1) := by decide +kernel
theorem dX3_holderInOffice_0 : decode cX3_holderInOffice 0 = .ok (.iconst 0, 1) := by decide +kernel
theorem dX3_holderInOffice_1 : decode cX3_holderInOffice 1 = .ok (.istore_n 3, 1) := by decide +kernel
theorem dX3_holderInOffice_2 : decode cX3_holderInOffice 2 = .ok (.iload_n 3, 1) := by decide +kernel
theorem dX3_holderInOffice_3 : decode cX3_holderInOffice 3 = .ok (.aload_n 0, 1) := by decide +kernel
theorem dX3_holderInOffice_4 : decode cX3_holderInOffice 4 = .ok (.getfield 49, 3) := by decide +kernel
theorem dX3_holderInOffice_7 : decode cX3_holderInOffice 7 = .ok (.if_icmp .ge 40, 3) := by decide +kernel
theorem dX3_holderInOffice_10 : decode cX3_holderInOffice 10 = .ok (.aload_n 0, 1) := by decide +kernel
theorem dX3_holderInOffice_11 : decode cX3_holderInOffice 11 = .ok (.getfield 15, 3) := by decide +kernel
theorem dX3_holderInOffice_14 : decode cX3_holderInOffice 14 = .ok (.iload_n 3, 1) := by decide +kernel
theorem dX3_holderInOffice_15 : decode cX3_holderInOffice 15 = .ok (.iaload, 1) := by decide +kernel
theorem dX3_holderInOffice_16 : decode cX3_holderInOffice 16 = .ok (.iload_n 1, 1) := by decide +kernel
theorem dX3_holderInOffice_17 : decode cX3_holderInOffice 17 = .ok (.if_icmp .ne 24, 3) := by decide +kernel
theorem dX3_holderInOffice_20 : decode cX3_holderInOffice 20 = .ok (.aload_n 0, 1) := by decide +kernel
theorem dX3_holderInOffice_21 : decode cX3_holderInOffice 21 = .ok (.getfield 19, 3) := by decide +kernel
theorem dX3_holderInOffice_24 : decode cX3_holderInOffice 24 = .ok (.iload_n 3, 1) := by decide +kernel
theorem dX3_holderInOffice_25 : decode cX3_holderInOffice 25 = .ok (.iaload, 1) := by decide +kernel
theorem dX3_holderInOffice_26 : decode cX3_holderInOffice 26 = .ok (.iload_n 2, 1) := by decide +kernel
theorem dX3_holderInOffice_27 : decode cX3_holderInOffice 27 = .ok (.if_icmp .eq 12, 3) := by decide +kernel
theorem dX3_holderInOffice_30 : decode cX3_holderInOffice 30 = .ok (.aload_n 0, 1) := by decide +kernel
theorem dX3_holderInOffice_31 : decode cX3_holderInOffice 31 = .ok (.iload_n 3, 1) := by decide +kernel
theorem dX3_holderInOffice_32 : decode cX3_holderInOffice 32 = .ok (.invokevirtual 81, 3) := by decide +kernel
theorem dX3_holderInOffice_35 : decode cX3_holderInOffice 35 = .ok (.iload_n 2, 1) := by decide +kernel
theorem dX3_holderInOffice_36 : decode cX3_holderInOffice 36 = .ok (.if_icmp .ne 5, 3) := by decide +kernel
theorem dX3_holderInOffice_39 : decode cX3_holderInOffice 39 = .ok (.iload_n 3, 1) := by decide +kernel
theorem dX3_holderInOffice_40 : decode cX3_holderInOffice 40 = .ok (.ireturn, 1) := by decide +kernel
theorem dX3_holderInOffice_41 : decode cX3_holderInOffice 41 = .ok (.iinc 3 1, 3) := by decide +kernel
theorem dX3_holderInOffice_44 : decode cX3_holderInOffice 44 = .ok (.goto (-42), 3) := by decide +kernel
theorem dX3_holderInOffice_47 : decode cX3_holderInOffice 47 = .ok (.iconst (-1), 1) := by decide +kernel
theorem dX3_holderInOffice_48 : decode cX3_holderInOffice 48 = .ok (.ireturn, 1) := by decide +kernel
theorem dX3_holderInNet_0 : decode cX3_holderInNet 0 = .ok (.iconst 0, 1) := by decide +kernel
theorem dX3_holderInNet_1 : decode cX3_holderInNet 1 = .ok (.istore_n 3, 1) := by decide +kernel
theorem dX3_holderInNet_2 : decode cX3_holderInNet 2 = .ok (.iload_n 3, 1) := by decide +kernel
theorem dX3_holderInNet_3 : decode cX3_holderInNet 3 = .ok (.aload_n 0, 1) := by decide +kernel
theorem dX3_holderInNet_4 : decode cX3_holderInNet 4 = .ok (.getfield 49, 3) := by decide +kernel
theorem dX3_holderInNet_7 : decode cX3_holderInNet 7 = .ok (.if_icmp .ge 44, 3) := by decide +kernel
theorem dX3_holderInNet_10 : decode cX3_holderInNet 10 = .ok (.aload_n 0, 1) := by decide +kernel
theorem dX3_holderInNet_11 : decode cX3_holderInNet 11 = .ok (.aload_n 0, 1) := by decide +kernel
theorem dX3_holderInNet_12 : decode cX3_holderInNet 12 = .ok (.getfield 15, 3) := by decide +kernel
theorem dX3_holderInNet_15 : decode cX3_holderInNet 15 = .ok (.iload_n 3, 1) := by decide +kernel
theorem dX3_holderInNet_16 : decode cX3_holderInNet 16 = .ok (.iaload, 1) := by decide +kernel
theorem dX3_holderInNet_17 : decode cX3_holderInNet 17 = .ok (.iload_n 1, 1) := by decide +kernel
theorem dX3_holderInNet_18 : decode cX3_holderInNet 18 = .ok (.invokevirtual 96, 3) := by decide +kernel
theorem dX3_holderInNet_21 : decode cX3_holderInNet 21 = .ok (.ifCond .eq 24, 3) := by decide +kernel
theorem dX3_holderInNet_24 : decode cX3_holderInNet 24 = .ok (.aload_n 0, 1) := by decide +kernel
theorem dX3_holderInNet_25 : decode cX3_holderInNet 25 = .ok (.getfield 19, 3) := by decide +kernel
theorem dX3_holderInNet_28 : decode cX3_holderInNet 28 = .ok (.iload_n 3, 1) := by decide +kernel
theorem dX3_holderInNet_29 : decode cX3_holderInNet 29 = .ok (.iaload, 1) := by decide +kernel
theorem dX3_holderInNet_30 : decode cX3_holderInNet 30 = .ok (.iload_n 2, 1) := by decide +kernel
theorem dX3_holderInNet_31 : decode cX3_holderInNet 31 = .ok (.if_icmp .eq 12, 3) := by decide +kernel
theorem dX3_holderInNet_34 : decode cX3_holderInNet 34 = .ok (.aload_n 0, 1) := by decide +kernel
theorem dX3_holderInNet_35 : decode cX3_holderInNet 35 = .ok (.iload_n 3, 1) := by decide +kernel
theorem dX3_holderInNet_36 : decode cX3_holderInNet 36 = .ok (.invokevirtual 81, 3) := by decide +kernel
theorem dX3_holderInNet_39 : decode cX3_holderInNet 39 = .ok (.iload_n 2, 1) := by decide +kernel
theorem dX3_holderInNet_40 : decode cX3_holderInNet 40 = .ok (.if_icmp .ne 5, 3) := by decide +kernel
theorem dX3_holderInNet_43 : decode cX3_holderInNet 43 = .ok (.iload_n 3, 1) := by decide +kernel
theorem dX3_holderInNet_44 : decode cX3_holderInNet 44 = .ok (.ireturn, 1) := by decide +kernel
theorem dX3_holderInNet_45 : decode cX3_holderInNet 45 = .ok (.iinc 3 1, 3) := by decide +kernel
theorem dX3_holderInNet_48 : decode cX3_holderInNet 48 = .ok (.goto (-46), 3) := by decide +kernel
theorem dX3_holderInNet_51 : decode cX3_holderInNet 51 = .ok (.iconst (-1), 1) := by decide +kernel
theorem dX3_holderInNet_52 : decode cX3_holderInNet 52 = .ok (.ireturn, 1) := by decide +kernel
theorem dX3_numberedInNet_0 : decode cX3_numberedInNet 0 = .ok (.iconst 0, 1) := by decide +kernel
theorem dX3_numberedInNet_1 : decode cX3_numberedInNet 1 = .ok (.istore_n 3, 1) := by decide +kernel
theorem dX3_numberedInNet_2 : decode cX3_numberedInNet 2 = .ok (.iload_n 3, 1) := by decide +kernel
theorem dX3_numberedInNet_3 : decode cX3_numberedInNet 3 = .ok (.aload_n 0, 1) := by decide +kernel
theorem dX3_numberedInNet_4 : decode cX3_numberedInNet 4 = .ok (.getfield 49, 3) := by decide +kernel
theorem dX3_numberedInNet_7 : decode cX3_numberedInNet 7 = .ok (.if_icmp .ge 35, 3) := by decide +kernel
theorem dX3_numberedInNet_10 : decode cX3_numberedInNet 10 = .ok (.aload_n 0, 1) := by decide +kernel
theorem dX3_numberedInNet_11 : decode cX3_numberedInNet 11 = .ok (.aload_n 0, 1) := by decide +kernel
theorem dX3_numberedInNet_12 : decode cX3_numberedInNet 12 = .ok (.getfield 15, 3) := by decide +kernel
theorem dX3_numberedInNet_15 : decode cX3_numberedInNet 15 = .ok (.iload_n 3, 1) := by decide +kernel
theorem dX3_numberedInNet_16 : decode cX3_numberedInNet 16 = .ok (.iaload, 1) := by decide +kernel
theorem dX3_numberedInNet_17 : decode cX3_numberedInNet 17 = .ok (.iload_n 1, 1) := by decide +kernel
theorem dX3_numberedInNet_18 : decode cX3_numberedInNet 18 = .ok (.invokevirtual 96, 3) := by decide +kernel
theorem dX3_numberedInNet_21 : decode cX3_numberedInNet 21 = .ok (.ifCond .eq 15, 3) := by decide +kernel
theorem dX3_numberedInNet_24 : decode cX3_numberedInNet 24 = .ok (.aload_n 0, 1) := by decide +kernel
theorem dX3_numberedInNet_25 : decode cX3_numberedInNet 25 = .ok (.getfield 19, 3) := by decide +kernel
theorem dX3_numberedInNet_28 : decode cX3_numberedInNet 28 = .ok (.iload_n 3, 1) := by decide +kernel
theorem dX3_numberedInNet_29 : decode cX3_numberedInNet 29 = .ok (.iaload, 1) := by decide +kernel
theorem dX3_numberedInNet_30 : decode cX3_numberedInNet 30 = .ok (.iload_n 2, 1) := by decide +kernel
theorem dX3_numberedInNet_31 : decode cX3_numberedInNet 31 = .ok (.if_icmp .ne 5, 3) := by decide +kernel
theorem dX3_numberedInNet_34 : decode cX3_numberedInNet 34 = .ok (.iload_n 3, 1) := by decide +kernel
theorem dX3_numberedInNet_35 : decode cX3_numberedInNet 35 = .ok (.ireturn, 1) := by decide +kernel
theorem dX3_numberedInNet_36 : decode cX3_numberedInNet 36 = .ok (.iinc 3 1, 3) := by decide +kernel
theorem dX3_numberedInNet_39 : decode cX3_numberedInNet 39 = .ok (.goto (-37), 3) := by decide +kernel
theorem dX3_numberedInNet_42 : decode cX3_numberedInNet 42 = .ok (.iconst (-1), 1) := by decide +kernel
theorem dX3_numberedInNet_43 : decode cX3_numberedInNet 43 = .ok (.ireturn, 1) := by decide +kernel
theorem dX3_inNet_0 : decode cX3_inNet 0 = .ok (.aload_n 0, 1) := by decide +kernel
theorem dX3_inNet_1 : decode cX3_inNet 1 = .ok (.getfield 71, 3) := by decide +kernel
theorem dX3_inNet_4 : decode cX3_inNet 4 = .ok (.ifCond .ne 8, 3) := by decide +kernel
theorem dX3_inNet_7 : decode cX3_inNet 7 = .ok (.iload_n 1, 1) := by decide +kernel
theorem dX3_inNet_8 : decode cX3_inNet 8 = .ok (.iload_n 2, 1) := by decide +kernel
theorem dX3_inNet_9 : decode cX3_inNet 9 = .ok (.if_icmp .ne 7, 3) := by decide +kernel
theorem dX3_inNet_12 : decode cX3_inNet 12 = .ok (.iconst 1, 1) := by decide +kernel
theorem dX3_inNet_13 : decode cX3_inNet 13 = .ok (.goto 4, 3) := by decide +kernel
theorem dX3_inNet_16 : decode cX3_inNet 16 = .ok (.iconst 0, 1) := by decide +kernel
theorem dX3_inNet_17 : decode cX3_inNet 17 = .ok (.ireturn, 1) := by decide +kernel
theorem dX3_chosenToMove_0 : decode cX3_chosenToMove 0 = .ok (.aload_n 0, 1) := by decide +kernel
theorem dX3_chosenToMove_1 : decode cX3_chosenToMove 1 = .ok (.iconst 1, 1) := by decide +kernel
theorem dX3_chosenToMove_2 : decode cX3_chosenToMove 2 = .ok (.iload_n 1, 1) := by decide +kernel
theorem dX3_chosenToMove_3 : decode cX3_chosenToMove 3 = .ok (.invokevirtual 99, 3) := by decide +kernel
theorem dX3_chosenToMove_6 : decode cX3_chosenToMove 6 = .ok (.istore_n 2, 1) := by decide +kernel
theorem dX3_chosenToMove_7 : decode cX3_chosenToMove 7 = .ok (.iload_n 2, 1) := by decide +kernel
theorem dX3_chosenToMove_8 : decode cX3_chosenToMove 8 = .ok (.iconst (-1), 1) := by decide +kernel
theorem dX3_chosenToMove_9 : decode cX3_chosenToMove 9 = .ok (.if_icmp .eq 7, 3) := by decide +kernel
theorem dX3_chosenToMove_12 : decode cX3_chosenToMove 12 = .ok (.iload_n 2, 1) := by decide +kernel
theorem dX3_chosenToMove_13 : decode cX3_chosenToMove 13 = .ok (.goto 9, 3) := by decide +kernel
theorem dX3_chosenToMove_16 : decode cX3_chosenToMove 16 = .ok (.aload_n 0, 1) := by decide +kernel
theorem dX3_chosenToMove_17 : decode cX3_chosenToMove 17 = .ok (.iconst 0, 1) := by decide +kernel
theorem dX3_chosenToMove_18 : decode cX3_chosenToMove 18 = .ok (.iload_n 1, 1) := by decide +kernel
theorem dX3_chosenToMove_19 : decode cX3_chosenToMove 19 = .ok (.invokevirtual 99, 3) := by decide +kernel
theorem dX3_chosenToMove_22 : decode cX3_chosenToMove 22 = .ok (.ireturn, 1) := by decide +kernel
theorem dX3_movableWith_0 : decode cX3_movableWith 0 = .ok (.iconst 0, 1) := by decide +kernel
theorem dX3_movableWith_1 : decode cX3_movableWith 1 = .ok (.istore_n 3, 1) := by decide +kernel
theorem dX3_movableWith_2 : decode cX3_movableWith 2 = .ok (.iload_n 3, 1) := by decide +kernel
theorem dX3_movableWith_3 : decode cX3_movableWith 3 = .ok (.aload_n 0, 1) := by decide +kernel
theorem dX3_movableWith_4 : decode cX3_movableWith 4 = .ok (.getfield 49, 3) := by decide +kernel
theorem dX3_movableWith_7 : decode cX3_movableWith 7 = .ok (.if_icmp .ge 40, 3) := by decide +kernel
theorem dX3_movableWith_10 : decode cX3_movableWith 10 = .ok (.aload_n 0, 1) := by decide +kernel
theorem dX3_movableWith_11 : decode cX3_movableWith 11 = .ok (.getfield 15, 3) := by decide +kernel
theorem dX3_movableWith_14 : decode cX3_movableWith 14 = .ok (.iload_n 3, 1) := by decide +kernel
theorem dX3_movableWith_15 : decode cX3_movableWith 15 = .ok (.iaload, 1) := by decide +kernel
theorem dX3_movableWith_16 : decode cX3_movableWith 16 = .ok (.iload_n 1, 1) := by decide +kernel
theorem dX3_movableWith_17 : decode cX3_movableWith 17 = .ok (.if_icmp .ne 24, 3) := by decide +kernel
theorem dX3_movableWith_20 : decode cX3_movableWith 20 = .ok (.aload_n 0, 1) := by decide +kernel
theorem dX3_movableWith_21 : decode cX3_movableWith 21 = .ok (.getfield 19, 3) := by decide +kernel
theorem dX3_movableWith_24 : decode cX3_movableWith 24 = .ok (.iload_n 3, 1) := by decide +kernel
theorem dX3_movableWith_25 : decode cX3_movableWith 25 = .ok (.iaload, 1) := by decide +kernel
theorem dX3_movableWith_26 : decode cX3_movableWith 26 = .ok (.iload_n 2, 1) := by decide +kernel
theorem dX3_movableWith_27 : decode cX3_movableWith 27 = .ok (.if_icmp .ne 14, 3) := by decide +kernel
theorem dX3_movableWith_30 : decode cX3_movableWith 30 = .ok (.aload_n 0, 1) := by decide +kernel
theorem dX3_movableWith_31 : decode cX3_movableWith 31 = .ok (.getfield 22, 3) := by decide +kernel
theorem dX3_movableWith_34 : decode cX3_movableWith 34 = .ok (.iload_n 3, 1) := by decide +kernel
theorem dX3_movableWith_35 : decode cX3_movableWith 35 = .ok (.iaload, 1) := by decide +kernel
theorem dX3_movableWith_36 : decode cX3_movableWith 36 = .ok (.ifCond .ne 5, 3) := by decide +kernel
theorem dX3_movableWith_39 : decode cX3_movableWith 39 = .ok (.iload_n 3, 1) := by decide +kernel
theorem dX3_movableWith_40 : decode cX3_movableWith 40 = .ok (.ireturn, 1) := by decide +kernel
theorem dX3_movableWith_41 : decode cX3_movableWith 41 = .ok (.iinc 3 1, 3) := by decide +kernel
theorem dX3_movableWith_44 : decode cX3_movableWith 44 = .ok (.goto (-42), 3) := by decide +kernel
theorem dX3_movableWith_47 : decode cX3_movableWith 47 = .ok (.iconst (-1), 1) := by decide +kernel
theorem dX3_movableWith_48 : decode cX3_movableWith 48 = .ok (.ireturn, 1) := by decide +kernel
theorem dX3_keeperWouldMove_0 : decode cX3_keeperWouldMove 0 = .ok (.iconst 0, 1) := by decide +kernel
theorem dX3_keeperWouldMove_1 : decode cX3_keeperWouldMove 1 = .ok (.istore_n 1, 1) := by decide +kernel
theorem dX3_keeperWouldMove_2 : decode cX3_keeperWouldMove 2 = .ok (.iload_n 1, 1) := by decide +kernel
theorem dX3_keeperWouldMove_3 : decode cX3_keeperWouldMove 3 = .ok (.aload_n 0, 1) := by decide +kernel
theorem dX3_keeperWouldMove_4 : decode cX3_keeperWouldMove 4 = .ok (.getfield 49, 3) := by decide +kernel
theorem dX3_keeperWouldMove_7 : decode cX3_keeperWouldMove 7 = .ok (.if_icmp .ge 40, 3) := by decide +kernel
theorem dX3_keeperWouldMove_10 : decode cX3_keeperWouldMove 10 = .ok (.aload_n 0, 1) := by decide +kernel
theorem dX3_keeperWouldMove_11 : decode cX3_keeperWouldMove 11 = .ok (.getfield 28, 3) := by decide +kernel
theorem dX3_keeperWouldMove_14 : decode cX3_keeperWouldMove 14 = .ok (.iload_n 1, 1) := by decide +kernel
theorem dX3_keeperWouldMove_15 : decode cX3_keeperWouldMove 15 = .ok (.iaload, 1) := by decide +kernel
theorem dX3_keeperWouldMove_16 : decode cX3_keeperWouldMove 16 = .ok (.aload_n 0, 1) := by decide +kernel
theorem dX3_keeperWouldMove_17 : decode cX3_keeperWouldMove 17 = .ok (.getfield 56, 3) := by decide +kernel
theorem dX3_keeperWouldMove_20 : decode cX3_keeperWouldMove 20 = .ok (.iconst 1, 1) := by decide +kernel
theorem dX3_keeperWouldMove_21 : decode cX3_keeperWouldMove 21 = .ok (.iadd, 1) := by decide +kernel
theorem dX3_keeperWouldMove_22 : decode cX3_keeperWouldMove 22 = .ok (.if_icmp .ne 19, 3) := by decide +kernel
theorem dX3_keeperWouldMove_25 : decode cX3_keeperWouldMove 25 = .ok (.aload_n 0, 1) := by decide +kernel
theorem dX3_keeperWouldMove_26 : decode cX3_keeperWouldMove 26 = .ok (.iload_n 1, 1) := by decide +kernel
theorem dX3_keeperWouldMove_27 : decode cX3_keeperWouldMove 27 = .ok (.aload_n 0, 1) := by decide +kernel
theorem dX3_keeperWouldMove_28 : decode cX3_keeperWouldMove 28 = .ok (.getfield 56, 3) := by decide +kernel
theorem dX3_keeperWouldMove_31 : decode cX3_keeperWouldMove 31 = .ok (.iconst 1, 1) := by decide +kernel
theorem dX3_keeperWouldMove_32 : decode cX3_keeperWouldMove 32 = .ok (.iadd, 1) := by decide +kernel
theorem dX3_keeperWouldMove_33 : decode cX3_keeperWouldMove 33 = .ok (.invokevirtual 88, 3) := by decide +kernel
theorem dX3_keeperWouldMove_36 : decode cX3_keeperWouldMove 36 = .ok (.ifCond .eq 5, 3) := by decide +kernel
theorem dX3_keeperWouldMove_39 : decode cX3_keeperWouldMove 39 = .ok (.iconst 1, 1) := by decide +kernel
theorem dX3_keeperWouldMove_40 : decode cX3_keeperWouldMove 40 = .ok (.ireturn, 1) := by decide +kernel
theorem dX3_keeperWouldMove_41 : decode cX3_keeperWouldMove 41 = .ok (.iinc 1 1, 3) := by decide +kernel
theorem dX3_keeperWouldMove_44 : decode cX3_keeperWouldMove 44 = .ok (.goto (-42), 3) := by decide +kernel
theorem dX3_keeperWouldMove_47 : decode cX3_keeperWouldMove 47 = .ok (.iconst 0, 1) := by decide +kernel
theorem dX3_keeperWouldMove_48 : decode cX3_keeperWouldMove 48 = .ok (.ireturn, 1) := by decide +kernel
theorem dX3_doWave_0 : decode cX3_doWave 0 = .ok (.aload_n 0, 1) := by decide +kernel
theorem dX3_doWave_1 : decode cX3_doWave 1 = .ok (.getfield 56, 3) := by decide +kernel
theorem dX3_doWave_4 : decode cX3_doWave 4 = .ok (.bipush 9, 2) := by decide +kernel
theorem dX3_doWave_6 : decode cX3_doWave 6 = .ok (.if_icmp .lt 5, 3) := by decide +kernel
theorem dX3_doWave_9 : decode cX3_doWave 9 = .ok (.iconst 0, 1) := by decide +kernel
theorem dX3_doWave_10 : decode cX3_doWave 10 = .ok (.ireturn, 1) := by decide +kernel
theorem dX3_doWave_11 : decode cX3_doWave 11 = .ok (.aload_n 0, 1) := by decide +kernel
theorem dX3_doWave_12 : decode cX3_doWave 12 = .ok (.dup, 1) := by decide +kernel
theorem dX3_doWave_13 : decode cX3_doWave 13 = .ok (.getfield 56, 3) := by decide +kernel
theorem dX3_doWave_16 : decode cX3_doWave 16 = .ok (.iconst 1, 1) := by decide +kernel
theorem dX3_doWave_17 : decode cX3_doWave 17 = .ok (.iadd, 1) := by decide +kernel
theorem dX3_doWave_18 : decode cX3_doWave 18 = .ok (.putfield 56, 3) := by decide +kernel
theorem dX3_doWave_21 : decode cX3_doWave 21 = .ok (.iconst 0, 1) := by decide +kernel
theorem dX3_doWave_22 : decode cX3_doWave 22 = .ok (.istore_n 1, 1) := by decide +kernel
theorem dX3_doWave_23 : decode cX3_doWave 23 = .ok (.iload_n 1, 1) := by decide +kernel
theorem dX3_doWave_24 : decode cX3_doWave 24 = .ok (.aload_n 0, 1) := by decide +kernel
theorem dX3_doWave_25 : decode cX3_doWave 25 = .ok (.getfield 53, 3) := by decide +kernel
theorem dX3_doWave_28 : decode cX3_doWave 28 = .ok (.if_icmp .ge 53, 3) := by decide +kernel
theorem dX3_doWave_31 : decode cX3_doWave 31 = .ok (.aload_n 0, 1) := by decide +kernel
theorem dX3_doWave_32 : decode cX3_doWave 32 = .ok (.getfield 43, 3) := by decide +kernel
theorem dX3_doWave_35 : decode cX3_doWave 35 = .ok (.iload_n 1, 1) := by decide +kernel
theorem dX3_doWave_36 : decode cX3_doWave 36 = .ok (.aload_n 0, 1) := by decide +kernel
theorem dX3_doWave_37 : decode cX3_doWave 37 = .ok (.aload_n 0, 1) := by decide +kernel
theorem dX3_doWave_38 : decode cX3_doWave 38 = .ok (.getfield 37, 3) := by decide +kernel
theorem dX3_doWave_41 : decode cX3_doWave 41 = .ok (.iload_n 1, 1) := by decide +kernel
theorem dX3_doWave_42 : decode cX3_doWave 42 = .ok (.iaload, 1) := by decide +kernel
theorem dX3_doWave_43 : decode cX3_doWave 43 = .ok (.aload_n 0, 1) := by decide +kernel
theorem dX3_doWave_44 : decode cX3_doWave 44 = .ok (.getfield 43, 3) := by decide +kernel
theorem dX3_doWave_47 : decode cX3_doWave 47 = .ok (.iload_n 1, 1) := by decide +kernel
theorem dX3_doWave_48 : decode cX3_doWave 48 = .ok (.iaload, 1) := by decide +kernel
theorem dX3_doWave_49 : decode cX3_doWave 49 = .ok (.invokevirtual 120, 3) := by decide +kernel
theorem dX3_doWave_52 : decode cX3_doWave 52 = .ok (.iastore, 1) := by decide +kernel
theorem dX3_doWave_53 : decode cX3_doWave 53 = .ok (.aload_n 0, 1) := by decide +kernel
theorem dX3_doWave_54 : decode cX3_doWave 54 = .ok (.getfield 46, 3) := by decide +kernel
theorem dX3_doWave_57 : decode cX3_doWave 57 = .ok (.iload_n 1, 1) := by decide +kernel
theorem dX3_doWave_58 : decode cX3_doWave 58 = .ok (.aload_n 0, 1) := by decide +kernel
theorem dX3_doWave_59 : decode cX3_doWave 59 = .ok (.aload_n 0, 1) := by decide +kernel
theorem dX3_doWave_60 : decode cX3_doWave 60 = .ok (.getfield 37, 3) := by decide +kernel
theorem dX3_doWave_63 : decode cX3_doWave 63 = .ok (.iload_n 1, 1) := by decide +kernel
theorem dX3_doWave_64 : decode cX3_doWave 64 = .ok (.iaload, 1) := by decide +kernel
theorem dX3_doWave_65 : decode cX3_doWave 65 = .ok (.aload_n 0, 1) := by decide +kernel
theorem dX3_doWave_66 : decode cX3_doWave 66 = .ok (.getfield 46, 3) := by decide +kernel
theorem dX3_doWave_69 : decode cX3_doWave 69 = .ok (.iload_n 1, 1) := by decide +kernel
theorem dX3_doWave_70 : decode cX3_doWave 70 = .ok (.iaload, 1) := by decide +kernel
theorem dX3_doWave_71 : decode cX3_doWave 71 = .ok (.invokevirtual 120, 3) := by decide +kernel
theorem dX3_doWave_74 : decode cX3_doWave 74 = .ok (.iastore, 1) := by decide +kernel
theorem dX3_doWave_75 : decode cX3_doWave 75 = .ok (.iinc 1 1, 3) := by decide +kernel
theorem dX3_doWave_78 : decode cX3_doWave 78 = .ok (.goto (-55), 3) := by decide +kernel
theorem dX3_doWave_81 : decode cX3_doWave 81 = .ok (.iconst 0, 1) := by decide +kernel
theorem dX3_doWave_82 : decode cX3_doWave 82 = .ok (.istore_n 1, 1) := by decide +kernel
theorem dX3_doWave_83 : decode cX3_doWave 83 = .ok (.iconst 0, 1) := by decide +kernel
theorem dX3_doWave_84 : decode cX3_doWave 84 = .ok (.istore_n 2, 1) := by decide +kernel
theorem dX3_doWave_85 : decode cX3_doWave 85 = .ok (.iload_n 2, 1) := by decide +kernel
theorem dX3_doWave_86 : decode cX3_doWave 86 = .ok (.aload_n 0, 1) := by decide +kernel
theorem dX3_doWave_87 : decode cX3_doWave 87 = .ok (.getfield 49, 3) := by decide +kernel
theorem dX3_doWave_90 : decode cX3_doWave 90 = .ok (.if_icmp .ge 74, 3) := by decide +kernel
theorem dX3_doWave_93 : decode cX3_doWave 93 = .ok (.aload_n 0, 1) := by decide +kernel
theorem dX3_doWave_94 : decode cX3_doWave 94 = .ok (.getfield 28, 3) := by decide +kernel
theorem dX3_doWave_97 : decode cX3_doWave 97 = .ok (.iload_n 2, 1) := by decide +kernel
theorem dX3_doWave_98 : decode cX3_doWave 98 = .ok (.iaload, 1) := by decide +kernel
theorem dX3_doWave_99 : decode cX3_doWave 99 = .ok (.aload_n 0, 1) := by decide +kernel
theorem dX3_doWave_100 : decode cX3_doWave 100 = .ok (.getfield 56, 3) := by decide +kernel
theorem dX3_doWave_103 : decode cX3_doWave 103 = .ok (.if_icmp .ne 55, 3) := by decide +kernel
theorem dX3_doWave_106 : decode cX3_doWave 106 = .ok (.aload_n 0, 1) := by decide +kernel
theorem dX3_doWave_107 : decode cX3_doWave 107 = .ok (.getfield 34, 3) := by decide +kernel
theorem dX3_doWave_110 : decode cX3_doWave 110 = .ok (.iload_n 2, 1) := by decide +kernel
theorem dX3_doWave_111 : decode cX3_doWave 111 = .ok (.bipush 10, 2) := by decide +kernel
theorem dX3_doWave_113 : decode cX3_doWave 113 = .ok (.imul, 1) := by decide +kernel
theorem dX3_doWave_114 : decode cX3_doWave 114 = .ok (.aload_n 0, 1) := by decide +kernel
theorem dX3_doWave_115 : decode cX3_doWave 115 = .ok (.getfield 56, 3) := by decide +kernel
theorem dX3_doWave_118 : decode cX3_doWave 118 = .ok (.iadd, 1) := by decide +kernel
theorem dX3_doWave_119 : decode cX3_doWave 119 = .ok (.aload_n 0, 1) := by decide +kernel
theorem dX3_doWave_120 : decode cX3_doWave 120 = .ok (.getfield 19, 3) := by decide +kernel
theorem dX3_doWave_123 : decode cX3_doWave 123 = .ok (.iload_n 2, 1) := by decide +kernel
theorem dX3_doWave_124 : decode cX3_doWave 124 = .ok (.iaload, 1) := by decide +kernel
theorem dX3_doWave_125 : decode cX3_doWave 125 = .ok (.iastore, 1) := by decide +kernel
theorem dX3_doWave_126 : decode cX3_doWave 126 = .ok (.aload_n 0, 1) := by decide +kernel
theorem dX3_doWave_127 : decode cX3_doWave 127 = .ok (.getfield 31, 3) := by decide +kernel
theorem dX3_doWave_130 : decode cX3_doWave 130 = .ok (.iload_n 2, 1) := by decide +kernel
theorem dX3_doWave_131 : decode cX3_doWave 131 = .ok (.aload_n 0, 1) := by decide +kernel
theorem dX3_doWave_132 : decode cX3_doWave 132 = .ok (.getfield 56, 3) := by decide +kernel
theorem dX3_doWave_135 : decode cX3_doWave 135 = .ok (.iastore, 1) := by decide +kernel
theorem dX3_doWave_136 : decode cX3_doWave 136 = .ok (.aload_n 0, 1) := by decide +kernel
theorem dX3_doWave_137 : decode cX3_doWave 137 = .ok (.getfield 19, 3) := by decide +kernel
theorem dX3_doWave_140 : decode cX3_doWave 140 = .ok (.iload_n 2, 1) := by decide +kernel
theorem dX3_doWave_141 : decode cX3_doWave 141 = .ok (.aload_n 0, 1) := by decide +kernel
theorem dX3_doWave_142 : decode cX3_doWave 142 = .ok (.getfield 25, 3) := by decide +kernel
theorem dX3_doWave_145 : decode cX3_doWave 145 = .ok (.iload_n 2, 1) := by decide +kernel
theorem dX3_doWave_146 : decode cX3_doWave 146 = .ok (.iaload, 1) := by decide +kernel
theorem dX3_doWave_147 : decode cX3_doWave 147 = .ok (.iastore, 1) := by decide +kernel
theorem dX3_doWave_148 : decode cX3_doWave 148 = .ok (.aload_n 0, 1) := by decide +kernel
theorem dX3_doWave_149 : decode cX3_doWave 149 = .ok (.iload_n 2, 1) := by decide +kernel
theorem dX3_doWave_150 : decode cX3_doWave 150 = .ok (.iconst 0, 1) := by decide +kernel
theorem dX3_doWave_151 : decode cX3_doWave 151 = .ok (.iconst 0, 1) := by decide +kernel
theorem dX3_doWave_152 : decode cX3_doWave 152 = .ok (.invokevirtual 123, 3) := by decide +kernel
theorem dX3_doWave_155 : decode cX3_doWave 155 = .ok (.iinc 1 1, 3) := by decide +kernel
theorem dX3_doWave_158 : decode cX3_doWave 158 = .ok (.iinc 2 1, 3) := by decide +kernel
theorem dX3_doWave_161 : decode cX3_doWave 161 = .ok (.goto (-76), 3) := by decide +kernel
theorem dX3_doWave_164 : decode cX3_doWave 164 = .ok (.iload_n 1, 1) := by decide +kernel
theorem dX3_doWave_165 : decode cX3_doWave 165 = .ok (.ireturn, 1) := by decide +kernel
theorem dX3_sideBehindWave_0 : decode cX3_sideBehindWave 0 = .ok (.aload_n 0, 1) := by decide +kernel
theorem dX3_sideBehindWave_1 : decode cX3_sideBehindWave 1 = .ok (.iload_n 1, 1) := by decide +kernel
theorem dX3_sideBehindWave_2 : decode cX3_sideBehindWave 2 = .ok (.iload_n 2, 1) := by decide +kernel
theorem dX3_sideBehindWave_3 : decode cX3_sideBehindWave 3 = .ok (.invokevirtual 127, 3) := by decide +kernel
theorem dX3_sideBehindWave_6 : decode cX3_sideBehindWave 6 = .ok (.istore_n 3, 1) := by decide +kernel
theorem dX3_sideBehindWave_7 : decode cX3_sideBehindWave 7 = .ok (.iload_n 3, 1) := by decide +kernel
theorem dX3_sideBehindWave_8 : decode cX3_sideBehindWave 8 = .ok (.iconst (-1), 1) := by decide +kernel
theorem dX3_sideBehindWave_9 : decode cX3_sideBehindWave 9 = .ok (.if_icmp .eq 25, 3) := by decide +kernel
theorem dX3_sideBehindWave_12 : decode cX3_sideBehindWave 12 = .ok (.aload_n 0, 1) := by decide +kernel
theorem dX3_sideBehindWave_13 : decode cX3_sideBehindWave 13 = .ok (.getfield 28, 3) := by decide +kernel
theorem dX3_sideBehindWave_16 : decode cX3_sideBehindWave 16 = .ok (.iload_n 3, 1) := by decide +kernel
theorem dX3_sideBehindWave_17 : decode cX3_sideBehindWave 17 = .ok (.iaload, 1) := by decide +kernel
theorem dX3_sideBehindWave_18 : decode cX3_sideBehindWave 18 = .ok (.aload_n 0, 1) := by decide +kernel
theorem dX3_sideBehindWave_19 : decode cX3_sideBehindWave 19 = .ok (.getfield 56, 3) := by decide +kernel
theorem dX3_sideBehindWave_22 : decode cX3_sideBehindWave 22 = .ok (.if_icmp .ne 12, 3) := by decide +kernel
theorem dX3_sideBehindWave_25 : decode cX3_sideBehindWave 25 = .ok (.aload_n 0, 1) := by decide +kernel
theorem dX3_sideBehindWave_26 : decode cX3_sideBehindWave 26 = .ok (.getfield 25, 3) := by decide +kernel
theorem dX3_sideBehindWave_29 : decode cX3_sideBehindWave 29 = .ok (.iload_n 3, 1) := by decide +kernel
theorem dX3_sideBehindWave_30 : decode cX3_sideBehindWave 30 = .ok (.iaload, 1) := by decide +kernel
theorem dX3_sideBehindWave_31 : decode cX3_sideBehindWave 31 = .ok (.goto 4, 3) := by decide +kernel
theorem dX3_sideBehindWave_34 : decode cX3_sideBehindWave 34 = .ok (.iload_n 2, 1) := by decide +kernel
theorem dX3_sideBehindWave_35 : decode cX3_sideBehindWave 35 = .ok (.ireturn, 1) := by decide +kernel
theorem dX3_undoWave_0 : decode cX3_undoWave 0 = .ok (.aload_n 0, 1) := by decide +kernel
theorem dX3_undoWave_1 : decode cX3_undoWave 1 = .ok (.getfield 56, 3) := by decide +kernel
theorem dX3_undoWave_4 : decode cX3_undoWave 4 = .ok (.iconst 1, 1) := by decide +kernel
theorem dX3_undoWave_5 : decode cX3_undoWave 5 = .ok (.if_icmp .ge 4, 3) := by decide +kernel
theorem dX3_undoWave_8 : decode cX3_undoWave 8 = .ok (.return_, 1) := by decide +kernel
theorem dX3_undoWave_9 : decode cX3_undoWave 9 = .ok (.iconst 0, 1) := by decide +kernel
theorem dX3_undoWave_10 : decode cX3_undoWave 10 = .ok (.istore_n 1, 1) := by decide +kernel
theorem dX3_undoWave_11 : decode cX3_undoWave 11 = .ok (.iload_n 1, 1) := by decide +kernel
theorem dX3_undoWave_12 : decode cX3_undoWave 12 = .ok (.aload_n 0, 1) := by decide +kernel
theorem dX3_undoWave_13 : decode cX3_undoWave 13 = .ok (.getfield 53, 3) := by decide +kernel
theorem dX3_undoWave_16 : decode cX3_undoWave 16 = .ok (.if_icmp .ge 53, 3) := by decide +kernel
theorem dX3_undoWave_19 : decode cX3_undoWave 19 = .ok (.aload_n 0, 1) := by decide +kernel
theorem dX3_undoWave_20 : decode cX3_undoWave 20 = .ok (.getfield 43, 3) := by decide +kernel
theorem dX3_undoWave_23 : decode cX3_undoWave 23 = .ok (.iload_n 1, 1) := by decide +kernel
theorem dX3_undoWave_24 : decode cX3_undoWave 24 = .ok (.aload_n 0, 1) := by decide +kernel
theorem dX3_undoWave_25 : decode cX3_undoWave 25 = .ok (.aload_n 0, 1) := by decide +kernel
theorem dX3_undoWave_26 : decode cX3_undoWave 26 = .ok (.getfield 37, 3) := by decide +kernel
theorem dX3_undoWave_29 : decode cX3_undoWave 29 = .ok (.iload_n 1, 1) := by decide +kernel
theorem dX3_undoWave_30 : decode cX3_undoWave 30 = .ok (.iaload, 1) := by decide +kernel
theorem dX3_undoWave_31 : decode cX3_undoWave 31 = .ok (.aload_n 0, 1) := by decide +kernel
theorem dX3_undoWave_32 : decode cX3_undoWave 32 = .ok (.getfield 43, 3) := by decide +kernel
theorem dX3_undoWave_35 : decode cX3_undoWave 35 = .ok (.iload_n 1, 1) := by decide +kernel
theorem dX3_undoWave_36 : decode cX3_undoWave 36 = .ok (.iaload, 1) := by decide +kernel
theorem dX3_undoWave_37 : decode cX3_undoWave 37 = .ok (.invokevirtual 130, 3) := by decide +kernel
theorem dX3_undoWave_40 : decode cX3_undoWave 40 = .ok (.iastore, 1) := by decide +kernel
theorem dX3_undoWave_41 : decode cX3_undoWave 41 = .ok (.aload_n 0, 1) := by decide +kernel
theorem dX3_undoWave_42 : decode cX3_undoWave 42 = .ok (.getfield 46, 3) := by decide +kernel
theorem dX3_undoWave_45 : decode cX3_undoWave 45 = .ok (.iload_n 1, 1) := by decide +kernel
theorem dX3_undoWave_46 : decode cX3_undoWave 46 = .ok (.aload_n 0, 1) := by decide +kernel
theorem dX3_undoWave_47 : decode cX3_undoWave 47 = .ok (.aload_n 0, 1) := by decide +kernel
theorem dX3_undoWave_48 : decode cX3_undoWave 48 = .ok (.getfield 37, 3) := by decide +kernel
theorem dX3_undoWave_51 : decode cX3_undoWave 51 = .ok (.iload_n 1, 1) := by decide +kernel
theorem dX3_undoWave_52 : decode cX3_undoWave 52 = .ok (.iaload, 1) := by decide +kernel
theorem dX3_undoWave_53 : decode cX3_undoWave 53 = .ok (.aload_n 0, 1) := by decide +kernel
theorem dX3_undoWave_54 : decode cX3_undoWave 54 = .ok (.getfield 46, 3) := by decide +kernel
theorem dX3_undoWave_57 : decode cX3_undoWave 57 = .ok (.iload_n 1, 1) := by decide +kernel
theorem dX3_undoWave_58 : decode cX3_undoWave 58 = .ok (.iaload, 1) := by decide +kernel
theorem dX3_undoWave_59 : decode cX3_undoWave 59 = .ok (.invokevirtual 130, 3) := by decide +kernel
theorem dX3_undoWave_62 : decode cX3_undoWave 62 = .ok (.iastore, 1) := by decide +kernel
theorem dX3_undoWave_63 : decode cX3_undoWave 63 = .ok (.iinc 1 1, 3) := by decide +kernel
theorem dX3_undoWave_66 : decode cX3_undoWave 66 = .ok (.goto (-55), 3) := by decide +kernel
theorem dX3_undoWave_69 : decode cX3_undoWave 69 = .ok (.iconst 0, 1) := by decide +kernel
theorem dX3_undoWave_70 : decode cX3_undoWave 70 = .ok (.istore_n 1, 1) := by decide +kernel
theorem dX3_undoWave_71 : decode cX3_undoWave 71 = .ok (.iload_n 1, 1) := by decide +kernel
theorem dX3_undoWave_72 : decode cX3_undoWave 72 = .ok (.aload_n 0, 1) := by decide +kernel
theorem dX3_undoWave_73 : decode cX3_undoWave 73 = .ok (.getfield 49, 3) := by decide +kernel
theorem dX3_undoWave_76 : decode cX3_undoWave 76 = .ok (.if_icmp .ge 27, 3) := by decide +kernel
theorem dX3_undoWave_79 : decode cX3_undoWave 79 = .ok (.aload_n 0, 1) := by decide +kernel
theorem dX3_undoWave_80 : decode cX3_undoWave 80 = .ok (.getfield 31, 3) := by decide +kernel
theorem dX3_undoWave_83 : decode cX3_undoWave 83 = .ok (.iload_n 1, 1) := by decide +kernel
theorem dX3_undoWave_84 : decode cX3_undoWave 84 = .ok (.iaload, 1) := by decide +kernel
theorem dX3_undoWave_85 : decode cX3_undoWave 85 = .ok (.aload_n 0, 1) := by decide +kernel
theorem dX3_undoWave_86 : decode cX3_undoWave 86 = .ok (.getfield 56, 3) := by decide +kernel
theorem dX3_undoWave_89 : decode cX3_undoWave 89 = .ok (.if_icmp .ne 8, 3) := by decide +kernel
theorem dX3_undoWave_92 : decode cX3_undoWave 92 = .ok (.aload_n 0, 1) := by decide +kernel
theorem dX3_undoWave_93 : decode cX3_undoWave 93 = .ok (.iload_n 1, 1) := by decide +kernel
theorem dX3_undoWave_94 : decode cX3_undoWave 94 = .ok (.invokevirtual 133, 3) := by decide +kernel
theorem dX3_undoWave_97 : decode cX3_undoWave 97 = .ok (.iinc 1 1, 3) := by decide +kernel
theorem dX3_undoWave_100 : decode cX3_undoWave 100 = .ok (.goto (-29), 3) := by decide +kernel
theorem dX3_undoWave_103 : decode cX3_undoWave 103 = .ok (.aload_n 0, 1) := by decide +kernel
theorem dX3_undoWave_104 : decode cX3_undoWave 104 = .ok (.dup, 1) := by decide +kernel
theorem dX3_undoWave_105 : decode cX3_undoWave 105 = .ok (.getfield 56, 3) := by decide +kernel
theorem dX3_undoWave_108 : decode cX3_undoWave 108 = .ok (.iconst 1, 1) := by decide +kernel
theorem dX3_undoWave_109 : decode cX3_undoWave 109 = .ok (.isub, 1) := by decide +kernel
theorem dX3_undoWave_110 : decode cX3_undoWave 110 = .ok (.putfield 56, 3) := by decide +kernel
theorem dX3_undoWave_113 : decode cX3_undoWave 113 = .ok (.return_, 1) := by decide +kernel
theorem dX3_sideAheadOfWave_0 : decode cX3_sideAheadOfWave 0 = .ok (.aload_n 0, 1) := by decide +kernel
theorem dX3_sideAheadOfWave_1 : decode cX3_sideAheadOfWave 1 = .ok (.iload_n 1, 1) := by decide +kernel
theorem dX3_sideAheadOfWave_2 : decode cX3_sideAheadOfWave 2 = .ok (.iload_n 2, 1) := by decide +kernel
theorem dX3_sideAheadOfWave_3 : decode cX3_sideAheadOfWave 3 = .ok (.invokevirtual 127, 3) := by decide +kernel
theorem dX3_sideAheadOfWave_6 : decode cX3_sideAheadOfWave 6 = .ok (.istore_n 3, 1) := by decide +kernel
theorem dX3_sideAheadOfWave_7 : decode cX3_sideAheadOfWave 7 = .ok (.iload_n 3, 1) := by decide +kernel
theorem dX3_sideAheadOfWave_8 : decode cX3_sideAheadOfWave 8 = .ok (.iconst (-1), 1) := by decide +kernel
theorem dX3_sideAheadOfWave_9 : decode cX3_sideAheadOfWave 9 = .ok (.if_icmp .eq 28, 3) := by decide +kernel
theorem dX3_sideAheadOfWave_12 : decode cX3_sideAheadOfWave 12 = .ok (.aload_n 0, 1) := by decide +kernel
theorem dX3_sideAheadOfWave_13 : decode cX3_sideAheadOfWave 13 = .ok (.getfield 31, 3) := by decide +kernel
theorem dX3_sideAheadOfWave_16 : decode cX3_sideAheadOfWave 16 = .ok (.iload_n 3, 1) := by decide +kernel
theorem dX3_sideAheadOfWave_17 : decode cX3_sideAheadOfWave 17 = .ok (.iaload, 1) := by decide +kernel
theorem dX3_sideAheadOfWave_18 : decode cX3_sideAheadOfWave 18 = .ok (.aload_n 0, 1) := by decide +kernel
theorem dX3_sideAheadOfWave_19 : decode cX3_sideAheadOfWave 19 = .ok (.getfield 56, 3) := by decide +kernel
theorem dX3_sideAheadOfWave_22 : decode cX3_sideAheadOfWave 22 = .ok (.if_icmp .ne 15, 3) := by decide +kernel
theorem dX3_sideAheadOfWave_25 : decode cX3_sideAheadOfWave 25 = .ok (.aload_n 0, 1) := by decide +kernel
theorem dX3_sideAheadOfWave_26 : decode cX3_sideAheadOfWave 26 = .ok (.iload_n 3, 1) := by decide +kernel
theorem dX3_sideAheadOfWave_27 : decode cX3_sideAheadOfWave 27 = .ok (.aload_n 0, 1) := by decide +kernel
theorem dX3_sideAheadOfWave_28 : decode cX3_sideAheadOfWave 28 = .ok (.getfield 56, 3) := by decide +kernel
theorem dX3_sideAheadOfWave_31 : decode cX3_sideAheadOfWave 31 = .ok (.invokevirtual 92, 3) := by decide +kernel
theorem dX3_sideAheadOfWave_34 : decode cX3_sideAheadOfWave 34 = .ok (.goto 4, 3) := by decide +kernel
theorem dX3_sideAheadOfWave_37 : decode cX3_sideAheadOfWave 37 = .ok (.iload_n 2, 1) := by decide +kernel
theorem dX3_sideAheadOfWave_38 : decode cX3_sideAheadOfWave 38 = .ok (.ireturn, 1) := by decide +kernel
theorem dX3_undoMove_0 : decode cX3_undoMove 0 = .ok (.aload_n 0, 1) := by decide +kernel
theorem dX3_undoMove_1 : decode cX3_undoMove 1 = .ok (.getfield 28, 3) := by decide +kernel
theorem dX3_undoMove_4 : decode cX3_undoMove 4 = .ok (.iload_n 1, 1) := by decide +kernel
theorem dX3_undoMove_5 : decode cX3_undoMove 5 = .ok (.iaload, 1) := by decide +kernel
theorem dX3_undoMove_6 : decode cX3_undoMove 6 = .ok (.ifCond .ne 27, 3) := by decide +kernel
theorem dX3_undoMove_9 : decode cX3_undoMove 9 = .ok (.aload_n 0, 1) := by decide +kernel
theorem dX3_undoMove_10 : decode cX3_undoMove 10 = .ok (.getfield 22, 3) := by decide +kernel
theorem dX3_undoMove_13 : decode cX3_undoMove 13 = .ok (.iload_n 1, 1) := by decide +kernel
theorem dX3_undoMove_14 : decode cX3_undoMove 14 = .ok (.iaload, 1) := by decide +kernel
theorem dX3_undoMove_15 : decode cX3_undoMove 15 = .ok (.ifCond .ne 18, 3) := by decide +kernel
theorem dX3_undoMove_18 : decode cX3_undoMove 18 = .ok (.aload_n 0, 1) := by decide +kernel
theorem dX3_undoMove_19 : decode cX3_undoMove 19 = .ok (.iload_n 1, 1) := by decide +kernel
theorem dX3_undoMove_20 : decode cX3_undoMove 20 = .ok (.aload_n 0, 1) := by decide +kernel
theorem dX3_undoMove_21 : decode cX3_undoMove 21 = .ok (.getfield 19, 3) := by decide +kernel
theorem dX3_undoMove_24 : decode cX3_undoMove 24 = .ok (.iload_n 1, 1) := by decide +kernel
theorem dX3_undoMove_25 : decode cX3_undoMove 25 = .ok (.iaload, 1) := by decide +kernel
theorem dX3_undoMove_26 : decode cX3_undoMove 26 = .ok (.aload_n 0, 1) := by decide +kernel
theorem dX3_undoMove_27 : decode cX3_undoMove 27 = .ok (.getfield 56, 3) := by decide +kernel
theorem dX3_undoMove_30 : decode cX3_undoMove 30 = .ok (.invokevirtual 123, 3) := by decide +kernel
theorem dX3_undoMove_33 : decode cX3_undoMove 33 = .ok (.aload_n 0, 1) := by decide +kernel
theorem dX3_undoMove_34 : decode cX3_undoMove 34 = .ok (.getfield 19, 3) := by decide +kernel
theorem dX3_undoMove_37 : decode cX3_undoMove 37 = .ok (.iload_n 1, 1) := by decide +kernel
theorem dX3_undoMove_38 : decode cX3_undoMove 38 = .ok (.aload_n 0, 1) := by decide +kernel
theorem dX3_undoMove_39 : decode cX3_undoMove 39 = .ok (.iload_n 1, 1) := by decide +kernel
theorem dX3_undoMove_40 : decode cX3_undoMove 40 = .ok (.aload_n 0, 1) := by decide +kernel
theorem dX3_undoMove_41 : decode cX3_undoMove 41 = .ok (.getfield 56, 3) := by decide +kernel
theorem dX3_undoMove_44 : decode cX3_undoMove 44 = .ok (.invokevirtual 92, 3) := by decide +kernel
theorem dX3_undoMove_47 : decode cX3_undoMove 47 = .ok (.iastore, 1) := by decide +kernel
theorem dX3_undoMove_48 : decode cX3_undoMove 48 = .ok (.aload_n 0, 1) := by decide +kernel
theorem dX3_undoMove_49 : decode cX3_undoMove 49 = .ok (.getfield 34, 3) := by decide +kernel
theorem dX3_undoMove_52 : decode cX3_undoMove 52 = .ok (.iload_n 1, 1) := by decide +kernel
theorem dX3_undoMove_53 : decode cX3_undoMove 53 = .ok (.bipush 10, 2) := by decide +kernel
theorem dX3_undoMove_55 : decode cX3_undoMove 55 = .ok (.imul, 1) := by decide +kernel
theorem dX3_undoMove_56 : decode cX3_undoMove 56 = .ok (.aload_n 0, 1) := by decide +kernel
theorem dX3_undoMove_57 : decode cX3_undoMove 57 = .ok (.getfield 56, 3) := by decide +kernel
theorem dX3_undoMove_60 : decode cX3_undoMove 60 = .ok (.iadd, 1) := by decide +kernel
theorem dX3_undoMove_61 : decode cX3_undoMove 61 = .ok (.iconst 0, 1) := by decide +kernel
theorem dX3_undoMove_62 : decode cX3_undoMove 62 = .ok (.iastore, 1) := by decide +kernel
theorem dX3_undoMove_63 : decode cX3_undoMove 63 = .ok (.aload_n 0, 1) := by decide +kernel
theorem dX3_undoMove_64 : decode cX3_undoMove 64 = .ok (.getfield 56, 3) := by decide +kernel
theorem dX3_undoMove_67 : decode cX3_undoMove 67 = .ok (.iconst 1, 1) := by decide +kernel
theorem dX3_undoMove_68 : decode cX3_undoMove 68 = .ok (.isub, 1) := by decide +kernel
theorem dX3_undoMove_69 : decode cX3_undoMove 69 = .ok (.istore_n 2, 1) := by decide +kernel
theorem dX3_undoMove_70 : decode cX3_undoMove 70 = .ok (.iload_n 2, 1) := by decide +kernel
theorem dX3_undoMove_71 : decode cX3_undoMove 71 = .ok (.ifCond .le 18, 3) := by decide +kernel
theorem dX3_undoMove_74 : decode cX3_undoMove 74 = .ok (.aload_n 0, 1) := by decide +kernel
theorem dX3_undoMove_75 : decode cX3_undoMove 75 = .ok (.iload_n 1, 1) := by decide +kernel
theorem dX3_undoMove_76 : decode cX3_undoMove 76 = .ok (.iload_n 2, 1) := by decide +kernel
theorem dX3_undoMove_77 : decode cX3_undoMove 77 = .ok (.invokevirtual 92, 3) := by decide +kernel
theorem dX3_undoMove_80 : decode cX3_undoMove 80 = .ok (.ifCond .ne 9, 3) := by decide +kernel
theorem dX3_undoMove_83 : decode cX3_undoMove 83 = .ok (.iinc 2 (-1), 3) := by decide +kernel
theorem dX3_undoMove_86 : decode cX3_undoMove 86 = .ok (.goto (-16), 3) := by decide +kernel
theorem dX3_undoMove_89 : decode cX3_undoMove 89 = .ok (.aload_n 0, 1) := by decide +kernel
theorem dX3_undoMove_90 : decode cX3_undoMove 90 = .ok (.getfield 31, 3) := by decide +kernel
theorem dX3_undoMove_93 : decode cX3_undoMove 93 = .ok (.iload_n 1, 1) := by decide +kernel
theorem dX3_undoMove_94 : decode cX3_undoMove 94 = .ok (.iload_n 2, 1) := by decide +kernel
theorem dX3_undoMove_95 : decode cX3_undoMove 95 = .ok (.iastore, 1) := by decide +kernel
theorem dX3_undoMove_96 : decode cX3_undoMove 96 = .ok (.return_, 1) := by decide +kernel
theorem dX4_init_0 : decode cX4_init 0 = .ok (.aload_n 0, 1) := by decide +kernel
theorem dX4_init_1 : decode cX4_init 1 = .ok (.invokespecial 3, 3) := by decide +kernel
theorem dX4_init_4 : decode cX4_init 4 = .ok (.aload_n 0, 1) := by decide +kernel
theorem dX4_init_5 : decode cX4_init 5 = .ok (.sipush 203, 3) := by decide +kernel
theorem dX4_init_8 : decode cX4_init 8 = .ok (.newarray .int, 2) := by decide +kernel
theorem dX4_init_10 : decode cX4_init 10 = .ok (.putfield 11, 3) := by decide +kernel
theorem dX4_init_13 : decode cX4_init 13 = .ok (.aload_n 0, 1) := by decide +kernel
theorem dX4_init_14 : decode cX4_init 14 = .ok (.sipush 203, 3) := by decide +kernel
theorem dX4_init_17 : decode cX4_init 17 = .ok (.newarray .long, 2) := by decide +kernel
theorem dX4_init_19 : decode cX4_init 19 = .ok (.putfield 15, 3) := by decide +kernel
theorem dX4_init_22 : decode cX4_init 22 = .ok (.aload_n 0, 1) := by decide +kernel
theorem dX4_init_23 : decode cX4_init 23 = .ok (.bipush 40, 2) := by decide +kernel
theorem dX4_init_25 : decode cX4_init 25 = .ok (.newarray .int, 2) := by decide +kernel
theorem dX4_init_27 : decode cX4_init 27 = .ok (.putfield 19, 3) := by decide +kernel
theorem dX4_init_30 : decode cX4_init 30 = .ok (.aload_n 0, 1) := by decide +kernel
theorem dX4_init_31 : decode cX4_init 31 = .ok (.aload_n 1, 1) := by decide +kernel
theorem dX4_init_32 : decode cX4_init 32 = .ok (.putfield 22, 3) := by decide +kernel
theorem dX4_init_35 : decode cX4_init 35 = .ok (.return_, 1) := by decide +kernel
theorem dX5_init_0 : decode cX5_init 0 = .ok (.aload_n 0, 1) := by decide +kernel
theorem dX5_init_1 : decode cX5_init 1 = .ok (.invokespecial 3, 3) := by decide +kernel
theorem dX5_init_4 : decode cX5_init 4 = .ok (.aload_n 0, 1) := by decide +kernel
theorem dX5_init_5 : decode cX5_init 5 = .ok (.sipush 251, 3) := by decide +kernel
theorem dX5_init_8 : decode cX5_init 8 = .ok (.newarray .int, 2) := by decide +kernel
theorem dX5_init_10 : decode cX5_init 10 = .ok (.putfield 9, 3) := by decide +kernel
theorem dX5_init_13 : decode cX5_init 13 = .ok (.aload_n 0, 1) := by decide +kernel
theorem dX5_init_14 : decode cX5_init 14 = .ok (.sipush 251, 3) := by decide +kernel
theorem dX5_init_17 : decode cX5_init 17 = .ok (.newarray .int, 2) := by decide +kernel
theorem dX5_init_19 : decode cX5_init 19 = .ok (.putfield 15, 3) := by decide +kernel
theorem dX5_init_22 : decode cX5_init 22 = .ok (.aload_n 0, 1) := by decide +kernel
theorem dX5_init_23 : decode cX5_init 23 = .ok (.sipush 251, 3) := by decide +kernel
theorem dX5_init_26 : decode cX5_init 26 = .ok (.newarray .int, 2) := by decide +kernel
theorem dX5_init_28 : decode cX5_init 28 = .ok (.putfield 18, 3) := by decide +kernel
theorem dX5_init_31 : decode cX5_init 31 = .ok (.return_, 1) := by decide +kernel
theorem dX5_count_0 : decode cX5_count 0 = .ok (.aload_n 0, 1) := by decide +kernel
theorem dX5_count_1 : decode cX5_count 1 = .ok (.getfield 9, 3) := by decide +kernel
theorem dX5_count_4 : decode cX5_count 4 = .ok (.iconst 0, 1) := by decide +kernel
theorem dX5_count_5 : decode cX5_count 5 = .ok (.invokestatic 21, 3) := by decide +kernel
theorem dX5_count_8 : decode cX5_count 8 = .ok (.aload_n 0, 1) := by decide +kernel
theorem dX5_count_9 : decode cX5_count 9 = .ok (.getfield 15, 3) := by decide +kernel
theorem dX5_count_12 : decode cX5_count 12 = .ok (.iconst 0, 1) := by decide +kernel
theorem dX5_count_13 : decode cX5_count 13 = .ok (.invokestatic 21, 3) := by decide +kernel
theorem dX5_count_16 : decode cX5_count 16 = .ok (.aload_n 0, 1) := by decide +kernel
theorem dX5_count_17 : decode cX5_count 17 = .ok (.getfield 18, 3) := by decide +kernel
theorem dX5_count_20 : decode cX5_count 20 = .ok (.iconst 0, 1) := by decide +kernel
theorem dX5_count_21 : decode cX5_count 21 = .ok (.invokestatic 21, 3) := by decide +kernel
theorem dX5_count_24 : decode cX5_count 24 = .ok (.iconst 0, 1) := by decide +kernel
theorem dX5_count_25 : decode cX5_count 25 = .ok (.istore_n 2, 1) := by decide +kernel
theorem dX5_count_26 : decode cX5_count 26 = .ok (.iload_n 2, 1) := by decide +kernel
theorem dX5_count_27 : decode cX5_count 27 = .ok (.aload_n 1, 1) := by decide +kernel
theorem dX5_count_28 : decode cX5_count 28 = .ok (.getfield 27, 3) := by decide +kernel
theorem dX5_count_31 : decode cX5_count 31 = .ok (.if_icmp .ge 77, 3) := by decide +kernel
theorem dX5_count_34 : decode cX5_count 34 = .ok (.aload_n 1, 1) := by decide +kernel
theorem dX5_count_35 : decode cX5_count 35 = .ok (.getfield 33, 3) := by decide +kernel
theorem dX5_count_38 : decode cX5_count 38 = .ok (.iload_n 2, 1) := by decide +kernel
theorem dX5_count_39 : decode cX5_count 39 = .ok (.iaload, 1) := by decide +kernel
theorem dX5_count_40 : decode cX5_count 40 = .ok (.ifCond .ne 10, 3) := by decide +kernel
theorem dX5_count_43 : decode cX5_count 43 = .ok (.aload_n 0, 1) := by decide +kernel
theorem dX5_count_44 : decode cX5_count 44 = .ok (.getfield 9, 3) := by decide +kernel
theorem dX5_count_47 : decode cX5_count 47 = .ok (.goto 7, 3) := by decide +kernel
theorem dX5_count_50 : decode cX5_count 50 = .ok (.aload_n 0, 1) := by decide +kernel
theorem dX5_count_51 : decode cX5_count 51 = .ok (.getfield 15, 3) := by decide +kernel
theorem dX5_count_54 : decode cX5_count 54 = .ok (.astore_n 3, 1) := by decide +kernel
theorem dX5_count_55 : decode cX5_count 55 = .ok (.aload_n 1, 1) := by decide +kernel
theorem dX5_count_56 : decode cX5_count 56 = .ok (.iload_n 2, 1) := by decide +kernel
theorem dX5_count_57 : decode cX5_count 57 = .ok (.invokevirtual 36, 3) := by decide +kernel
theorem dX5_count_60 : decode cX5_count 60 = .ok (.istore 4, 2) := by decide +kernel
theorem dX5_count_62 : decode cX5_count 62 = .ok (.aload_n 3, 1) := by decide +kernel
theorem dX5_count_63 : decode cX5_count 63 = .ok (.aload_n 1, 1) := by decide +kernel
theorem dX5_count_64 : decode cX5_count 64 = .ok (.getfield 40, 3) := by decide +kernel
theorem dX5_count_67 : decode cX5_count 67 = .ok (.iload_n 2, 1) := by decide +kernel
theorem dX5_count_68 : decode cX5_count 68 = .ok (.iaload, 1) := by decide +kernel
theorem dX5_count_69 : decode cX5_count 69 = .ok (.invokestatic 43, 3) := by decide +kernel
theorem dX5_count_72 : decode cX5_count 72 = .ok (.iload 4, 2) := by decide +kernel
theorem dX5_count_74 : decode cX5_count 74 = .ok (.aload_n 1, 1) := by decide +kernel
theorem dX5_count_75 : decode cX5_count 75 = .ok (.getfield 40, 3) := by decide +kernel
theorem dX5_count_78 : decode cX5_count 78 = .ok (.iload_n 2, 1) := by decide +kernel
theorem dX5_count_79 : decode cX5_count 79 = .ok (.iaload, 1) := by decide +kernel
theorem dX5_count_80 : decode cX5_count 80 = .ok (.if_icmp .eq 9, 3) := by decide +kernel
theorem dX5_count_83 : decode cX5_count 83 = .ok (.aload_n 3, 1) := by decide +kernel
theorem dX5_count_84 : decode cX5_count 84 = .ok (.iload 4, 2) := by decide +kernel
theorem dX5_count_86 : decode cX5_count 86 = .ok (.invokestatic 43, 3) := by decide +kernel
theorem dX5_count_89 : decode cX5_count 89 = .ok (.aload_n 0, 1) := by decide +kernel
theorem dX5_count_90 : decode cX5_count 90 = .ok (.getfield 18, 3) := by decide +kernel
theorem dX5_count_93 : decode cX5_count 93 = .ok (.aload_n 1, 1) := by decide +kernel
theorem dX5_count_94 : decode cX5_count 94 = .ok (.getfield 46, 3) := by decide +kernel
theorem dX5_count_97 : decode cX5_count 97 = .ok (.iload_n 2, 1) := by decide +kernel
theorem dX5_count_98 : decode cX5_count 98 = .ok (.iaload, 1) := by decide +kernel
theorem dX5_count_99 : decode cX5_count 99 = .ok (.invokestatic 43, 3) := by decide +kernel
theorem dX5_count_102 : decode cX5_count 102 = .ok (.iinc 2 1, 3) := by decide +kernel
theorem dX5_count_105 : decode cX5_count 105 = .ok (.goto (-79), 3) := by decide +kernel
theorem dX5_count_108 : decode cX5_count 108 = .ok (.return_, 1) := by decide +kernel
theorem dX5_countPlan_0 : decode cX5_countPlan 0 = .ok (.aload_n 0, 1) := by decide +kernel
theorem dX5_countPlan_1 : decode cX5_countPlan 1 = .ok (.getfield 18, 3) := by decide +kernel
theorem dX5_countPlan_4 : decode cX5_countPlan 4 = .ok (.iload_n 1, 1) := by decide +kernel
theorem dX5_countPlan_5 : decode cX5_countPlan 5 = .ok (.invokestatic 43, 3) := by decide +kernel
theorem dX5_countPlan_8 : decode cX5_countPlan 8 = .ok (.return_, 1) := by decide +kernel
theorem dX5_addOne_0 : decode cX5_addOne 0 = .ok (.iload_n 1, 1) := by decide +kernel
theorem dX5_addOne_1 : decode cX5_addOne 1 = .ok (.ifCond .lt 16, 3) := by decide +kernel
theorem dX5_addOne_4 : decode cX5_addOne 4 = .ok (.iload_n 1, 1) := by decide +kernel
theorem dX5_addOne_5 : decode cX5_addOne 5 = .ok (.aload_n 0, 1) := by decide +kernel
theorem dX5_addOne_6 : decode cX5_addOne 6 = .ok (.arraylength, 1) := by decide +kernel
theorem dX5_addOne_7 : decode cX5_addOne 7 = .ok (.if_icmp .ge 10, 3) := by decide +kernel
theorem dX5_addOne_10 : decode cX5_addOne 10 = .ok (.aload_n 0, 1) := by decide +kernel
theorem dX5_addOne_11 : decode cX5_addOne 11 = .ok (.iload_n 1, 1) := by decide +kernel
theorem dX5_addOne_12 : decode cX5_addOne 12 = .ok (.dup2, 1) := by decide +kernel
theorem dX5_addOne_13 : decode cX5_addOne 13 = .ok (.iaload, 1) := by decide +kernel
theorem dX5_addOne_14 : decode cX5_addOne 14 = .ok (.iconst 1, 1) := by decide +kernel
theorem dX5_addOne_15 : decode cX5_addOne 15 = .ok (.iadd, 1) := by decide +kernel
theorem dX5_addOne_16 : decode cX5_addOne 16 = .ok (.iastore, 1) := by decide +kernel
theorem dX5_addOne_17 : decode cX5_addOne 17 = .ok (.return_, 1) := by decide +kernel
theorem dX5_isClash_0 : decode cX5_isClash 0 = .ok (.iload_n 1, 1) := by decide +kernel
theorem dX5_isClash_1 : decode cX5_isClash 1 = .ok (.iconst 1, 1) := by decide +kernel
theorem dX5_isClash_2 : decode cX5_isClash 2 = .ok (.if_icmp .lt 32, 3) := by decide +kernel
theorem dX5_isClash_5 : decode cX5_isClash 5 = .ok (.iload_n 1, 1) := by decide +kernel
theorem dX5_isClash_6 : decode cX5_isClash 6 = .ok (.sipush 250, 3) := by decide +kernel
theorem dX5_isClash_9 : decode cX5_isClash 9 = .ok (.if_icmp .gt 25, 3) := by decide +kernel
theorem dX5_isClash_12 : decode cX5_isClash 12 = .ok (.aload_n 0, 1) := by decide +kernel
theorem dX5_isClash_13 : decode cX5_isClash 13 = .ok (.getfield 9, 3) := by decide +kernel
theorem dX5_isClash_16 : decode cX5_isClash 16 = .ok (.iload_n 1, 1) := by decide +kernel
theorem dX5_isClash_17 : decode cX5_isClash 17 = .ok (.iaload, 1) := by decide +kernel
theorem dX5_isClash_18 : decode cX5_isClash 18 = .ok (.ifCond .le 16, 3) := by decide +kernel
theorem dX5_isClash_21 : decode cX5_isClash 21 = .ok (.aload_n 0, 1) := by decide +kernel
theorem dX5_isClash_22 : decode cX5_isClash 22 = .ok (.getfield 15, 3) := by decide +kernel
theorem dX5_isClash_25 : decode cX5_isClash 25 = .ok (.iload_n 1, 1) := by decide +kernel
theorem dX5_isClash_26 : decode cX5_isClash 26 = .ok (.iaload, 1) := by decide +kernel
theorem dX5_isClash_27 : decode cX5_isClash 27 = .ok (.ifCond .le 7, 3) := by decide +kernel
theorem dX5_isClash_30 : decode cX5_isClash 30 = .ok (.iconst 1, 1) := by decide +kernel
theorem dX5_isClash_31 : decode cX5_isClash 31 = .ok (.goto 4, 3) := by decide +kernel
theorem dX5_isClash_34 : decode cX5_isClash 34 = .ok (.iconst 0, 1) := by decide +kernel
theorem dX5_isClash_35 : decode cX5_isClash 35 = .ok (.ireturn, 1) := by decide +kernel
theorem dX5_clashes_0 : decode cX5_clashes 0 = .ok (.iconst 0, 1) := by decide +kernel
theorem dX5_clashes_1 : decode cX5_clashes 1 = .ok (.istore_n 1, 1) := by decide +kernel
theorem dX5_clashes_2 : decode cX5_clashes 2 = .ok (.iconst 1, 1) := by decide +kernel
theorem dX5_clashes_3 : decode cX5_clashes 3 = .ok (.istore_n 2, 1) := by decide +kernel
theorem dX5_clashes_4 : decode cX5_clashes 4 = .ok (.iload_n 2, 1) := by decide +kernel
theorem dX5_clashes_5 : decode cX5_clashes 5 = .ok (.sipush 250, 3) := by decide +kernel
theorem dX5_clashes_8 : decode cX5_clashes 8 = .ok (.if_icmp .gt 25, 3) := by decide +kernel
theorem dX5_clashes_11 : decode cX5_clashes 11 = .ok (.iload_n 1, 1) := by decide +kernel
theorem dX5_clashes_12 : decode cX5_clashes 12 = .ok (.aload_n 0, 1) := by decide +kernel
theorem dX5_clashes_13 : decode cX5_clashes 13 = .ok (.iload_n 2, 1) := by decide +kernel
theorem dX5_clashes_14 : decode cX5_clashes 14 = .ok (.invokevirtual 49, 3) := by decide +kernel
theorem dX5_clashes_17 : decode cX5_clashes 17 = .ok (.ifCond .eq 7, 3) := by decide +kernel
theorem dX5_clashes_20 : decode cX5_clashes 20 = .ok (.iconst 1, 1) := by decide +kernel
theorem dX5_clashes_21 : decode cX5_clashes 21 = .ok (.goto 4, 3) := by decide +kernel
theorem dX5_clashes_24 : decode cX5_clashes 24 = .ok (.iconst 0, 1) := by decide +kernel
theorem dX5_clashes_25 : decode cX5_clashes 25 = .ok (.iadd, 1) := by decide +kernel
theorem dX5_clashes_26 : decode cX5_clashes 26 = .ok (.istore_n 1, 1) := by decide +kernel
theorem dX5_clashes_27 : decode cX5_clashes 27 = .ok (.iinc 2 1, 3) := by decide +kernel
theorem dX5_clashes_30 : decode cX5_clashes 30 = .ok (.goto (-26), 3) := by decide +kernel
theorem dX5_clashes_33 : decode cX5_clashes 33 = .ok (.iload_n 1, 1) := by decide +kernel
theorem dX5_clashes_34 : decode cX5_clashes 34 = .ok (.ireturn, 1) := by decide +kernel
theorem dX5_clashAt_0 : decode cX5_clashAt 0 = .ok (.iconst 0, 1) := by decide +kernel
theorem dX5_clashAt_1 : decode cX5_clashAt 1 = .ok (.istore_n 2, 1) := by decide +kernel
theorem dX5_clashAt_2 : decode cX5_clashAt 2 = .ok (.iconst 1, 1) := by decide +kernel
theorem dX5_clashAt_3 : decode cX5_clashAt 3 = .ok (.istore_n 3, 1) := by decide +kernel
theorem dX5_clashAt_4 : decode cX5_clashAt 4 = .ok (.iload_n 3, 1) := by decide +kernel
theorem dX5_clashAt_5 : decode cX5_clashAt 5 = .ok (.sipush 250, 3) := by decide +kernel
theorem dX5_clashAt_8 : decode cX5_clashAt 8 = .ok (.if_icmp .gt 27, 3) := by decide +kernel
theorem dX5_clashAt_11 : decode cX5_clashAt 11 = .ok (.aload_n 0, 1) := by decide +kernel
theorem dX5_clashAt_12 : decode cX5_clashAt 12 = .ok (.iload_n 3, 1) := by decide +kernel
theorem dX5_clashAt_13 : decode cX5_clashAt 13 = .ok (.invokevirtual 49, 3) := by decide +kernel
theorem dX5_clashAt_16 : decode cX5_clashAt 16 = .ok (.ifCond .eq 13, 3) := by decide +kernel
theorem dX5_clashAt_19 : decode cX5_clashAt 19 = .ok (.iload_n 2, 1) := by decide +kernel
theorem dX5_clashAt_20 : decode cX5_clashAt 20 = .ok (.iload_n 1, 1) := by decide +kernel
theorem dX5_clashAt_21 : decode cX5_clashAt 21 = .ok (.if_icmp .ne 5, 3) := by decide +kernel
theorem dX5_clashAt_24 : decode cX5_clashAt 24 = .ok (.iload_n 3, 1) := by decide +kernel
theorem dX5_clashAt_25 : decode cX5_clashAt 25 = .ok (.ireturn, 1) := by decide +kernel
theorem dX5_clashAt_26 : decode cX5_clashAt 26 = .ok (.iinc 2 1, 3) := by decide +kernel
theorem dX5_clashAt_29 : decode cX5_clashAt 29 = .ok (.iinc 3 1, 3) := by decide +kernel
theorem dX5_clashAt_32 : decode cX5_clashAt 32 = .ok (.goto (-28), 3) := by decide +kernel
theorem dX5_clashAt_35 : decode cX5_clashAt 35 = .ok (.iconst 0, 1) := by decide +kernel
theorem dX5_clashAt_36 : decode cX5_clashAt 36 = .ok (.ireturn, 1) := by decide +kernel
theorem dX5_smallestTwice_0 : decode cX5_smallestTwice 0 = .ok (.iconst 1, 1) := by decide +kernel
theorem dX5_smallestTwice_1 : decode cX5_smallestTwice 1 = .ok (.istore_n 2, 1) := by decide +kernel
theorem dX5_smallestTwice_2 : decode cX5_smallestTwice 2 = .ok (.iload_n 2, 1) := by decide +kernel
theorem dX5_smallestTwice_3 : decode cX5_smallestTwice 3 = .ok (.sipush 250, 3) := by decide +kernel
theorem dX5_smallestTwice_6 : decode cX5_smallestTwice 6 = .ok (.if_icmp .gt 43, 3) := by decide +kernel
theorem dX5_smallestTwice_9 : decode cX5_smallestTwice 9 = .ok (.aload_n 0, 1) := by decide +kernel
theorem dX5_smallestTwice_10 : decode cX5_smallestTwice 10 = .ok (.getfield 9, 3) := by decide +kernel
theorem dX5_smallestTwice_13 : decode cX5_smallestTwice 13 = .ok (.iload_n 2, 1) := by decide +kernel
theorem dX5_smallestTwice_14 : decode cX5_smallestTwice 14 = .ok (.iaload, 1) := by decide +kernel
theorem dX5_smallestTwice_15 : decode cX5_smallestTwice 15 = .ok (.iconst 1, 1) := by decide +kernel
theorem dX5_smallestTwice_16 : decode cX5_smallestTwice 16 = .ok (.if_icmp .gt 25, 3) := by decide +kernel
theorem dX5_smallestTwice_19 : decode cX5_smallestTwice 19 = .ok (.aload_n 0, 1) := by decide +kernel
theorem dX5_smallestTwice_20 : decode cX5_smallestTwice 20 = .ok (.getfield 15, 3) := by decide +kernel
theorem dX5_smallestTwice_23 : decode cX5_smallestTwice 23 = .ok (.iload_n 2, 1) := by decide +kernel
theorem dX5_smallestTwice_24 : decode cX5_smallestTwice 24 = .ok (.iaload, 1) := by decide +kernel
theorem dX5_smallestTwice_25 : decode cX5_smallestTwice 25 = .ok (.iconst 1, 1) := by decide +kernel
theorem dX5_smallestTwice_26 : decode cX5_smallestTwice 26 = .ok (.if_icmp .gt 15, 3) := by decide +kernel
theorem dX5_smallestTwice_29 : decode cX5_smallestTwice 29 = .ok (.iload_n 1, 1) := by decide +kernel
theorem dX5_smallestTwice_30 : decode cX5_smallestTwice 30 = .ok (.ifCond .eq 13, 3) := by decide +kernel
theorem dX5_smallestTwice_33 : decode cX5_smallestTwice 33 = .ok (.aload_n 0, 1) := by decide +kernel
theorem dX5_smallestTwice_34 : decode cX5_smallestTwice 34 = .ok (.iload_n 2, 1) := by decide +kernel
theorem dX5_smallestTwice_35 : decode cX5_smallestTwice 35 = .ok (.invokevirtual 49, 3) := by decide +kernel
theorem dX5_smallestTwice_38 : decode cX5_smallestTwice 38 = .ok (.ifCond .eq 5, 3) := by decide +kernel
theorem dX5_smallestTwice_41 : decode cX5_smallestTwice 41 = .ok (.iload_n 2, 1) := by decide +kernel
theorem dX5_smallestTwice_42 : decode cX5_smallestTwice 42 = .ok (.ireturn, 1) := by decide +kernel
theorem dX5_smallestTwice_43 : decode cX5_smallestTwice 43 = .ok (.iinc 2 1, 3) := by decide +kernel
theorem dX5_smallestTwice_46 : decode cX5_smallestTwice 46 = .ok (.goto (-44), 3) := by decide +kernel
theorem dX5_smallestTwice_49 : decode cX5_smallestTwice 49 = .ok (.iconst 0, 1) := by decide +kernel
theorem dX5_smallestTwice_50 : decode cX5_smallestTwice 50 = .ok (.ireturn, 1) := by decide +kernel
theorem dX5_smallestFree_0 : decode cX5_smallestFree 0 = .ok (.iconst 1, 1) := by decide +kernel
theorem dX5_smallestFree_1 : decode cX5_smallestFree 1 = .ok (.iload_n 1, 1) := by decide +kernel
theorem dX5_smallestFree_2 : decode cX5_smallestFree 2 = .ok (.invokestatic 53, 3) := by decide +kernel
theorem dX5_smallestFree_5 : decode cX5_smallestFree 5 = .ok (.istore_n 3, 1) := by decide +kernel
theorem dX5_smallestFree_6 : decode cX5_smallestFree 6 = .ok (.iload_n 3, 1) := by decide +kernel
theorem dX5_smallestFree_7 : decode cX5_smallestFree 7 = .ok (.iload_n 2, 1) := by decide +kernel
theorem dX5_smallestFree_8 : decode cX5_smallestFree 8 = .ok (.if_icmp .gt 45, 3) := by decide +kernel
theorem dX5_smallestFree_11 : decode cX5_smallestFree 11 = .ok (.iload_n 3, 1) := by decide +kernel
theorem dX5_smallestFree_12 : decode cX5_smallestFree 12 = .ok (.sipush 250, 3) := by decide +kernel
theorem dX5_smallestFree_15 : decode cX5_smallestFree 15 = .ok (.if_icmp .gt 38, 3) := by decide +kernel
theorem dX5_smallestFree_18 : decode cX5_smallestFree 18 = .ok (.aload_n 0, 1) := by decide +kernel
theorem dX5_smallestFree_19 : decode cX5_smallestFree 19 = .ok (.getfield 9, 3) := by decide +kernel
theorem dX5_smallestFree_22 : decode cX5_smallestFree 22 = .ok (.iload_n 3, 1) := by decide +kernel
theorem dX5_smallestFree_23 : decode cX5_smallestFree 23 = .ok (.iaload, 1) := by decide +kernel
theorem dX5_smallestFree_24 : decode cX5_smallestFree 24 = .ok (.ifCond .ne 23, 3) := by decide +kernel
theorem dX5_smallestFree_27 : decode cX5_smallestFree 27 = .ok (.aload_n 0, 1) := by decide +kernel
theorem dX5_smallestFree_28 : decode cX5_smallestFree 28 = .ok (.getfield 15, 3) := by decide +kernel
theorem dX5_smallestFree_31 : decode cX5_smallestFree 31 = .ok (.iload_n 3, 1) := by decide +kernel
theorem dX5_smallestFree_32 : decode cX5_smallestFree 32 = .ok (.iaload, 1) := by decide +kernel
theorem dX5_smallestFree_33 : decode cX5_smallestFree 33 = .ok (.ifCond .ne 14, 3) := by decide +kernel
theorem dX5_smallestFree_36 : decode cX5_smallestFree 36 = .ok (.aload_n 0, 1) := by decide +kernel
theorem dX5_smallestFree_37 : decode cX5_smallestFree 37 = .ok (.getfield 18, 3) := by decide +kernel
theorem dX5_smallestFree_40 : decode cX5_smallestFree 40 = .ok (.iload_n 3, 1) := by decide +kernel
theorem dX5_smallestFree_41 : decode cX5_smallestFree 41 = .ok (.iaload, 1) := by decide +kernel
theorem dX5_smallestFree_42 : decode cX5_smallestFree 42 = .ok (.ifCond .ne 5, 3) := by decide +kernel
theorem dX5_smallestFree_45 : decode cX5_smallestFree 45 = .ok (.iload_n 3, 1) := by decide +kernel
theorem dX5_smallestFree_46 : decode cX5_smallestFree 46 = .ok (.ireturn, 1) := by decide +kernel
theorem dX5_smallestFree_47 : decode cX5_smallestFree 47 = .ok (.iinc 3 1, 3) := by decide +kernel
theorem dX5_smallestFree_50 : decode cX5_smallestFree 50 = .ok (.goto (-44), 3) := by decide +kernel
theorem dX5_smallestFree_53 : decode cX5_smallestFree 53 = .ok (.iconst 0, 1) := by decide +kernel
theorem dX5_smallestFree_54 : decode cX5_smallestFree 54 = .ok (.ireturn, 1) := by decide +kernel
theorem dX6_init_0 : decode cX6_init 0 = .ok (.aload_n 0, 1) := by decide +kernel
theorem dX6_init_1 : decode cX6_init 1 = .ok (.invokespecial 3, 3) := by decide +kernel
theorem dX6_init_4 : decode cX6_init 4 = .ok (.aload_n 0, 1) := by decide +kernel
theorem dX6_init_5 : decode cX6_init 5 = .ok (.sipush 900, 3) := by decide +kernel
theorem dX6_init_8 : decode cX6_init 8 = .ok (.newarray .byte, 2) := by decide +kernel
theorem dX6_init_10 : decode cX6_init 10 = .ok (.putfield 9, 3) := by decide +kernel
theorem dX6_init_13 : decode cX6_init 13 = .ok (.return_, 1) := by decide +kernel
theorem dX6_append_0 : decode cX6_append 0 = .ok (.bipush 24, 2) := by decide +kernel
theorem dX6_append_2 : decode cX6_append 2 = .ok (.istore_n 2, 1) := by decide +kernel
theorem dX6_append_3 : decode cX6_append 3 = .ok (.iload_n 2, 1) := by decide +kernel
theorem dX6_append_4 : decode cX6_append 4 = .ok (.ifCond .lt 42, 3) := by decide +kernel
theorem dX6_append_7 : decode cX6_append 7 = .ok (.aload_n 0, 1) := by decide +kernel
theorem dX6_append_8 : decode cX6_append 8 = .ok (.getfield 15, 3) := by decide +kernel
theorem dX6_append_11 : decode cX6_append 11 = .ok (.sipush 900, 3) := by decide +kernel
theorem dX6_append_14 : decode cX6_append 14 = .ok (.if_icmp .ge 32, 3) := by decide +kernel
theorem dX6_append_17 : decode cX6_append 17 = .ok (.aload_n 0, 1) := by decide +kernel
theorem dX6_append_18 : decode cX6_append 18 = .ok (.getfield 9, 3) := by decide +kernel
theorem dX6_append_21 : decode cX6_append 21 = .ok (.aload_n 0, 1) := by decide +kernel
theorem dX6_append_22 : decode cX6_append 22 = .ok (.getfield 15, 3) := by decide +kernel
theorem dX6_append_25 : decode cX6_append 25 = .ok (.iload_n 1, 1) := by decide +kernel
theorem dX6_append_26 : decode cX6_append 26 = .ok (.iload_n 2, 1) := by decide +kernel
theorem dX6_append_27 : decode cX6_append 27 = .ok (.iushr, 1) := by decide +kernel
theorem dX6_append_28 : decode cX6_append 28 = .ok (.i2b, 1) := by decide +kernel
theorem dX6_append_29 : decode cX6_append 29 = .ok (.bastore, 1) := by decide +kernel
theorem dX6_append_30 : decode cX6_append 30 = .ok (.aload_n 0, 1) := by decide +kernel
theorem dX6_append_31 : decode cX6_append 31 = .ok (.dup, 1) := by decide +kernel
theorem dX6_append_32 : decode cX6_append 32 = .ok (.getfield 15, 3) := by decide +kernel
theorem dX6_append_35 : decode cX6_append 35 = .ok (.iconst 1, 1) := by decide +kernel
theorem dX6_append_36 : decode cX6_append 36 = .ok (.iadd, 1) := by decide +kernel
theorem dX6_append_37 : decode cX6_append 37 = .ok (.putfield 15, 3) := by decide +kernel
theorem dX6_append_40 : decode cX6_append 40 = .ok (.iinc 2 (-8), 3) := by decide +kernel
theorem dX6_append_43 : decode cX6_append 43 = .ok (.goto (-40), 3) := by decide +kernel
theorem dX6_append_46 : decode cX6_append 46 = .ok (.return_, 1) := by decide +kernel
theorem dX6_begin_0 : decode cX6_begin 0 = .ok (.aload_n 0, 1) := by decide +kernel
theorem dX6_begin_1 : decode cX6_begin 1 = .ok (.iload_n 1, 1) := by decide +kernel
theorem dX6_begin_2 : decode cX6_begin 2 = .ok (.sipush 900, 3) := by decide +kernel
theorem dX6_begin_5 : decode cX6_begin 5 = .ok (.invokestatic 19, 3) := by decide +kernel
theorem dX6_begin_8 : decode cX6_begin 8 = .ok (.putfield 25, 3) := by decide +kernel
theorem dX6_begin_11 : decode cX6_begin 11 = .ok (.aload_n 0, 1) := by decide +kernel
theorem dX6_begin_12 : decode cX6_begin 12 = .ok (.iconst 0, 1) := by decide +kernel
theorem dX6_begin_13 : decode cX6_begin 13 = .ok (.putfield 15, 3) := by decide +kernel
theorem dX6_begin_16 : decode cX6_begin 16 = .ok (.aload_n 0, 1) := by decide +kernel
theorem dX6_begin_17 : decode cX6_begin 17 = .ok (.iconst 0, 1) := by decide +kernel
theorem dX6_begin_18 : decode cX6_begin 18 = .ok (.putfield 28, 3) := by decide +kernel
theorem dX6_begin_21 : decode cX6_begin 21 = .ok (.aload_n 0, 1) := by decide +kernel
theorem dX6_begin_22 : decode cX6_begin 22 = .ok (.invokevirtual 31, 3) := by decide +kernel
theorem dX6_begin_25 : decode cX6_begin 25 = .ok (.return_, 1) := by decide +kernel
theorem dX6_advance_0 : decode cX6_advance 0 = .ok (.aload_n 0, 1) := by decide +kernel
theorem dX6_advance_1 : decode cX6_advance 1 = .ok (.getfield 28, 3) := by decide +kernel
theorem dX6_advance_4 : decode cX6_advance 4 = .ok (.aload_n 0, 1) := by decide +kernel
theorem dX6_advance_5 : decode cX6_advance 5 = .ok (.getfield 25, 3) := by decide +kernel
theorem dX6_advance_8 : decode cX6_advance 8 = .ok (.if_icmp .ge 44, 3) := by decide +kernel
theorem dX6_advance_11 : decode cX6_advance 11 = .ok (.aload_n 0, 1) := by decide +kernel
theorem dX6_advance_12 : decode cX6_advance 12 = .ok (.getfield 9, 3) := by decide +kernel
theorem dX6_advance_15 : decode cX6_advance 15 = .ok (.aload_n 0, 1) := by decide +kernel
theorem dX6_advance_16 : decode cX6_advance 16 = .ok (.getfield 28, 3) := by decide +kernel
theorem dX6_advance_19 : decode cX6_advance 19 = .ok (.baload, 1) := by decide +kernel
theorem dX6_advance_20 : decode cX6_advance 20 = .ok (.bipush 32, 2) := by decide +kernel
theorem dX6_advance_22 : decode cX6_advance 22 = .ok (.if_icmp .eq 17, 3) := by decide +kernel
theorem dX6_advance_25 : decode cX6_advance 25 = .ok (.aload_n 0, 1) := by decide +kernel
theorem dX6_advance_26 : decode cX6_advance 26 = .ok (.getfield 9, 3) := by decide +kernel
theorem dX6_advance_29 : decode cX6_advance 29 = .ok (.aload_n 0, 1) := by decide +kernel
theorem dX6_advance_30 : decode cX6_advance 30 = .ok (.getfield 28, 3) := by decide +kernel
theorem dX6_advance_33 : decode cX6_advance 33 = .ok (.baload, 1) := by decide +kernel
theorem dX6_advance_34 : decode cX6_advance 34 = .ok (.bipush 10, 2) := by decide +kernel
theorem dX6_advance_36 : decode cX6_advance 36 = .ok (.if_icmp .ne 16, 3) := by decide +kernel
theorem dX6_advance_39 : decode cX6_advance 39 = .ok (.aload_n 0, 1) := by decide +kernel
theorem dX6_advance_40 : decode cX6_advance 40 = .ok (.dup, 1) := by decide +kernel
theorem dX6_advance_41 : decode cX6_advance 41 = .ok (.getfield 28, 3) := by decide +kernel
theorem dX6_advance_44 : decode cX6_advance 44 = .ok (.iconst 1, 1) := by decide +kernel
theorem dX6_advance_45 : decode cX6_advance 45 = .ok (.iadd, 1) := by decide +kernel
theorem dX6_advance_46 : decode cX6_advance 46 = .ok (.putfield 28, 3) := by decide +kernel
theorem dX6_advance_49 : decode cX6_advance 49 = .ok (.goto (-49), 3) := by decide +kernel
theorem dX6_advance_52 : decode cX6_advance 52 = .ok (.aload_n 0, 1) := by decide +kernel
theorem dX6_advance_53 : decode cX6_advance 53 = .ok (.aload_n 0, 1) := by decide +kernel
theorem dX6_advance_54 : decode cX6_advance 54 = .ok (.getfield 28, 3) := by decide +kernel
theorem dX6_advance_57 : decode cX6_advance 57 = .ok (.putfield 34, 3) := by decide +kernel
theorem dX6_advance_60 : decode cX6_advance 60 = .ok (.aload_n 0, 1) := by decide +kernel
theorem dX6_advance_61 : decode cX6_advance 61 = .ok (.iconst 0, 1) := by decide +kernel
theorem dX6_advance_62 : decode cX6_advance 62 = .ok (.putfield 37, 3) := by decide +kernel
theorem dX6_advance_65 : decode cX6_advance 65 = .ok (.aload_n 0, 1) := by decide +kernel
theorem dX6_advance_66 : decode cX6_advance 66 = .ok (.getfield 28, 3) := by decide +kernel
theorem dX6_advance_69 : decode cX6_advance 69 = .ok (.aload_n 0, 1) := by decide +kernel
theorem dX6_advance_70 : decode cX6_advance 70 = .ok (.getfield 25, 3) := by decide +kernel
theorem dX6_advance_73 : decode cX6_advance 73 = .ok (.if_icmp .lt 11, 3) := by decide +kernel
theorem dX6_advance_76 : decode cX6_advance 76 = .ok (.aload_n 0, 1) := by decide +kernel
theorem dX6_advance_77 : decode cX6_advance 77 = .ok (.iconst 0, 1) := by decide +kernel
theorem dX6_advance_78 : decode cX6_advance 78 = .ok (.putfield 40, 3) := by decide +kernel
theorem dX6_advance_81 : decode cX6_advance 81 = .ok (.goto 166, 3) := by decide +kernel
theorem dX6_advance_84 : decode cX6_advance 84 = .ok (.aload_n 0, 1) := by decide +kernel
theorem dX6_advance_85 : decode cX6_advance 85 = .ok (.getfield 9, 3) := by decide +kernel
theorem dX6_advance_88 : decode cX6_advance 88 = .ok (.aload_n 0, 1) := by decide +kernel
theorem dX6_advance_89 : decode cX6_advance 89 = .ok (.getfield 28, 3) := by decide +kernel
theorem dX6_advance_92 : decode cX6_advance 92 = .ok (.baload, 1) := by decide +kernel
theorem dX6_advance_93 : decode cX6_advance 93 = .ok (.invokestatic 43, 3) := by decide +kernel
theorem dX6_advance_96 : decode cX6_advance 96 = .ok (.ifCond .eq 47, 3) := by decide +kernel
theorem dX6_advance_99 : decode cX6_advance 99 = .ok (.aload_n 0, 1) := by decide +kernel
theorem dX6_advance_100 : decode cX6_advance 100 = .ok (.iconst 1, 1) := by decide +kernel
theorem dX6_advance_101 : decode cX6_advance 101 = .ok (.putfield 40, 3) := by decide +kernel
theorem dX6_advance_104 : decode cX6_advance 104 = .ok (.aload_n 0, 1) := by decide +kernel
theorem dX6_advance_105 : decode cX6_advance 105 = .ok (.getfield 28, 3) := by decide +kernel
theorem dX6_advance_108 : decode cX6_advance 108 = .ok (.aload_n 0, 1) := by decide +kernel
theorem dX6_advance_109 : decode cX6_advance 109 = .ok (.getfield 25, 3) := by decide +kernel
theorem dX6_advance_112 : decode cX6_advance 112 = .ok (.if_icmp .ge 135, 3) := by decide +kernel
theorem dX6_advance_115 : decode cX6_advance 115 = .ok (.aload_n 0, 1) := by decide +kernel
theorem dX6_advance_116 : decode cX6_advance 116 = .ok (.getfield 9, 3) := by decide +kernel
theorem dX6_advance_119 : decode cX6_advance 119 = .ok (.aload_n 0, 1) := by decide +kernel
theorem dX6_advance_120 : decode cX6_advance 120 = .ok (.getfield 28, 3) := by decide +kernel
theorem dX6_advance_123 : decode cX6_advance 123 = .ok (.baload, 1) := by decide +kernel
theorem dX6_advance_124 : decode cX6_advance 124 = .ok (.invokestatic 43, 3) := by decide +kernel
theorem dX6_advance_127 : decode cX6_advance 127 = .ok (.ifCond .eq 120, 3) := by decide +kernel
theorem dX6_advance_130 : decode cX6_advance 130 = .ok (.aload_n 0, 1) := by decide +kernel
theorem dX6_advance_131 : decode cX6_advance 131 = .ok (.dup, 1) := by decide +kernel
theorem dX6_advance_132 : decode cX6_advance 132 = .ok (.getfield 28, 3) := by decide +kernel
theorem dX6_advance_135 : decode cX6_advance 135 = .ok (.iconst 1, 1) := by decide +kernel
theorem dX6_advance_136 : decode cX6_advance 136 = .ok (.iadd, 1) := by decide +kernel
theorem dX6_advance_137 : decode cX6_advance 137 = .ok (.putfield 28, 3) := by decide +kernel
theorem dX6_advance_140 : decode cX6_advance 140 = .ok (.goto (-36), 3) := by decide +kernel
theorem dX6_advance_143 : decode cX6_advance 143 = .ok (.aload_n 0, 1) := by decide +kernel
theorem dX6_advance_144 : decode cX6_advance 144 = .ok (.getfield 9, 3) := by decide +kernel
theorem dX6_advance_147 : decode cX6_advance 147 = .ok (.aload_n 0, 1) := by decide +kernel
theorem dX6_advance_148 : decode cX6_advance 148 = .ok (.getfield 28, 3) := by decide +kernel
theorem dX6_advance_151 : decode cX6_advance 151 = .ok (.baload, 1) := by decide +kernel
theorem dX6_advance_152 : decode cX6_advance 152 = .ok (.invokestatic 47, 3) := by decide +kernel
theorem dX6_advance_155 : decode cX6_advance 155 = .ok (.ifCond .eq 77, 3) := by decide +kernel
theorem dX6_advance_158 : decode cX6_advance 158 = .ok (.aload_n 0, 1) := by decide +kernel
theorem dX6_advance_159 : decode cX6_advance 159 = .ok (.iconst 2, 1) := by decide +kernel
theorem dX6_advance_160 : decode cX6_advance 160 = .ok (.putfield 40, 3) := by decide +kernel
theorem dX6_advance_163 : decode cX6_advance 163 = .ok (.aload_n 0, 1) := by decide +kernel
theorem dX6_advance_164 : decode cX6_advance 164 = .ok (.getfield 28, 3) := by decide +kernel
theorem dX6_advance_167 : decode cX6_advance 167 = .ok (.aload_n 0, 1) := by decide +kernel
theorem dX6_advance_168 : decode cX6_advance 168 = .ok (.getfield 25, 3) := by decide +kernel
theorem dX6_advance_171 : decode cX6_advance 171 = .ok (.if_icmp .ge 76, 3) := by decide +kernel
theorem dX6_advance_174 : decode cX6_advance 174 = .ok (.aload_n 0, 1) := by decide +kernel
theorem dX6_advance_175 : decode cX6_advance 175 = .ok (.getfield 9, 3) := by decide +kernel
theorem dX6_advance_178 : decode cX6_advance 178 = .ok (.aload_n 0, 1) := by decide +kernel
theorem dX6_advance_179 : decode cX6_advance 179 = .ok (.getfield 28, 3) := by decide +kernel
theorem dX6_advance_182 : decode cX6_advance 182 = .ok (.baload, 1) := by decide +kernel
theorem dX6_advance_183 : decode cX6_advance 183 = .ok (.invokestatic 47, 3) := by decide +kernel
theorem dX6_advance_186 : decode cX6_advance 186 = .ok (.ifCond .eq 61, 3) := by decide +kernel
theorem dX6_advance_189 : decode cX6_advance 189 = .ok (.aload_n 0, 1) := by decide +kernel
theorem dX6_advance_190 : decode cX6_advance 190 = .ok (.sipush 10000, 3) := by decide +kernel
theorem dX6_advance_193 : decode cX6_advance 193 = .ok (.aload_n 0, 1) := by decide +kernel
theorem dX6_advance_194 : decode cX6_advance 194 = .ok (.getfield 37, 3) := by decide +kernel
theorem dX6_advance_197 : decode cX6_advance 197 = .ok (.bipush 10, 2) := by decide +kernel
theorem dX6_advance_199 : decode cX6_advance 199 = .ok (.imul, 1) := by decide +kernel
theorem dX6_advance_200 : decode cX6_advance 200 = .ok (.aload_n 0, 1) := by decide +kernel
theorem dX6_advance_201 : decode cX6_advance 201 = .ok (.getfield 9, 3) := by decide +kernel
theorem dX6_advance_204 : decode cX6_advance 204 = .ok (.aload_n 0, 1) := by decide +kernel
theorem dX6_advance_205 : decode cX6_advance 205 = .ok (.getfield 28, 3) := by decide +kernel
theorem dX6_advance_208 : decode cX6_advance 208 = .ok (.baload, 1) := by decide +kernel
theorem dX6_advance_209 : decode cX6_advance 209 = .ok (.iadd, 1) := by decide +kernel
theorem dX6_advance_210 : decode cX6_advance 210 = .ok (.bipush 48, 2) := by decide +kernel
theorem dX6_advance_212 : decode cX6_advance 212 = .ok (.isub, 1) := by decide +kernel
theorem dX6_advance_213 : decode cX6_advance 213 = .ok (.invokestatic 19, 3) := by decide +kernel
theorem dX6_advance_216 : decode cX6_advance 216 = .ok (.putfield 37, 3) := by decide +kernel
theorem dX6_advance_219 : decode cX6_advance 219 = .ok (.aload_n 0, 1) := by decide +kernel
theorem dX6_advance_220 : decode cX6_advance 220 = .ok (.dup, 1) := by decide +kernel
theorem dX6_advance_221 : decode cX6_advance 221 = .ok (.getfield 28, 3) := by decide +kernel
theorem dX6_advance_224 : decode cX6_advance 224 = .ok (.iconst 1, 1) := by decide +kernel
theorem dX6_advance_225 : decode cX6_advance 225 = .ok (.iadd, 1) := by decide +kernel
theorem dX6_advance_226 : decode cX6_advance 226 = .ok (.putfield 28, 3) := by decide +kernel
theorem dX6_advance_229 : decode cX6_advance 229 = .ok (.goto (-66), 3) := by decide +kernel
theorem dX6_advance_232 : decode cX6_advance 232 = .ok (.aload_n 0, 1) := by decide +kernel
theorem dX6_advance_233 : decode cX6_advance 233 = .ok (.iconst 3, 1) := by decide +kernel
theorem dX6_advance_234 : decode cX6_advance 234 = .ok (.putfield 40, 3) := by decide +kernel
theorem dX6_advance_237 : decode cX6_advance 237 = .ok (.aload_n 0, 1) := by decide +kernel
theorem dX6_advance_238 : decode cX6_advance 238 = .ok (.dup, 1) := by decide +kernel
theorem dX6_advance_239 : decode cX6_advance 239 = .ok (.getfield 28, 3) := by decide +kernel
theorem dX6_advance_242 : decode cX6_advance 242 = .ok (.iconst 1, 1) := by decide +kernel
theorem dX6_advance_243 : decode cX6_advance 243 = .ok (.iadd, 1) := by decide +kernel
theorem dX6_advance_244 : decode cX6_advance 244 = .ok (.putfield 28, 3) := by decide +kernel
theorem dX6_advance_247 : decode cX6_advance 247 = .ok (.return_, 1) := by decide +kernel
theorem dX6_isLetter_0 : decode cX6_isLetter 0 = .ok (.iload_n 0, 1) := by decide +kernel
theorem dX6_isLetter_1 : decode cX6_isLetter 1 = .ok (.bipush 97, 2) := by decide +kernel
theorem dX6_isLetter_3 : decode cX6_isLetter 3 = .ok (.if_icmp .lt 13, 3) := by decide +kernel
theorem dX6_isLetter_6 : decode cX6_isLetter 6 = .ok (.iload_n 0, 1) := by decide +kernel
theorem dX6_isLetter_7 : decode cX6_isLetter 7 = .ok (.bipush 122, 2) := by decide +kernel
theorem dX6_isLetter_9 : decode cX6_isLetter 9 = .ok (.if_icmp .gt 7, 3) := by decide +kernel
theorem dX6_isLetter_12 : decode cX6_isLetter 12 = .ok (.iconst 1, 1) := by decide +kernel
theorem dX6_isLetter_13 : decode cX6_isLetter 13 = .ok (.goto 4, 3) := by decide +kernel
theorem dX6_isLetter_16 : decode cX6_isLetter 16 = .ok (.iconst 0, 1) := by decide +kernel
theorem dX6_isLetter_17 : decode cX6_isLetter 17 = .ok (.ireturn, 1) := by decide +kernel
theorem dX6_isDigit_0 : decode cX6_isDigit 0 = .ok (.iload_n 0, 1) := by decide +kernel
theorem dX6_isDigit_1 : decode cX6_isDigit 1 = .ok (.bipush 48, 2) := by decide +kernel
theorem dX6_isDigit_3 : decode cX6_isDigit 3 = .ok (.if_icmp .lt 13, 3) := by decide +kernel
theorem dX6_isDigit_6 : decode cX6_isDigit 6 = .ok (.iload_n 0, 1) := by decide +kernel
theorem dX6_isDigit_7 : decode cX6_isDigit 7 = .ok (.bipush 57, 2) := by decide +kernel
theorem dX6_isDigit_9 : decode cX6_isDigit 9 = .ok (.if_icmp .gt 7, 3) := by decide +kernel
theorem dX6_isDigit_12 : decode cX6_isDigit 12 = .ok (.iconst 1, 1) := by decide +kernel
theorem dX6_isDigit_13 : decode cX6_isDigit 13 = .ok (.goto 4, 3) := by decide +kernel
theorem dX6_isDigit_16 : decode cX6_isDigit 16 = .ok (.iconst 0, 1) := by decide +kernel
theorem dX6_isDigit_17 : decode cX6_isDigit 17 = .ok (.ireturn, 1) := by decide +kernel
theorem dX6_isSign_0 : decode cX6_isSign 0 = .ok (.aload_n 0, 1) := by decide +kernel
theorem dX6_isSign_1 : decode cX6_isSign 1 = .ok (.getfield 40, 3) := by decide +kernel
theorem dX6_isSign_4 : decode cX6_isSign 4 = .ok (.iconst 3, 1) := by decide +kernel
theorem dX6_isSign_5 : decode cX6_isSign 5 = .ok (.if_icmp .ne 31, 3) := by decide +kernel
theorem dX6_isSign_8 : decode cX6_isSign 8 = .ok (.aload_n 0, 1) := by decide +kernel
theorem dX6_isSign_9 : decode cX6_isSign 9 = .ok (.getfield 34, 3) := by decide +kernel
theorem dX6_isSign_12 : decode cX6_isSign 12 = .ok (.aload_n 0, 1) := by decide +kernel
theorem dX6_isSign_13 : decode cX6_isSign 13 = .ok (.getfield 25, 3) := by decide +kernel
theorem dX6_isSign_16 : decode cX6_isSign 16 = .ok (.if_icmp .ge 20, 3) := by decide +kernel
theorem dX6_isSign_19 : decode cX6_isSign 19 = .ok (.aload_n 0, 1) := by decide +kernel
theorem dX6_isSign_20 : decode cX6_isSign 20 = .ok (.getfield 9, 3) := by decide +kernel
theorem dX6_isSign_23 : decode cX6_isSign 23 = .ok (.aload_n 0, 1) := by decide +kernel
theorem dX6_isSign_24 : decode cX6_isSign 24 = .ok (.getfield 34, 3) := by decide +kernel
theorem dX6_isSign_27 : decode cX6_isSign 27 = .ok (.baload, 1) := by decide +kernel
theorem dX6_isSign_28 : decode cX6_isSign 28 = .ok (.iload_n 1, 1) := by decide +kernel
theorem dX6_isSign_29 : decode cX6_isSign 29 = .ok (.if_icmp .ne 7, 3) := by decide +kernel
theorem dX6_isSign_32 : decode cX6_isSign 32 = .ok (.iconst 1, 1) := by decide +kernel
theorem dX6_isSign_33 : decode cX6_isSign 33 = .ok (.goto 4, 3) := by decide +kernel
theorem dX6_isSign_36 : decode cX6_isSign 36 = .ok (.iconst 0, 1) := by decide +kernel
theorem dX6_isSign_37 : decode cX6_isSign 37 = .ok (.ireturn, 1) := by decide +kernel
theorem dX6_isWord_0 : decode cX6_isWord 0 = .ok (.aload_n 0, 1) := by decide +kernel
theorem dX6_isWord_1 : decode cX6_isWord 1 = .ok (.getfield 40, 3) := by decide +kernel
theorem dX6_isWord_4 : decode cX6_isWord 4 = .ok (.iconst 1, 1) := by decide +kernel
theorem dX6_isWord_5 : decode cX6_isWord 5 = .ok (.if_icmp .ne 19, 3) := by decide +kernel
theorem dX6_isWord_8 : decode cX6_isWord 8 = .ok (.aload_n 0, 1) := by decide +kernel
theorem dX6_isWord_9 : decode cX6_isWord 9 = .ok (.getfield 28, 3) := by decide +kernel
theorem dX6_isWord_12 : decode cX6_isWord 12 = .ok (.aload_n 0, 1) := by decide +kernel
theorem dX6_isWord_13 : decode cX6_isWord 13 = .ok (.getfield 34, 3) := by decide +kernel
theorem dX6_isWord_16 : decode cX6_isWord 16 = .ok (.isub, 1) := by decide +kernel
theorem dX6_isWord_17 : decode cX6_isWord 17 = .ok (.aload_n 1, 1) := by decide +kernel
theorem dX6_isWord_18 : decode cX6_isWord 18 = .ok (.invokevirtual 50, 3) := by decide +kernel
theorem dX6_isWord_21 : decode cX6_isWord 21 = .ok (.if_icmp .eq 5, 3) := by decide +kernel
theorem dX6_isWord_24 : decode cX6_isWord 24 = .ok (.iconst 0, 1) := by decide +kernel
theorem dX6_isWord_25 : decode cX6_isWord 25 = .ok (.ireturn, 1) := by decide +kernel
theorem dX6_isWord_26 : decode cX6_isWord 26 = .ok (.iconst 0, 1) := by decide +kernel
theorem dX6_isWord_27 : decode cX6_isWord 27 = .ok (.istore_n 2, 1) := by decide +kernel
theorem dX6_isWord_28 : decode cX6_isWord 28 = .ok (.iload_n 2, 1) := by decide +kernel
theorem dX6_isWord_29 : decode cX6_isWord 29 = .ok (.aload_n 1, 1) := by decide +kernel
theorem dX6_isWord_30 : decode cX6_isWord 30 = .ok (.invokevirtual 50, 3) := by decide +kernel
theorem dX6_isWord_33 : decode cX6_isWord 33 = .ok (.if_icmp .ge 30, 3) := by decide +kernel
theorem dX6_isWord_36 : decode cX6_isWord 36 = .ok (.aload_n 0, 1) := by decide +kernel
theorem dX6_isWord_37 : decode cX6_isWord 37 = .ok (.getfield 9, 3) := by decide +kernel
theorem dX6_isWord_40 : decode cX6_isWord 40 = .ok (.aload_n 0, 1) := by decide +kernel
theorem dX6_isWord_41 : decode cX6_isWord 41 = .ok (.getfield 34, 3) := by decide +kernel
theorem dX6_isWord_44 : decode cX6_isWord 44 = .ok (.iload_n 2, 1) := by decide +kernel
theorem dX6_isWord_45 : decode cX6_isWord 45 = .ok (.iadd, 1) := by decide +kernel
theorem dX6_isWord_46 : decode cX6_isWord 46 = .ok (.baload, 1) := by decide +kernel
theorem dX6_isWord_47 : decode cX6_isWord 47 = .ok (.aload_n 1, 1) := by decide +kernel
theorem dX6_isWord_48 : decode cX6_isWord 48 = .ok (.iload_n 2, 1) := by decide +kernel
theorem dX6_isWord_49 : decode cX6_isWord 49 = .ok (.invokevirtual 55, 3) := by decide +kernel
theorem dX6_isWord_52 : decode cX6_isWord 52 = .ok (.if_icmp .eq 5, 3) := by decide +kernel
theorem dX6_isWord_55 : decode cX6_isWord 55 = .ok (.iconst 0, 1) := by decide +kernel
theorem dX6_isWord_56 : decode cX6_isWord 56 = .ok (.ireturn, 1) := by decide +kernel
theorem dX6_isWord_57 : decode cX6_isWord 57 = .ok (.iinc 2 1, 3) := by decide +kernel
theorem dX6_isWord_60 : decode cX6_isWord 60 = .ok (.goto (-32), 3) := by decide +kernel
theorem dX6_isWord_63 : decode cX6_isWord 63 = .ok (.iconst 1, 1) := by decide +kernel
theorem dX6_isWord_64 : decode cX6_isWord 64 = .ok (.ireturn, 1) := by decide +kernel
theorem dX6_letters_0 : decode cX6_letters 0 = .ok (.aload_n 0, 1) := by decide +kernel
theorem dX6_letters_1 : decode cX6_letters 1 = .ok (.getfield 40, 3) := by decide +kernel
theorem dX6_letters_4 : decode cX6_letters 4 = .ok (.iconst 1, 1) := by decide +kernel
theorem dX6_letters_5 : decode cX6_letters 5 = .ok (.if_icmp .ne 15, 3) := by decide +kernel
theorem dX6_letters_8 : decode cX6_letters 8 = .ok (.aload_n 0, 1) := by decide +kernel
theorem dX6_letters_9 : decode cX6_letters 9 = .ok (.getfield 28, 3) := by decide +kernel
theorem dX6_letters_12 : decode cX6_letters 12 = .ok (.aload_n 0, 1) := by decide +kernel
theorem dX6_letters_13 : decode cX6_letters 13 = .ok (.getfield 34, 3) := by decide +kernel
theorem dX6_letters_16 : decode cX6_letters 16 = .ok (.isub, 1) := by decide +kernel
theorem dX6_letters_17 : decode cX6_letters 17 = .ok (.goto 4, 3) := by decide +kernel
theorem dX6_letters_20 : decode cX6_letters 20 = .ok (.iconst 0, 1) := by decide +kernel
theorem dX6_letters_21 : decode cX6_letters 21 = .ok (.ireturn, 1) := by decide +kernel
theorem dX6_asName_0 : decode cX6_asName 0 = .ok (.aload_n 0, 1) := by decide +kernel
theorem dX6_asName_1 : decode cX6_asName 1 = .ok (.invokevirtual 59, 3) := by decide +kernel
theorem dX6_asName_4 : decode cX6_asName 4 = .ok (.bipush 8, 2) := by decide +kernel
theorem dX6_asName_6 : decode cX6_asName 6 = .ok (.if_icmp .le 5, 3) := by decide +kernel
theorem dX6_asName_9 : decode cX6_asName 9 = .ok (.lconst 0, 1) := by decide +kernel
theorem dX6_asName_10 : decode cX6_asName 10 = .ok (.lreturn, 1) := by decide +kernel
theorem dX6_asName_11 : decode cX6_asName 11 = .ok (.lconst 0, 1) := by decide +kernel
theorem dX6_asName_12 : decode cX6_asName 12 = .ok (.lstore_n 1, 1) := by decide +kernel
theorem dX6_asName_13 : decode cX6_asName 13 = .ok (.aload_n 0, 1) := by decide +kernel
theorem dX6_asName_14 : decode cX6_asName 14 = .ok (.invokevirtual 59, 3) := by decide +kernel
theorem dX6_asName_17 : decode cX6_asName 17 = .ok (.iconst 1, 1) := by decide +kernel
theorem dX6_asName_18 : decode cX6_asName 18 = .ok (.isub, 1) := by decide +kernel
theorem dX6_asName_19 : decode cX6_asName 19 = .ok (.istore_n 3, 1) := by decide +kernel
theorem dX6_asName_20 : decode cX6_asName 20 = .ok (.iload_n 3, 1) := by decide +kernel
theorem dX6_asName_21 : decode cX6_asName 21 = .ok (.ifCond .lt 27, 3) := by decide +kernel
theorem dX6_asName_24 : decode cX6_asName 24 = .ok (.lload_n 1, 1) := by decide +kernel
theorem dX6_asName_25 : decode cX6_asName 25 = .ok (.bipush 8, 2) := by decide +kernel
theorem dX6_asName_27 : decode cX6_asName 27 = .ok (.lshl, 1) := by decide +kernel
theorem dX6_asName_28 : decode cX6_asName 28 = .ok (.aload_n 0, 1) := by decide +kernel
theorem dX6_asName_29 : decode cX6_asName 29 = .ok (.getfield 9, 3) := by decide +kernel
theorem dX6_asName_32 : decode cX6_asName 32 = .ok (.aload_n 0, 1) := by decide +kernel
theorem dX6_asName_33 : decode cX6_asName 33 = .ok (.getfield 34, 3) := by decide +kernel
theorem dX6_asName_36 : decode cX6_asName 36 = .ok (.iload_n 3, 1) := by decide +kernel
theorem dX6_asName_37 : decode cX6_asName 37 = .ok (.iadd, 1) := by decide +kernel
theorem dX6_asName_38 : decode cX6_asName 38 = .ok (.baload, 1) := by decide +kernel
theorem dX6_asName_39 : decode cX6_asName 39 = .ok (.i2l, 1) := by decide +kernel
theorem dX6_asName_40 : decode cX6_asName 40 = .ok (.lor, 1) := by decide +kernel
theorem dX6_asName_41 : decode cX6_asName 41 = .ok (.lstore_n 1, 1) := by decide +kernel
theorem dX6_asName_42 : decode cX6_asName 42 = .ok (.iinc 3 (-1), 3) := by decide +kernel
theorem dX6_asName_45 : decode cX6_asName 45 = .ok (.goto (-25), 3) := by decide +kernel
theorem dX6_asName_48 : decode cX6_asName 48 = .ok (.lload_n 1, 1) := by decide +kernel
theorem dX6_asName_49 : decode cX6_asName 49 = .ok (.lreturn, 1) := by decide +kernel
theorem dX7_init_0 : decode cX7_init 0 = .ok (.aload_n 0, 1) := by decide +kernel
theorem dX7_init_1 : decode cX7_init 1 = .ok (.invokespecial 1, 3) := by decide +kernel
theorem dX7_init_4 : decode cX7_init 4 = .ok (.aload_n 0, 1) := by decide +kernel
theorem dX7_init_5 : decode cX7_init 5 = .ok (.new 7, 3) := by decide +kernel
theorem dX7_init_8 : decode cX7_init 8 = .ok (.dup, 1) := by decide +kernel
theorem dX7_init_9 : decode cX7_init 9 = .ok (.invokespecial 9, 3) := by decide +kernel
theorem dX7_init_12 : decode cX7_init 12 = .ok (.putfield 10, 3) := by decide +kernel
theorem dX7_init_15 : decode cX7_init 15 = .ok (.aload_n 0, 1) := by decide +kernel
theorem dX7_init_16 : decode cX7_init 16 = .ok (.new 7, 3) := by decide +kernel
theorem dX7_init_19 : decode cX7_init 19 = .ok (.dup, 1) := by decide +kernel
theorem dX7_init_20 : decode cX7_init 20 = .ok (.invokespecial 9, 3) := by decide +kernel
theorem dX7_init_23 : decode cX7_init 23 = .ok (.putfield 16, 3) := by decide +kernel
theorem dX7_init_26 : decode cX7_init 26 = .ok (.aload_n 0, 1) := by decide +kernel
theorem dX7_init_27 : decode cX7_init 27 = .ok (.new 7, 3) := by decide +kernel
theorem dX7_init_30 : decode cX7_init 30 = .ok (.dup, 1) := by decide +kernel
theorem dX7_init_31 : decode cX7_init 31 = .ok (.invokespecial 9, 3) := by decide +kernel
theorem dX7_init_34 : decode cX7_init 34 = .ok (.putfield 19, 3) := by decide +kernel
theorem dX7_init_37 : decode cX7_init 37 = .ok (.aload_n 0, 1) := by decide +kernel
theorem dX7_init_38 : decode cX7_init 38 = .ok (.new 22, 3) := by decide +kernel
theorem dX7_init_41 : decode cX7_init 41 = .ok (.dup, 1) := by decide +kernel
theorem dX7_init_42 : decode cX7_init 42 = .ok (.invokespecial 24, 3) := by decide +kernel
theorem dX7_init_45 : decode cX7_init 45 = .ok (.putfield 25, 3) := by decide +kernel
theorem dX7_init_48 : decode cX7_init 48 = .ok (.aload_n 0, 1) := by decide +kernel
theorem dX7_init_49 : decode cX7_init 49 = .ok (.new 29, 3) := by decide +kernel
theorem dX7_init_52 : decode cX7_init 52 = .ok (.dup, 1) := by decide +kernel
theorem dX7_init_53 : decode cX7_init 53 = .ok (.invokespecial 31, 3) := by decide +kernel
theorem dX7_init_56 : decode cX7_init 56 = .ok (.putfield 32, 3) := by decide +kernel
theorem dX7_init_59 : decode cX7_init 59 = .ok (.aload_n 0, 1) := by decide +kernel
theorem dX7_init_60 : decode cX7_init 60 = .ok (.new 36, 3) := by decide +kernel
theorem dX7_init_63 : decode cX7_init 63 = .ok (.dup, 1) := by decide +kernel
theorem dX7_init_64 : decode cX7_init 64 = .ok (.invokespecial 38, 3) := by decide +kernel
theorem dX7_init_67 : decode cX7_init 67 = .ok (.putfield 39, 3) := by decide +kernel
theorem dX7_init_70 : decode cX7_init 70 = .ok (.aload_n 0, 1) := by decide +kernel
theorem dX7_init_71 : decode cX7_init 71 = .ok (.new 43, 3) := by decide +kernel
theorem dX7_init_74 : decode cX7_init 74 = .ok (.dup, 1) := by decide +kernel
theorem dX7_init_75 : decode cX7_init 75 = .ok (.aload_n 0, 1) := by decide +kernel
theorem dX7_init_76 : decode cX7_init 76 = .ok (.getfield 39, 3) := by decide +kernel
theorem dX7_init_79 : decode cX7_init 79 = .ok (.aload_n 0, 1) := by decide +kernel
theorem dX7_init_80 : decode cX7_init 80 = .ok (.getfield 16, 3) := by decide +kernel
theorem dX7_init_83 : decode cX7_init 83 = .ok (.invokespecial 45, 3) := by decide +kernel
theorem dX7_init_86 : decode cX7_init 86 = .ok (.putfield 48, 3) := by decide +kernel
theorem dX7_init_89 : decode cX7_init 89 = .ok (.aload_n 0, 1) := by decide +kernel
theorem dX7_init_90 : decode cX7_init 90 = .ok (.new 52, 3) := by decide +kernel
theorem dX7_init_93 : decode cX7_init 93 = .ok (.dup, 1) := by decide +kernel
theorem dX7_init_94 : decode cX7_init 94 = .ok (.aload_n 0, 1) := by decide +kernel
theorem dX7_init_95 : decode cX7_init 95 = .ok (.getfield 39, 3) := by decide +kernel
theorem dX7_init_98 : decode cX7_init 98 = .ok (.invokespecial 54, 3) := by decide +kernel
theorem dX7_init_101 : decode cX7_init 101 = .ok (.putfield 57, 3) := by decide +kernel
theorem dX7_init_104 : decode cX7_init 104 = .ok (.aload_n 0, 1) := by decide +kernel
theorem dX7_init_105 : decode cX7_init 105 = .ok (.new 61, 3) := by decide +kernel
theorem dX7_init_108 : decode cX7_init 108 = .ok (.dup, 1) := by decide +kernel
theorem dX7_init_109 : decode cX7_init 109 = .ok (.invokespecial 63, 3) := by decide +kernel
theorem dX7_init_112 : decode cX7_init 112 = .ok (.putfield 64, 3) := by decide +kernel
theorem dX7_init_115 : decode cX7_init 115 = .ok (.aload_n 0, 1) := by decide +kernel
theorem dX7_init_116 : decode cX7_init 116 = .ok (.iconst (-1), 1) := by decide +kernel
theorem dX7_init_117 : decode cX7_init 117 = .ok (.putfield 68, 3) := by decide +kernel
theorem dX7_init_120 : decode cX7_init 120 = .ok (.aload_n 0, 1) := by decide +kernel
theorem dX7_init_121 : decode cX7_init 121 = .ok (.getfield 10, 3) := by decide +kernel
theorem dX7_init_124 : decode cX7_init 124 = .ok (.invokevirtual 72, 3) := by decide +kernel
theorem dX7_init_127 : decode cX7_init 127 = .ok (.return_, 1) := by decide +kernel
theorem dX7_feed_0 : decode cX7_feed 0 = .ok (.aload_n 0, 1) := by decide +kernel
theorem dX7_feed_1 : decode cX7_feed 1 = .ok (.getfield 39, 3) := by decide +kernel
theorem dX7_feed_4 : decode cX7_feed 4 = .ok (.getfield 75, 3) := by decide +kernel
theorem dX7_feed_7 : decode cX7_feed 7 = .ok (.bipush 20, 2) := by decide +kernel
theorem dX7_feed_9 : decode cX7_feed 9 = .ok (.iadd, 1) := by decide +kernel
theorem dX7_feed_10 : decode cX7_feed 10 = .ok (.sipush 900, 3) := by decide +kernel
theorem dX7_feed_13 : decode cX7_feed 13 = .ok (.if_icmp .le 5, 3) := by decide +kernel
theorem dX7_feed_16 : decode cX7_feed 16 = .ok (.iconst (-1), 1) := by decide +kernel
theorem dX7_feed_17 : decode cX7_feed 17 = .ok (.ireturn, 1) := by decide +kernel
theorem dX7_feed_18 : decode cX7_feed 18 = .ok (.aload_n 0, 1) := by decide +kernel
theorem dX7_feed_19 : decode cX7_feed 19 = .ok (.getfield 39, 3) := by decide +kernel
theorem dX7_feed_22 : decode cX7_feed 22 = .ok (.iload_n 1, 1) := by decide +kernel
theorem dX7_feed_23 : decode cX7_feed 23 = .ok (.invokevirtual 78, 3) := by decide +kernel
theorem dX7_feed_26 : decode cX7_feed 26 = .ok (.aload_n 0, 1) := by decide +kernel
theorem dX7_feed_27 : decode cX7_feed 27 = .ok (.getfield 39, 3) := by decide +kernel
theorem dX7_feed_30 : decode cX7_feed 30 = .ok (.iload_n 2, 1) := by decide +kernel
theorem dX7_feed_31 : decode cX7_feed 31 = .ok (.invokevirtual 78, 3) := by decide +kernel
theorem dX7_feed_34 : decode cX7_feed 34 = .ok (.aload_n 0, 1) := by decide +kernel
theorem dX7_feed_35 : decode cX7_feed 35 = .ok (.getfield 39, 3) := by decide +kernel
theorem dX7_feed_38 : decode cX7_feed 38 = .ok (.iload_n 3, 1) := by decide +kernel
theorem dX7_feed_39 : decode cX7_feed 39 = .ok (.invokevirtual 78, 3) := by decide +kernel
theorem dX7_feed_42 : decode cX7_feed 42 = .ok (.aload_n 0, 1) := by decide +kernel
theorem dX7_feed_43 : decode cX7_feed 43 = .ok (.getfield 39, 3) := by decide +kernel
theorem dX7_feed_46 : decode cX7_feed 46 = .ok (.iload 4, 2) := by decide +kernel
theorem dX7_feed_48 : decode cX7_feed 48 = .ok (.invokevirtual 78, 3) := by decide +kernel
theorem dX7_feed_51 : decode cX7_feed 51 = .ok (.aload_n 0, 1) := by decide +kernel
theorem dX7_feed_52 : decode cX7_feed 52 = .ok (.getfield 39, 3) := by decide +kernel
theorem dX7_feed_55 : decode cX7_feed 55 = .ok (.iload 5, 2) := by decide +kernel
theorem dX7_feed_57 : decode cX7_feed 57 = .ok (.invokevirtual 78, 3) := by decide +kernel
theorem dX7_feed_60 : decode cX7_feed 60 = .ok (.aload_n 0, 1) := by decide +kernel
theorem dX7_feed_61 : decode cX7_feed 61 = .ok (.getfield 39, 3) := by decide +kernel
theorem dX7_feed_64 : decode cX7_feed 64 = .ok (.getfield 75, 3) := by decide +kernel
theorem dX7_feed_67 : decode cX7_feed 67 = .ok (.ireturn, 1) := by decide +kernel
theorem dX7_load_0 : decode cX7_load 0 = .ok (.iload_n 1, 1) := by decide +kernel
theorem dX7_load_1 : decode cX7_load 1 = .ok (.ifCond .lt 14, 3) := by decide +kernel
theorem dX7_load_4 : decode cX7_load 4 = .ok (.iload_n 1, 1) := by decide +kernel
theorem dX7_load_5 : decode cX7_load 5 = .ok (.aload_n 0, 1) := by decide +kernel
theorem dX7_load_6 : decode cX7_load 6 = .ok (.getfield 39, 3) := by decide +kernel
theorem dX7_load_9 : decode cX7_load 9 = .ok (.getfield 75, 3) := by decide +kernel
theorem dX7_load_12 : decode cX7_load 12 = .ok (.if_icmp .le 11, 3) := by decide +kernel
theorem dX7_load_15 : decode cX7_load 15 = .ok (.new 82, 3) := by decide +kernel
theorem dX7_load_18 : decode cX7_load 18 = .ok (.dup, 1) := by decide +kernel
theorem dX7_load_19 : decode cX7_load 19 = .ok (.invokespecial 84, 3) := by decide +kernel
theorem dX7_load_22 : decode cX7_load 22 = .ok (.athrow, 1) := by decide +kernel
theorem dX7_load_23 : decode cX7_load 23 = .ok (.aload_n 0, 1) := by decide +kernel
theorem dX7_load_24 : decode cX7_load 24 = .ok (.getfield 39, 3) := by decide +kernel
theorem dX7_load_27 : decode cX7_load 27 = .ok (.iload_n 1, 1) := by decide +kernel
theorem dX7_load_28 : decode cX7_load 28 = .ok (.invokevirtual 85, 3) := by decide +kernel
theorem dX7_load_31 : decode cX7_load 31 = .ok (.aload_n 0, 1) := by decide +kernel
theorem dX7_load_32 : decode cX7_load 32 = .ok (.getfield 48, 3) := by decide +kernel
theorem dX7_load_35 : decode cX7_load 35 = .ok (.invokevirtual 88, 3) := by decide +kernel
theorem dX7_load_38 : decode cX7_load 38 = .ok (.istore_n 2, 1) := by decide +kernel
theorem dX7_load_39 : decode cX7_load 39 = .ok (.iload_n 2, 1) := by decide +kernel
theorem dX7_load_40 : decode cX7_load 40 = .ok (.ifCond .eq 19, 3) := by decide +kernel
theorem dX7_load_43 : decode cX7_load 43 = .ok (.aload_n 0, 1) := by decide +kernel
theorem dX7_load_44 : decode cX7_load 44 = .ok (.aload_n 0, 1) := by decide +kernel
theorem dX7_load_45 : decode cX7_load 45 = .ok (.getfield 39, 3) := by decide +kernel
theorem dX7_load_48 : decode cX7_load 48 = .ok (.getfield 92, 3) := by decide +kernel
theorem dX7_load_51 : decode cX7_load 51 = .ok (.putfield 68, 3) := by decide +kernel
theorem dX7_load_54 : decode cX7_load 54 = .ok (.bipush (-10), 2) := by decide +kernel
theorem dX7_load_56 : decode cX7_load 56 = .ok (.iload_n 2, 1) := by decide +kernel
theorem dX7_load_57 : decode cX7_load 57 = .ok (.isub, 1) := by decide +kernel
theorem dX7_load_58 : decode cX7_load 58 = .ok (.ireturn, 1) := by decide +kernel
theorem dX7_load_59 : decode cX7_load 59 = .ok (.aload_n 0, 1) := by decide +kernel
theorem dX7_load_60 : decode cX7_load 60 = .ok (.iconst (-1), 1) := by decide +kernel
theorem dX7_load_61 : decode cX7_load 61 = .ok (.putfield 68, 3) := by decide +kernel
theorem dX7_load_64 : decode cX7_load 64 = .ok (.aload_n 0, 1) := by decide +kernel
theorem dX7_load_65 : decode cX7_load 65 = .ok (.getfield 10, 3) := by decide +kernel
theorem dX7_load_68 : decode cX7_load 68 = .ok (.aload_n 0, 1) := by decide +kernel
theorem dX7_load_69 : decode cX7_load 69 = .ok (.getfield 16, 3) := by decide +kernel
theorem dX7_load_72 : decode cX7_load 72 = .ok (.invokevirtual 95, 3) := by decide +kernel
theorem dX7_load_75 : decode cX7_load 75 = .ok (.aload_n 0, 1) := by decide +kernel
theorem dX7_load_76 : decode cX7_load 76 = .ok (.getfield 25, 3) := by decide +kernel
theorem dX7_load_79 : decode cX7_load 79 = .ok (.invokevirtual 99, 3) := by decide +kernel
theorem dX7_load_82 : decode cX7_load 82 = .ok (.aload_n 0, 1) := by decide +kernel
theorem dX7_load_83 : decode cX7_load 83 = .ok (.iconst 0, 1) := by decide +kernel
theorem dX7_load_84 : decode cX7_load 84 = .ok (.putfield 100, 3) := by decide +kernel
theorem dX7_load_87 : decode cX7_load 87 = .ok (.aload_n 0, 1) := by decide +kernel
theorem dX7_load_88 : decode cX7_load 88 = .ok (.getfield 10, 3) := by decide +kernel
theorem dX7_load_91 : decode cX7_load 91 = .ok (.getfield 104, 3) := by decide +kernel
theorem dX7_load_94 : decode cX7_load 94 = .ok (.ireturn, 1) := by decide +kernel
theorem dX7_errorPosition_0 : decode cX7_errorPosition 0 = .ok (.aload_n 0, 1) := by decide +kernel
theorem dX7_errorPosition_1 : decode cX7_errorPosition 1 = .ok (.getfield 68, 3) := by decide +kernel
theorem dX7_errorPosition_4 : decode cX7_errorPosition 4 = .ok (.ireturn, 1) := by decide +kernel
theorem dX7_size_0 : decode cX7_size 0 = .ok (.iload_n 1, 1) := by decide +kernel
theorem dX7_size_1 : decode cX7_size 1 = .ok (.tableswitch 156 0 10 #[59, 67, 75, 83, 91, 99, 107, 115, 123, 139, 148], 59) := by decide +kernel
theorem dX7_size_60 : decode cX7_size 60 = .ok (.aload_n 0, 1) := by decide +kernel
theorem dX7_size_61 : decode cX7_size 61 = .ok (.getfield 10, 3) := by decide +kernel
theorem dX7_size_64 : decode cX7_size 64 = .ok (.getfield 104, 3) := by decide +kernel
theorem dX7_size_67 : decode cX7_size 67 = .ok (.ireturn, 1) := by decide +kernel
theorem dX7_size_68 : decode cX7_size 68 = .ok (.aload_n 0, 1) := by decide +kernel
theorem dX7_size_69 : decode cX7_size 69 = .ok (.getfield 10, 3) := by decide +kernel
theorem dX7_size_72 : decode cX7_size 72 = .ok (.getfield 107, 3) := by decide +kernel
theorem dX7_size_75 : decode cX7_size 75 = .ok (.ireturn, 1) := by decide +kernel
theorem dX7_size_76 : decode cX7_size 76 = .ok (.aload_n 0, 1) := by decide +kernel
theorem dX7_size_77 : decode cX7_size 77 = .ok (.getfield 10, 3) := by decide +kernel
theorem dX7_size_80 : decode cX7_size 80 = .ok (.invokevirtual 110, 3) := by decide +kernel
theorem dX7_size_83 : decode cX7_size 83 = .ok (.ireturn, 1) := by decide +kernel
theorem dX7_size_84 : decode cX7_size 84 = .ok (.aload_n 0, 1) := by decide +kernel
theorem dX7_size_85 : decode cX7_size 85 = .ok (.getfield 10, 3) := by decide +kernel
theorem dX7_size_88 : decode cX7_size 88 = .ok (.getfield 113, 3) := by decide +kernel
theorem dX7_size_91 : decode cX7_size 91 = .ok (.ireturn, 1) := by decide +kernel
theorem dX7_size_92 : decode cX7_size 92 = .ok (.aload_n 0, 1) := by decide +kernel
theorem dX7_size_93 : decode cX7_size 93 = .ok (.getfield 10, 3) := by decide +kernel
theorem dX7_size_96 : decode cX7_size 96 = .ok (.getfield 116, 3) := by decide +kernel
theorem dX7_size_99 : decode cX7_size 99 = .ok (.ireturn, 1) := by decide +kernel
theorem dX7_size_100 : decode cX7_size 100 = .ok (.aload_n 0, 1) := by decide +kernel
theorem dX7_size_101 : decode cX7_size 101 = .ok (.getfield 10, 3) := by decide +kernel
theorem dX7_size_104 : decode cX7_size 104 = .ok (.getfield 119, 3) := by decide +kernel
theorem dX7_size_107 : decode cX7_size 107 = .ok (.ireturn, 1) := by decide +kernel
theorem dX7_size_108 : decode cX7_size 108 = .ok (.aload_n 0, 1) := by decide +kernel
theorem dX7_size_109 : decode cX7_size 109 = .ok (.getfield 10, 3) := by decide +kernel
theorem dX7_size_112 : decode cX7_size 112 = .ok (.getfield 122, 3) := by decide +kernel
theorem dX7_size_115 : decode cX7_size 115 = .ok (.ireturn, 1) := by decide +kernel
theorem dX7_size_116 : decode cX7_size 116 = .ok (.aload_n 0, 1) := by decide +kernel
theorem dX7_size_117 : decode cX7_size 117 = .ok (.getfield 10, 3) := by decide +kernel
theorem dX7_size_120 : decode cX7_size 120 = .ok (.getfield 125, 3) := by decide +kernel
theorem dX7_size_123 : decode cX7_size 123 = .ok (.ireturn, 1) := by decide +kernel
theorem dX7_size_124 : decode cX7_size 124 = .ok (.aload_n 0, 1) := by decide +kernel
theorem dX7_size_125 : decode cX7_size 125 = .ok (.getfield 10, 3) := by decide +kernel
theorem dX7_size_128 : decode cX7_size 128 = .ok (.getfield 128, 3) := by decide +kernel
theorem dX7_size_131 : decode cX7_size 131 = .ok (.ifCond .eq 7, 3) := by decide +kernel
theorem dX7_size_134 : decode cX7_size 134 = .ok (.iconst 1, 1) := by decide +kernel
theorem dX7_size_135 : decode cX7_size 135 = .ok (.goto 4, 3) := by decide +kernel
theorem dX7_size_138 : decode cX7_size 138 = .ok (.iconst 0, 1) := by decide +kernel
theorem dX7_size_139 : decode cX7_size 139 = .ok (.ireturn, 1) := by decide +kernel
theorem dX7_size_140 : decode cX7_size 140 = .ok (.aload_n 0, 1) := by decide +kernel
theorem dX7_size_141 : decode cX7_size 141 = .ok (.aload_n 0, 1) := by decide +kernel
theorem dX7_size_142 : decode cX7_size 142 = .ok (.getfield 10, 3) := by decide +kernel
theorem dX7_size_145 : decode cX7_size 145 = .ok (.invokevirtual 131, 3) := by decide +kernel
theorem dX7_size_148 : decode cX7_size 148 = .ok (.ireturn, 1) := by decide +kernel
theorem dX7_size_149 : decode cX7_size 149 = .ok (.aload_n 0, 1) := by decide +kernel
theorem dX7_size_150 : decode cX7_size 150 = .ok (.getfield 10, 3) := by decide +kernel
theorem dX7_size_153 : decode cX7_size 153 = .ok (.invokevirtual 135, 3) := by decide +kernel
theorem dX7_size_156 : decode cX7_size 156 = .ok (.ireturn, 1) := by decide +kernel
theorem dX7_size_157 : decode cX7_size 157 = .ok (.new 138, 3) := by decide +kernel
theorem dX7_size_160 : decode cX7_size 160 = .ok (.dup, 1) := by decide +kernel
theorem dX7_size_161 : decode cX7_size 161 = .ok (.invokespecial 140, 3) := by decide +kernel
theorem dX7_size_164 : decode cX7_size 164 = .ok (.athrow, 1) := by decide +kernel
theorem dX7_host_0 : decode cX7_host 0 = .ok (.aload_n 0, 1) := by decide +kernel
theorem dX7_host_1 : decode cX7_host 1 = .ok (.iload_n 1, 1) := by decide +kernel
theorem dX7_host_2 : decode cX7_host 2 = .ok (.invokevirtual 141, 3) := by decide +kernel
theorem dX7_host_5 : decode cX7_host 5 = .ok (.iload_n 2, 1) := by decide +kernel
theorem dX7_host_6 : decode cX7_host 6 = .ok (.tableswitch 111 0 6 #[42, 52, 62, 71, 81, 91, 101], 42) := by decide +kernel
theorem dX7_host_48 : decode cX7_host 48 = .ok (.aload_n 0, 1) := by decide +kernel
theorem dX7_host_49 : decode cX7_host 49 = .ok (.getfield 10, 3) := by decide +kernel
theorem dX7_host_52 : decode cX7_host 52 = .ok (.getfield 144, 3) := by decide +kernel
theorem dX7_host_55 : decode cX7_host 55 = .ok (.iload_n 1, 1) := by decide +kernel
theorem dX7_host_56 : decode cX7_host 56 = .ok (.iaload, 1) := by decide +kernel
theorem dX7_host_57 : decode cX7_host 57 = .ok (.ireturn, 1) := by decide +kernel
theorem dX7_host_58 : decode cX7_host 58 = .ok (.aload_n 0, 1) := by decide +kernel
theorem dX7_host_59 : decode cX7_host 59 = .ok (.getfield 10, 3) := by decide +kernel
theorem dX7_host_62 : decode cX7_host 62 = .ok (.getfield 148, 3) := by decide +kernel
theorem dX7_host_65 : decode cX7_host 65 = .ok (.iload_n 1, 1) := by decide +kernel
theorem dX7_host_66 : decode cX7_host 66 = .ok (.iaload, 1) := by decide +kernel
theorem dX7_host_67 : decode cX7_host 67 = .ok (.ireturn, 1) := by decide +kernel
theorem dX7_host_68 : decode cX7_host 68 = .ok (.aload_n 0, 1) := by decide +kernel
theorem dX7_host_69 : decode cX7_host 69 = .ok (.getfield 10, 3) := by decide +kernel
theorem dX7_host_72 : decode cX7_host 72 = .ok (.iload_n 1, 1) := by decide +kernel
theorem dX7_host_73 : decode cX7_host 73 = .ok (.invokevirtual 151, 3) := by decide +kernel
theorem dX7_host_76 : decode cX7_host 76 = .ok (.ireturn, 1) := by decide +kernel
theorem dX7_host_77 : decode cX7_host 77 = .ok (.aload_n 0, 1) := by decide +kernel
theorem dX7_host_78 : decode cX7_host 78 = .ok (.getfield 10, 3) := by decide +kernel
theorem dX7_host_81 : decode cX7_host 81 = .ok (.getfield 155, 3) := by decide +kernel
theorem dX7_host_84 : decode cX7_host 84 = .ok (.iload_n 1, 1) := by decide +kernel
theorem dX7_host_85 : decode cX7_host 85 = .ok (.iaload, 1) := by decide +kernel
theorem dX7_host_86 : decode cX7_host 86 = .ok (.ireturn, 1) := by decide +kernel
theorem dX7_host_87 : decode cX7_host 87 = .ok (.aload_n 0, 1) := by decide +kernel
theorem dX7_host_88 : decode cX7_host 88 = .ok (.getfield 10, 3) := by decide +kernel
theorem dX7_host_91 : decode cX7_host 91 = .ok (.getfield 158, 3) := by decide +kernel
theorem dX7_host_94 : decode cX7_host 94 = .ok (.iload_n 1, 1) := by decide +kernel
theorem dX7_host_95 : decode cX7_host 95 = .ok (.iaload, 1) := by decide +kernel
theorem dX7_host_96 : decode cX7_host 96 = .ok (.ireturn, 1) := by decide +kernel
theorem dX7_host_97 : decode cX7_host 97 = .ok (.aload_n 0, 1) := by decide +kernel
theorem dX7_host_98 : decode cX7_host 98 = .ok (.getfield 10, 3) := by decide +kernel
theorem dX7_host_101 : decode cX7_host 101 = .ok (.getfield 161, 3) := by decide +kernel
theorem dX7_host_104 : decode cX7_host 104 = .ok (.iload_n 1, 1) := by decide +kernel
theorem dX7_host_105 : decode cX7_host 105 = .ok (.iaload, 1) := by decide +kernel
theorem dX7_host_106 : decode cX7_host 106 = .ok (.ireturn, 1) := by decide +kernel
theorem dX7_host_107 : decode cX7_host 107 = .ok (.aload_n 0, 1) := by decide +kernel
theorem dX7_host_108 : decode cX7_host 108 = .ok (.getfield 10, 3) := by decide +kernel
theorem dX7_host_111 : decode cX7_host 111 = .ok (.getfield 164, 3) := by decide +kernel
theorem dX7_host_114 : decode cX7_host 114 = .ok (.iload_n 1, 1) := by decide +kernel
theorem dX7_host_115 : decode cX7_host 115 = .ok (.iaload, 1) := by decide +kernel
theorem dX7_host_116 : decode cX7_host 116 = .ok (.ireturn, 1) := by decide +kernel
theorem dX7_host_117 : decode cX7_host 117 = .ok (.new 138, 3) := by decide +kernel
theorem dX7_host_120 : decode cX7_host 120 = .ok (.dup, 1) := by decide +kernel
theorem dX7_host_121 : decode cX7_host 121 = .ok (.invokespecial 140, 3) := by decide +kernel
theorem dX7_host_124 : decode cX7_host 124 = .ok (.athrow, 1) := by decide +kernel
theorem dX7_holder_0 : decode cX7_holder 0 = .ok (.iload_n 1, 1) := by decide +kernel
theorem dX7_holder_1 : decode cX7_holder 1 = .ok (.invokestatic 175, 3) := by decide +kernel
theorem dX7_holder_4 : decode cX7_holder 4 = .ok (.iload_n 2, 1) := by decide +kernel
theorem dX7_holder_5 : decode cX7_holder 5 = .ok (.invokestatic 178, 3) := by decide +kernel
theorem dX7_holder_8 : decode cX7_holder 8 = .ok (.aload_n 0, 1) := by decide +kernel
theorem dX7_holder_9 : decode cX7_holder 9 = .ok (.getfield 10, 3) := by decide +kernel
theorem dX7_holder_12 : decode cX7_holder 12 = .ok (.iload_n 1, 1) := by decide +kernel
theorem dX7_holder_13 : decode cX7_holder 13 = .ok (.iload_n 2, 1) := by decide +kernel
theorem dX7_holder_14 : decode cX7_holder 14 = .ok (.invokevirtual 181, 3) := by decide +kernel
theorem dX7_holder_17 : decode cX7_holder 17 = .ok (.ireturn, 1) := by decide +kernel
theorem dX7_clash_0 : decode cX7_clash 0 = .ok (.aload_n 0, 1) := by decide +kernel
theorem dX7_clash_1 : decode cX7_clash 1 = .ok (.getfield 32, 3) := by decide +kernel
theorem dX7_clash_4 : decode cX7_clash 4 = .ok (.aload_n 0, 1) := by decide +kernel
theorem dX7_clash_5 : decode cX7_clash 5 = .ok (.getfield 10, 3) := by decide +kernel
theorem dX7_clash_8 : decode cX7_clash 8 = .ok (.invokevirtual 185, 3) := by decide +kernel
theorem dX7_clash_11 : decode cX7_clash 11 = .ok (.aload_n 0, 1) := by decide +kernel
theorem dX7_clash_12 : decode cX7_clash 12 = .ok (.getfield 32, 3) := by decide +kernel
theorem dX7_clash_15 : decode cX7_clash 15 = .ok (.iload_n 1, 1) := by decide +kernel
theorem dX7_clash_16 : decode cX7_clash 16 = .ok (.invokevirtual 188, 3) := by decide +kernel
theorem dX7_clash_19 : decode cX7_clash 19 = .ok (.istore_n 2, 1) := by decide +kernel
theorem dX7_clash_20 : decode cX7_clash 20 = .ok (.iload_n 2, 1) := by decide +kernel
theorem dX7_clash_21 : decode cX7_clash 21 = .ok (.ifCond .ne 11, 3) := by decide +kernel
theorem dX7_clash_24 : decode cX7_clash 24 = .ok (.new 138, 3) := by decide +kernel
theorem dX7_clash_27 : decode cX7_clash 27 = .ok (.dup, 1) := by decide +kernel
theorem dX7_clash_28 : decode cX7_clash 28 = .ok (.invokespecial 140, 3) := by decide +kernel
theorem dX7_clash_31 : decode cX7_clash 31 = .ok (.athrow, 1) := by decide +kernel
theorem dX7_clash_32 : decode cX7_clash 32 = .ok (.iload_n 2, 1) := by decide +kernel
theorem dX7_clash_33 : decode cX7_clash 33 = .ok (.ireturn, 1) := by decide +kernel
theorem dX7_plans_0 : decode cX7_plans 0 = .ok (.iload_n 1, 1) := by decide +kernel
theorem dX7_plans_1 : decode cX7_plans 1 = .ok (.invokestatic 191, 3) := by decide +kernel
theorem dX7_plans_4 : decode cX7_plans 4 = .ok (.aload_n 0, 1) := by decide +kernel
theorem dX7_plans_5 : decode cX7_plans 5 = .ok (.getfield 10, 3) := by decide +kernel
theorem dX7_plans_8 : decode cX7_plans 8 = .ok (.iload_n 1, 1) := by decide +kernel
theorem dX7_plans_9 : decode cX7_plans 9 = .ok (.invokevirtual 194, 3) := by decide +kernel
theorem dX7_plans_12 : decode cX7_plans 12 = .ok (.ireturn, 1) := by decide +kernel
theorem dX7_whyNot_0 : decode cX7_whyNot 0 = .ok (.aload_n 0, 1) := by decide +kernel
theorem dX7_whyNot_1 : decode cX7_whyNot 1 = .ok (.getfield 16, 3) := by decide +kernel
theorem dX7_whyNot_4 : decode cX7_whyNot 4 = .ok (.aload_n 0, 1) := by decide +kernel
theorem dX7_whyNot_5 : decode cX7_whyNot 5 = .ok (.getfield 10, 3) := by decide +kernel
theorem dX7_whyNot_8 : decode cX7_whyNot 8 = .ok (.invokevirtual 95, 3) := by decide +kernel
theorem dX7_whyNot_11 : decode cX7_whyNot 11 = .ok (.iconst 0, 1) := by decide +kernel
theorem dX7_whyNot_12 : decode cX7_whyNot 12 = .ok (.aload_n 0, 1) := by decide +kernel
theorem dX7_whyNot_13 : decode cX7_whyNot 13 = .ok (.invokevirtual 226, 3) := by decide +kernel
theorem dX7_whyNot_16 : decode cX7_whyNot 16 = .ok (.invokestatic 229, 3) := by decide +kernel
theorem dX7_whyNot_19 : decode cX7_whyNot 19 = .ok (.ireturn, 1) := by decide +kernel
theorem dX7_addHost_0 : decode cX7_addHost 0 = .ok (.iload_n 1, 1) := by decide +kernel
theorem dX7_addHost_1 : decode cX7_addHost 1 = .ok (.invokestatic 175, 3) := by decide +kernel
theorem dX7_addHost_4 : decode cX7_addHost 4 = .ok (.iload_n 2, 1) := by decide +kernel
theorem dX7_addHost_5 : decode cX7_addHost 5 = .ok (.invokestatic 178, 3) := by decide +kernel
theorem dX7_addHost_8 : decode cX7_addHost 8 = .ok (.aload_n 0, 1) := by decide +kernel
theorem dX7_addHost_9 : decode cX7_addHost 9 = .ok (.getfield 10, 3) := by decide +kernel
theorem dX7_addHost_12 : decode cX7_addHost 12 = .ok (.getfield 104, 3) := by decide +kernel
theorem dX7_addHost_15 : decode cX7_addHost 15 = .ok (.bipush 40, 2) := by decide +kernel
theorem dX7_addHost_17 : decode cX7_addHost 17 = .ok (.if_icmp .lt 6, 3) := by decide +kernel
theorem dX7_addHost_20 : decode cX7_addHost 20 = .ok (.bipush (-2), 2) := by decide +kernel
theorem dX7_addHost_22 : decode cX7_addHost 22 = .ok (.ireturn, 1) := by decide +kernel
theorem dX7_addHost_23 : decode cX7_addHost 23 = .ok (.aload_n 0, 1) := by decide +kernel
theorem dX7_addHost_24 : decode cX7_addHost 24 = .ok (.getfield 10, 3) := by decide +kernel
theorem dX7_addHost_27 : decode cX7_addHost 27 = .ok (.iload_n 1, 1) := by decide +kernel
theorem dX7_addHost_28 : decode cX7_addHost 28 = .ok (.iload_n 2, 1) := by decide +kernel
theorem dX7_addHost_29 : decode cX7_addHost 29 = .ok (.invokevirtual 246, 3) := by decide +kernel
theorem dX7_addHost_32 : decode cX7_addHost 32 = .ok (.iconst (-1), 1) := by decide +kernel
theorem dX7_addHost_33 : decode cX7_addHost 33 = .ok (.if_icmp .eq 6, 3) := by decide +kernel
theorem dX7_addHost_36 : decode cX7_addHost 36 = .ok (.bipush (-3), 2) := by decide +kernel
theorem dX7_addHost_38 : decode cX7_addHost 38 = .ok (.ireturn, 1) := by decide +kernel
theorem dX7_addHost_39 : decode cX7_addHost 39 = .ok (.aload_n 0, 1) := by decide +kernel
theorem dX7_addHost_40 : decode cX7_addHost 40 = .ok (.getfield 25, 3) := by decide +kernel
theorem dX7_addHost_43 : decode cX7_addHost 43 = .ok (.aload_n 0, 1) := by decide +kernel
theorem dX7_addHost_44 : decode cX7_addHost 44 = .ok (.getfield 10, 3) := by decide +kernel
theorem dX7_addHost_47 : decode cX7_addHost 47 = .ok (.invokevirtual 249, 3) := by decide +kernel
theorem dX7_addHost_50 : decode cX7_addHost 50 = .ok (.aload_n 0, 1) := by decide +kernel
theorem dX7_addHost_51 : decode cX7_addHost 51 = .ok (.getfield 10, 3) := by decide +kernel
theorem dX7_addHost_54 : decode cX7_addHost 54 = .ok (.lconst 0, 1) := by decide +kernel
theorem dX7_addHost_55 : decode cX7_addHost 55 = .ok (.iload_n 1, 1) := by decide +kernel
theorem dX7_addHost_56 : decode cX7_addHost 56 = .ok (.iload_n 2, 1) := by decide +kernel
theorem dX7_addHost_57 : decode cX7_addHost 57 = .ok (.invokevirtual 252, 3) := by decide +kernel
theorem dX7_addHost_60 : decode cX7_addHost 60 = .ok (.ireturn, 1) := by decide +kernel
theorem dX7_removeHost_0 : decode cX7_removeHost 0 = .ok (.aload_n 0, 1) := by decide +kernel
theorem dX7_removeHost_1 : decode cX7_removeHost 1 = .ok (.iload_n 1, 1) := by decide +kernel
theorem dX7_removeHost_2 : decode cX7_removeHost 2 = .ok (.invokevirtual 141, 3) := by decide +kernel
theorem dX7_removeHost_5 : decode cX7_removeHost 5 = .ok (.aload_n 0, 1) := by decide +kernel
theorem dX7_removeHost_6 : decode cX7_removeHost 6 = .ok (.getfield 25, 3) := by decide +kernel
theorem dX7_removeHost_9 : decode cX7_removeHost 9 = .ok (.aload_n 0, 1) := by decide +kernel
theorem dX7_removeHost_10 : decode cX7_removeHost 10 = .ok (.getfield 10, 3) := by decide +kernel
theorem dX7_removeHost_13 : decode cX7_removeHost 13 = .ok (.invokevirtual 249, 3) := by decide +kernel
theorem dX7_removeHost_16 : decode cX7_removeHost 16 = .ok (.aload_n 0, 1) := by decide +kernel
theorem dX7_removeHost_17 : decode cX7_removeHost 17 = .ok (.getfield 10, 3) := by decide +kernel
theorem dX7_removeHost_20 : decode cX7_removeHost 20 = .ok (.iload_n 1, 1) := by decide +kernel
theorem dX7_removeHost_21 : decode cX7_removeHost 21 = .ok (.invokevirtual 256, 3) := by decide +kernel
theorem dX7_removeHost_24 : decode cX7_removeHost 24 = .ok (.aload_n 0, 1) := by decide +kernel
theorem dX7_removeHost_25 : decode cX7_removeHost 25 = .ok (.getfield 10, 3) := by decide +kernel
theorem dX7_removeHost_28 : decode cX7_removeHost 28 = .ok (.getfield 104, 3) := by decide +kernel
theorem dX7_removeHost_31 : decode cX7_removeHost 31 = .ok (.ireturn, 1) := by decide +kernel
theorem dX7_plan_0 : decode cX7_plan 0 = .ok (.aload_n 0, 1) := by decide +kernel
theorem dX7_plan_1 : decode cX7_plan 1 = .ok (.iload_n 1, 1) := by decide +kernel
theorem dX7_plan_2 : decode cX7_plan 2 = .ok (.invokevirtual 141, 3) := by decide +kernel
theorem dX7_plan_5 : decode cX7_plan 5 = .ok (.iload_n 2, 1) := by decide +kernel
theorem dX7_plan_6 : decode cX7_plan 6 = .ok (.invokestatic 178, 3) := by decide +kernel
theorem dX7_plan_9 : decode cX7_plan 9 = .ok (.iload_n 3, 1) := by decide +kernel
theorem dX7_plan_10 : decode cX7_plan 10 = .ok (.invokestatic 191, 3) := by decide +kernel
theorem dX7_plan_13 : decode cX7_plan 13 = .ok (.aload_n 0, 1) := by decide +kernel
theorem dX7_plan_14 : decode cX7_plan 14 = .ok (.getfield 10, 3) := by decide +kernel
theorem dX7_plan_17 : decode cX7_plan 17 = .ok (.getfield 155, 3) := by decide +kernel
theorem dX7_plan_20 : decode cX7_plan 20 = .ok (.iload_n 1, 1) := by decide +kernel
theorem dX7_plan_21 : decode cX7_plan 21 = .ok (.iaload, 1) := by decide +kernel
theorem dX7_plan_22 : decode cX7_plan 22 = .ok (.iconst 1, 1) := by decide +kernel
theorem dX7_plan_23 : decode cX7_plan 23 = .ok (.if_icmp .ne 6, 3) := by decide +kernel
theorem dX7_plan_26 : decode cX7_plan 26 = .ok (.bipush (-2), 2) := by decide +kernel
theorem dX7_plan_28 : decode cX7_plan 28 = .ok (.ireturn, 1) := by decide +kernel
theorem dX7_plan_29 : decode cX7_plan 29 = .ok (.iload_n 3, 1) := by decide +kernel
theorem dX7_plan_30 : decode cX7_plan 30 = .ok (.aload_n 0, 1) := by decide +kernel
theorem dX7_plan_31 : decode cX7_plan 31 = .ok (.getfield 10, 3) := by decide +kernel
theorem dX7_plan_34 : decode cX7_plan 34 = .ok (.getfield 113, 3) := by decide +kernel
theorem dX7_plan_37 : decode cX7_plan 37 = .ok (.if_icmp .gt 6, 3) := by decide +kernel
theorem dX7_plan_40 : decode cX7_plan 40 = .ok (.bipush (-3), 2) := by decide +kernel
theorem dX7_plan_42 : decode cX7_plan 42 = .ok (.ireturn, 1) := by decide +kernel
theorem dX7_plan_43 : decode cX7_plan 43 = .ok (.aload_n 0, 1) := by decide +kernel
theorem dX7_plan_44 : decode cX7_plan 44 = .ok (.getfield 10, 3) := by decide +kernel
theorem dX7_plan_47 : decode cX7_plan 47 = .ok (.iload_n 3, 1) := by decide +kernel
theorem dX7_plan_48 : decode cX7_plan 48 = .ok (.invokevirtual 194, 3) := by decide +kernel
theorem dX7_plan_51 : decode cX7_plan 51 = .ok (.aload_n 0, 1) := by decide +kernel
theorem dX7_plan_52 : decode cX7_plan 52 = .ok (.getfield 10, 3) := by decide +kernel
theorem dX7_plan_55 : decode cX7_plan 55 = .ok (.getfield 161, 3) := by decide +kernel
theorem dX7_plan_58 : decode cX7_plan 58 = .ok (.iload_n 1, 1) := by decide +kernel
theorem dX7_plan_59 : decode cX7_plan 59 = .ok (.iaload, 1) := by decide +kernel
theorem dX7_plan_60 : decode cX7_plan 60 = .ok (.iload_n 3, 1) := by decide +kernel
theorem dX7_plan_61 : decode cX7_plan 61 = .ok (.if_icmp .ne 7, 3) := by decide +kernel
theorem dX7_plan_64 : decode cX7_plan 64 = .ok (.iconst 1, 1) := by decide +kernel
theorem dX7_plan_65 : decode cX7_plan 65 = .ok (.goto 4, 3) := by decide +kernel
theorem dX7_plan_68 : decode cX7_plan 68 = .ok (.iconst 0, 1) := by decide +kernel
theorem dX7_plan_69 : decode cX7_plan 69 = .ok (.isub, 1) := by decide +kernel
theorem dX7_plan_70 : decode cX7_plan 70 = .ok (.istore 4, 2) := by decide +kernel
theorem dX7_plan_72 : decode cX7_plan 72 = .ok (.iload 4, 2) := by decide +kernel
theorem dX7_plan_74 : decode cX7_plan 74 = .ok (.aload_n 0, 1) := by decide +kernel
theorem dX7_plan_75 : decode cX7_plan 75 = .ok (.getfield 10, 3) := by decide +kernel
theorem dX7_plan_78 : decode cX7_plan 78 = .ok (.getfield 119, 3) := by decide +kernel
theorem dX7_plan_81 : decode cX7_plan 81 = .ok (.if_icmp .lt 6, 3) := by decide +kernel
theorem dX7_plan_84 : decode cX7_plan 84 = .ok (.bipush (-4), 2) := by decide +kernel
theorem dX7_plan_86 : decode cX7_plan 86 = .ok (.ireturn, 1) := by decide +kernel
theorem dX7_plan_87 : decode cX7_plan 87 = .ok (.aload_n 0, 1) := by decide +kernel
theorem dX7_plan_88 : decode cX7_plan 88 = .ok (.getfield 25, 3) := by decide +kernel
theorem dX7_plan_91 : decode cX7_plan 91 = .ok (.aload_n 0, 1) := by decide +kernel
theorem dX7_plan_92 : decode cX7_plan 92 = .ok (.getfield 10, 3) := by decide +kernel
theorem dX7_plan_95 : decode cX7_plan 95 = .ok (.invokevirtual 249, 3) := by decide +kernel
theorem dX7_plan_98 : decode cX7_plan 98 = .ok (.aload_n 0, 1) := by decide +kernel
theorem dX7_plan_99 : decode cX7_plan 99 = .ok (.getfield 10, 3) := by decide +kernel
theorem dX7_plan_102 : decode cX7_plan 102 = .ok (.iload_n 1, 1) := by decide +kernel
theorem dX7_plan_103 : decode cX7_plan 103 = .ok (.iload_n 2, 1) := by decide +kernel
theorem dX7_plan_104 : decode cX7_plan 104 = .ok (.iload_n 3, 1) := by decide +kernel
theorem dX7_plan_105 : decode cX7_plan 105 = .ok (.invokevirtual 259, 3) := by decide +kernel
theorem dX7_plan_108 : decode cX7_plan 108 = .ok (.iload 4, 2) := by decide +kernel
theorem dX7_plan_110 : decode cX7_plan 110 = .ok (.iconst 1, 1) := by decide +kernel
theorem dX7_plan_111 : decode cX7_plan 111 = .ok (.iadd, 1) := by decide +kernel
theorem dX7_plan_112 : decode cX7_plan 112 = .ok (.ireturn, 1) := by decide +kernel
theorem dX7_unplan_0 : decode cX7_unplan 0 = .ok (.aload_n 0, 1) := by decide +kernel
theorem dX7_unplan_1 : decode cX7_unplan 1 = .ok (.iload_n 1, 1) := by decide +kernel
theorem dX7_unplan_2 : decode cX7_unplan 2 = .ok (.invokevirtual 141, 3) := by decide +kernel
theorem dX7_unplan_5 : decode cX7_unplan 5 = .ok (.aload_n 0, 1) := by decide +kernel
theorem dX7_unplan_6 : decode cX7_unplan 6 = .ok (.getfield 25, 3) := by decide +kernel
theorem dX7_unplan_9 : decode cX7_unplan 9 = .ok (.aload_n 0, 1) := by decide +kernel
theorem dX7_unplan_10 : decode cX7_unplan 10 = .ok (.getfield 10, 3) := by decide +kernel
theorem dX7_unplan_13 : decode cX7_unplan 13 = .ok (.invokevirtual 249, 3) := by decide +kernel
theorem dX7_unplan_16 : decode cX7_unplan 16 = .ok (.aload_n 0, 1) := by decide +kernel
theorem dX7_unplan_17 : decode cX7_unplan 17 = .ok (.getfield 10, 3) := by decide +kernel
theorem dX7_unplan_20 : decode cX7_unplan 20 = .ok (.getfield 161, 3) := by decide +kernel
theorem dX7_unplan_23 : decode cX7_unplan 23 = .ok (.iload_n 1, 1) := by decide +kernel
theorem dX7_unplan_24 : decode cX7_unplan 24 = .ok (.iaload, 1) := by decide +kernel
theorem dX7_unplan_25 : decode cX7_unplan 25 = .ok (.istore_n 2, 1) := by decide +kernel
theorem dX7_unplan_26 : decode cX7_unplan 26 = .ok (.aload_n 0, 1) := by decide +kernel
theorem dX7_unplan_27 : decode cX7_unplan 27 = .ok (.getfield 10, 3) := by decide +kernel
theorem dX7_unplan_30 : decode cX7_unplan 30 = .ok (.iload_n 1, 1) := by decide +kernel
theorem dX7_unplan_31 : decode cX7_unplan 31 = .ok (.iconst 0, 1) := by decide +kernel
theorem dX7_unplan_32 : decode cX7_unplan 32 = .ok (.iconst 0, 1) := by decide +kernel
theorem dX7_unplan_33 : decode cX7_unplan 33 = .ok (.invokevirtual 259, 3) := by decide +kernel
theorem dX7_unplan_36 : decode cX7_unplan 36 = .ok (.iload_n 2, 1) := by decide +kernel
theorem dX7_unplan_37 : decode cX7_unplan 37 = .ok (.ireturn, 1) := by decide +kernel
theorem dX7_settle_0 : decode cX7_settle 0 = .ok (.aload_n 0, 1) := by decide +kernel
theorem dX7_settle_1 : decode cX7_settle 1 = .ok (.getfield 25, 3) := by decide +kernel
theorem dX7_settle_4 : decode cX7_settle 4 = .ok (.aload_n 0, 1) := by decide +kernel
theorem dX7_settle_5 : decode cX7_settle 5 = .ok (.getfield 10, 3) := by decide +kernel
theorem dX7_settle_8 : decode cX7_settle 8 = .ok (.invokevirtual 249, 3) := by decide +kernel
theorem dX7_settle_11 : decode cX7_settle 11 = .ok (.aload_n 0, 1) := by decide +kernel
theorem dX7_settle_12 : decode cX7_settle 12 = .ok (.getfield 32, 3) := by decide +kernel
theorem dX7_settle_15 : decode cX7_settle 15 = .ok (.aload_n 0, 1) := by decide +kernel
theorem dX7_settle_16 : decode cX7_settle 16 = .ok (.getfield 10, 3) := by decide +kernel
theorem dX7_settle_19 : decode cX7_settle 19 = .ok (.invokevirtual 185, 3) := by decide +kernel
theorem dX7_settle_22 : decode cX7_settle 22 = .ok (.iconst 0, 1) := by decide +kernel
theorem dX7_settle_23 : decode cX7_settle 23 = .ok (.istore_n 1, 1) := by decide +kernel
theorem dX7_settle_24 : decode cX7_settle 24 = .ok (.iconst 1, 1) := by decide +kernel
theorem dX7_settle_25 : decode cX7_settle 25 = .ok (.istore_n 2, 1) := by decide +kernel
theorem dX7_settle_26 : decode cX7_settle 26 = .ok (.iload_n 2, 1) := by decide +kernel
theorem dX7_settle_27 : decode cX7_settle 27 = .ok (.sipush 250, 3) := by decide +kernel
theorem dX7_settle_30 : decode cX7_settle 30 = .ok (.if_icmp .gt 118, 3) := by decide +kernel
theorem dX7_settle_33 : decode cX7_settle 33 = .ok (.aload_n 0, 1) := by decide +kernel
theorem dX7_settle_34 : decode cX7_settle 34 = .ok (.getfield 32, 3) := by decide +kernel
theorem dX7_settle_37 : decode cX7_settle 37 = .ok (.iload_n 2, 1) := by decide +kernel
theorem dX7_settle_38 : decode cX7_settle 38 = .ok (.invokevirtual 263, 3) := by decide +kernel
theorem dX7_settle_41 : decode cX7_settle 41 = .ok (.ifCond .eq 14, 3) := by decide +kernel
theorem dX7_settle_44 : decode cX7_settle 44 = .ok (.aload_n 0, 1) := by decide +kernel
theorem dX7_settle_45 : decode cX7_settle 45 = .ok (.getfield 10, 3) := by decide +kernel
theorem dX7_settle_48 : decode cX7_settle 48 = .ok (.iload_n 2, 1) := by decide +kernel
theorem dX7_settle_49 : decode cX7_settle 49 = .ok (.invokevirtual 266, 3) := by decide +kernel
theorem dX7_settle_52 : decode cX7_settle 52 = .ok (.goto 4, 3) := by decide +kernel
theorem dX7_settle_55 : decode cX7_settle 55 = .ok (.iconst (-1), 1) := by decide +kernel
theorem dX7_settle_56 : decode cX7_settle 56 = .ok (.istore_n 3, 1) := by decide +kernel
theorem dX7_settle_57 : decode cX7_settle 57 = .ok (.iload_n 3, 1) := by decide +kernel
theorem dX7_settle_58 : decode cX7_settle 58 = .ok (.iconst (-1), 1) := by decide +kernel
theorem dX7_settle_59 : decode cX7_settle 59 = .ok (.if_icmp .eq 83, 3) := by decide +kernel
theorem dX7_settle_62 : decode cX7_settle 62 = .ok (.aload_n 0, 1) := by decide +kernel
theorem dX7_settle_63 : decode cX7_settle 63 = .ok (.getfield 10, 3) := by decide +kernel
theorem dX7_settle_66 : decode cX7_settle 66 = .ok (.getfield 161, 3) := by decide +kernel
theorem dX7_settle_69 : decode cX7_settle 69 = .ok (.iload_n 3, 1) := by decide +kernel
theorem dX7_settle_70 : decode cX7_settle 70 = .ok (.iaload, 1) := by decide +kernel
theorem dX7_settle_71 : decode cX7_settle 71 = .ok (.ifCond .ne 71, 3) := by decide +kernel
theorem dX7_settle_74 : decode cX7_settle 74 = .ok (.aload_n 0, 1) := by decide +kernel
theorem dX7_settle_75 : decode cX7_settle 75 = .ok (.getfield 32, 3) := by decide +kernel
theorem dX7_settle_78 : decode cX7_settle 78 = .ok (.aload_n 0, 1) := by decide +kernel
theorem dX7_settle_79 : decode cX7_settle 79 = .ok (.getfield 10, 3) := by decide +kernel
theorem dX7_settle_82 : decode cX7_settle 82 = .ok (.getfield 122, 3) := by decide +kernel
theorem dX7_settle_85 : decode cX7_settle 85 = .ok (.aload_n 0, 1) := by decide +kernel
theorem dX7_settle_86 : decode cX7_settle 86 = .ok (.getfield 10, 3) := by decide +kernel
theorem dX7_settle_89 : decode cX7_settle 89 = .ok (.getfield 125, 3) := by decide +kernel
theorem dX7_settle_92 : decode cX7_settle 92 = .ok (.invokevirtual 223, 3) := by decide +kernel
theorem dX7_settle_95 : decode cX7_settle 95 = .ok (.istore 4, 2) := by decide +kernel
theorem dX7_settle_97 : decode cX7_settle 97 = .ok (.aload_n 0, 1) := by decide +kernel
theorem dX7_settle_98 : decode cX7_settle 98 = .ok (.getfield 10, 3) := by decide +kernel
theorem dX7_settle_101 : decode cX7_settle 101 = .ok (.invokevirtual 269, 3) := by decide +kernel
theorem dX7_settle_104 : decode cX7_settle 104 = .ok (.istore 5, 2) := by decide +kernel
theorem dX7_settle_106 : decode cX7_settle 106 = .ok (.iload 4, 2) := by decide +kernel
theorem dX7_settle_108 : decode cX7_settle 108 = .ok (.ifCond .eq 8, 3) := by decide +kernel
theorem dX7_settle_111 : decode cX7_settle 111 = .ok (.iload 5, 2) := by decide +kernel
theorem dX7_settle_113 : decode cX7_settle 113 = .ok (.ifCond .ne 5, 3) := by decide +kernel
theorem dX7_settle_116 : decode cX7_settle 116 = .ok (.iload_n 1, 1) := by decide +kernel
theorem dX7_settle_117 : decode cX7_settle 117 = .ok (.ireturn, 1) := by decide +kernel
theorem dX7_settle_118 : decode cX7_settle 118 = .ok (.aload_n 0, 1) := by decide +kernel
theorem dX7_settle_119 : decode cX7_settle 119 = .ok (.getfield 10, 3) := by decide +kernel
theorem dX7_settle_122 : decode cX7_settle 122 = .ok (.iload_n 3, 1) := by decide +kernel
theorem dX7_settle_123 : decode cX7_settle 123 = .ok (.iload 4, 2) := by decide +kernel
theorem dX7_settle_125 : decode cX7_settle 125 = .ok (.iload 5, 2) := by decide +kernel
theorem dX7_settle_127 : decode cX7_settle 127 = .ok (.invokevirtual 259, 3) := by decide +kernel
theorem dX7_settle_130 : decode cX7_settle 130 = .ok (.aload_n 0, 1) := by decide +kernel
theorem dX7_settle_131 : decode cX7_settle 131 = .ok (.getfield 32, 3) := by decide +kernel
theorem dX7_settle_134 : decode cX7_settle 134 = .ok (.iload 4, 2) := by decide +kernel
theorem dX7_settle_136 : decode cX7_settle 136 = .ok (.invokevirtual 272, 3) := by decide +kernel
theorem dX7_settle_139 : decode cX7_settle 139 = .ok (.iinc 1 1, 3) := by decide +kernel
theorem dX7_settle_142 : decode cX7_settle 142 = .ok (.iinc 2 1, 3) := by decide +kernel
theorem dX7_settle_145 : decode cX7_settle 145 = .ok (.goto (-119), 3) := by decide +kernel
theorem dX7_settle_148 : decode cX7_settle 148 = .ok (.iload_n 1, 1) := by decide +kernel
theorem dX7_settle_149 : decode cX7_settle 149 = .ok (.ireturn, 1) := by decide +kernel
theorem dX7_wave_0 : decode cX7_wave 0 = .ok (.aload_n 0, 1) := by decide +kernel
theorem dX7_wave_1 : decode cX7_wave 1 = .ok (.getfield 16, 3) := by decide +kernel
theorem dX7_wave_4 : decode cX7_wave 4 = .ok (.aload_n 0, 1) := by decide +kernel
theorem dX7_wave_5 : decode cX7_wave 5 = .ok (.getfield 10, 3) := by decide +kernel
theorem dX7_wave_8 : decode cX7_wave 8 = .ok (.invokevirtual 95, 3) := by decide +kernel
theorem dX7_wave_11 : decode cX7_wave 11 = .ok (.aload_n 0, 1) := by decide +kernel
theorem dX7_wave_12 : decode cX7_wave 12 = .ok (.invokevirtual 226, 3) := by decide +kernel
theorem dX7_wave_15 : decode cX7_wave 15 = .ok (.istore_n 1, 1) := by decide +kernel
theorem dX7_wave_16 : decode cX7_wave 16 = .ok (.iload_n 1, 1) := by decide +kernel
theorem dX7_wave_17 : decode cX7_wave 17 = .ok (.ifCond .lt 7, 3) := by decide +kernel
theorem dX7_wave_20 : decode cX7_wave 20 = .ok (.aload_n 0, 1) := by decide +kernel
theorem dX7_wave_21 : decode cX7_wave 21 = .ok (.invokevirtual 275, 3) := by decide +kernel
theorem dX7_wave_24 : decode cX7_wave 24 = .ok (.iload_n 1, 1) := by decide +kernel
theorem dX7_wave_25 : decode cX7_wave 25 = .ok (.ireturn, 1) := by decide +kernel
theorem dX7_back_0 : decode cX7_back 0 = .ok (.aload_n 0, 1) := by decide +kernel
theorem dX7_back_1 : decode cX7_back 1 = .ok (.getfield 10, 3) := by decide +kernel
theorem dX7_back_4 : decode cX7_back 4 = .ok (.getfield 113, 3) := by decide +kernel
theorem dX7_back_7 : decode cX7_back 7 = .ok (.ifCond .ne 6, 3) := by decide +kernel
theorem dX7_back_10 : decode cX7_back 10 = .ok (.bipush (-2), 2) := by decide +kernel
theorem dX7_back_12 : decode cX7_back 12 = .ok (.ireturn, 1) := by decide +kernel
theorem dX7_back_13 : decode cX7_back 13 = .ok (.aload_n 0, 1) := by decide +kernel
theorem dX7_back_14 : decode cX7_back 14 = .ok (.getfield 16, 3) := by decide +kernel
theorem dX7_back_17 : decode cX7_back 17 = .ok (.aload_n 0, 1) := by decide +kernel
theorem dX7_back_18 : decode cX7_back 18 = .ok (.getfield 10, 3) := by decide +kernel
theorem dX7_back_21 : decode cX7_back 21 = .ok (.invokevirtual 95, 3) := by decide +kernel
theorem dX7_back_24 : decode cX7_back 24 = .ok (.aload_n 0, 1) := by decide +kernel
theorem dX7_back_25 : decode cX7_back 25 = .ok (.getfield 16, 3) := by decide +kernel
theorem dX7_back_28 : decode cX7_back 28 = .ok (.invokevirtual 278, 3) := by decide +kernel
theorem dX7_back_31 : decode cX7_back 31 = .ok (.aload_n 0, 1) := by decide +kernel
theorem dX7_back_32 : decode cX7_back 32 = .ok (.aload_n 0, 1) := by decide +kernel
theorem dX7_back_33 : decode cX7_back 33 = .ok (.getfield 16, 3) := by decide +kernel
theorem dX7_back_36 : decode cX7_back 36 = .ok (.invokevirtual 237, 3) := by decide +kernel
theorem dX7_back_39 : decode cX7_back 39 = .ok (.ifCond .eq 6, 3) := by decide +kernel
theorem dX7_back_42 : decode cX7_back 42 = .ok (.bipush (-3), 2) := by decide +kernel
theorem dX7_back_44 : decode cX7_back 44 = .ok (.ireturn, 1) := by decide +kernel
theorem dX7_back_45 : decode cX7_back 45 = .ok (.aload_n 0, 1) := by decide +kernel
theorem dX7_back_46 : decode cX7_back 46 = .ok (.invokevirtual 275, 3) := by decide +kernel
theorem dX7_back_49 : decode cX7_back 49 = .ok (.aload_n 0, 1) := by decide +kernel
theorem dX7_back_50 : decode cX7_back 50 = .ok (.getfield 10, 3) := by decide +kernel
theorem dX7_back_53 : decode cX7_back 53 = .ok (.getfield 113, 3) := by decide +kernel
theorem dX7_back_56 : decode cX7_back 56 = .ok (.ireturn, 1) := by decide +kernel
theorem dX7_open_0 : decode cX7_open 0 = .ok (.aload_n 0, 1) := by decide +kernel
theorem dX7_open_1 : decode cX7_open 1 = .ok (.getfield 10, 3) := by decide +kernel
theorem dX7_open_4 : decode cX7_open 4 = .ok (.getfield 128, 3) := by decide +kernel
theorem dX7_open_7 : decode cX7_open 7 = .ok (.ifCond .eq 6, 3) := by decide +kernel
theorem dX7_open_10 : decode cX7_open 10 = .ok (.bipush (-2), 2) := by decide +kernel
theorem dX7_open_12 : decode cX7_open 12 = .ok (.ireturn, 1) := by decide +kernel
theorem dX7_open_13 : decode cX7_open 13 = .ok (.aload_n 0, 1) := by decide +kernel
theorem dX7_open_14 : decode cX7_open 14 = .ok (.aload_n 0, 1) := by decide +kernel
theorem dX7_open_15 : decode cX7_open 15 = .ok (.getfield 10, 3) := by decide +kernel
theorem dX7_open_18 : decode cX7_open 18 = .ok (.invokevirtual 131, 3) := by decide +kernel
theorem dX7_open_21 : decode cX7_open 21 = .ok (.ifCond .le 6, 3) := by decide +kernel
theorem dX7_open_24 : decode cX7_open 24 = .ok (.bipush (-3), 2) := by decide +kernel
theorem dX7_open_26 : decode cX7_open 26 = .ok (.ireturn, 1) := by decide +kernel
theorem dX7_open_27 : decode cX7_open 27 = .ok (.aload_n 0, 1) := by decide +kernel
theorem dX7_open_28 : decode cX7_open 28 = .ok (.getfield 25, 3) := by decide +kernel
theorem dX7_open_31 : decode cX7_open 31 = .ok (.aload_n 0, 1) := by decide +kernel
theorem dX7_open_32 : decode cX7_open 32 = .ok (.getfield 10, 3) := by decide +kernel
theorem dX7_open_35 : decode cX7_open 35 = .ok (.invokevirtual 249, 3) := by decide +kernel
theorem dX7_open_38 : decode cX7_open 38 = .ok (.aload_n 0, 1) := by decide +kernel
theorem dX7_open_39 : decode cX7_open 39 = .ok (.getfield 10, 3) := by decide +kernel
theorem dX7_open_42 : decode cX7_open 42 = .ok (.iconst 1, 1) := by decide +kernel
theorem dX7_open_43 : decode cX7_open 43 = .ok (.putfield 128, 3) := by decide +kernel
theorem dX7_open_46 : decode cX7_open 46 = .ok (.aload_n 0, 1) := by decide +kernel
theorem dX7_open_47 : decode cX7_open 47 = .ok (.getfield 10, 3) := by decide +kernel
theorem dX7_open_50 : decode cX7_open 50 = .ok (.getfield 104, 3) := by decide +kernel
theorem dX7_open_53 : decode cX7_open 53 = .ok (.ireturn, 1) := by decide +kernel
theorem dX7_close_0 : decode cX7_close 0 = .ok (.aload_n 0, 1) := by decide +kernel
theorem dX7_close_1 : decode cX7_close 1 = .ok (.getfield 10, 3) := by decide +kernel
theorem dX7_close_4 : decode cX7_close 4 = .ok (.getfield 128, 3) := by decide +kernel
theorem dX7_close_7 : decode cX7_close 7 = .ok (.ifCond .ne 6, 3) := by decide +kernel
theorem dX7_close_10 : decode cX7_close 10 = .ok (.bipush (-2), 2) := by decide +kernel
theorem dX7_close_12 : decode cX7_close 12 = .ok (.ireturn, 1) := by decide +kernel
theorem dX7_close_13 : decode cX7_close 13 = .ok (.aload_n 0, 1) := by decide +kernel
theorem dX7_close_14 : decode cX7_close 14 = .ok (.getfield 25, 3) := by decide +kernel
theorem dX7_close_17 : decode cX7_close 17 = .ok (.aload_n 0, 1) := by decide +kernel
theorem dX7_close_18 : decode cX7_close 18 = .ok (.getfield 10, 3) := by decide +kernel
theorem dX7_close_21 : decode cX7_close 21 = .ok (.invokevirtual 249, 3) := by decide +kernel
theorem dX7_close_24 : decode cX7_close 24 = .ok (.aload_n 0, 1) := by decide +kernel
theorem dX7_close_25 : decode cX7_close 25 = .ok (.getfield 10, 3) := by decide +kernel
theorem dX7_close_28 : decode cX7_close 28 = .ok (.iconst 0, 1) := by decide +kernel
theorem dX7_close_29 : decode cX7_close 29 = .ok (.putfield 128, 3) := by decide +kernel
theorem dX7_close_32 : decode cX7_close 32 = .ok (.aload_n 0, 1) := by decide +kernel
theorem dX7_close_33 : decode cX7_close 33 = .ok (.getfield 10, 3) := by decide +kernel
theorem dX7_close_36 : decode cX7_close 36 = .ok (.iconst 0, 1) := by decide +kernel
theorem dX7_close_37 : decode cX7_close 37 = .ok (.invokevirtual 281, 3) := by decide +kernel
theorem dX7_close_40 : decode cX7_close 40 = .ok (.ireturn, 1) := by decide +kernel
theorem dX7_addRule_0 : decode cX7_addRule 0 = .ok (.iload_n 1, 1) := by decide +kernel
theorem dX7_addRule_1 : decode cX7_addRule 1 = .ok (.invokestatic 175, 3) := by decide +kernel
theorem dX7_addRule_4 : decode cX7_addRule 4 = .ok (.iload_n 3, 1) := by decide +kernel
theorem dX7_addRule_5 : decode cX7_addRule 5 = .ok (.invokestatic 284, 3) := by decide +kernel
theorem dX7_addRule_8 : decode cX7_addRule 8 = .ok (.iload 4, 2) := by decide +kernel
theorem dX7_addRule_10 : decode cX7_addRule 10 = .ok (.invokestatic 284, 3) := by decide +kernel
theorem dX7_addRule_13 : decode cX7_addRule 13 = .ok (.aload_n 0, 1) := by decide +kernel
theorem dX7_addRule_14 : decode cX7_addRule 14 = .ok (.getfield 10, 3) := by decide +kernel
theorem dX7_addRule_17 : decode cX7_addRule 17 = .ok (.getfield 107, 3) := by decide +kernel
theorem dX7_addRule_20 : decode cX7_addRule 20 = .ok (.bipush 30, 2) := by decide +kernel
theorem dX7_addRule_22 : decode cX7_addRule 22 = .ok (.if_icmp .lt 6, 3) := by decide +kernel
theorem dX7_addRule_25 : decode cX7_addRule 25 = .ok (.bipush (-2), 2) := by decide +kernel
theorem dX7_addRule_27 : decode cX7_addRule 27 = .ok (.ireturn, 1) := by decide +kernel
theorem dX7_addRule_28 : decode cX7_addRule 28 = .ok (.aload_n 0, 1) := by decide +kernel
theorem dX7_addRule_29 : decode cX7_addRule 29 = .ok (.getfield 25, 3) := by decide +kernel
theorem dX7_addRule_32 : decode cX7_addRule 32 = .ok (.aload_n 0, 1) := by decide +kernel
theorem dX7_addRule_33 : decode cX7_addRule 33 = .ok (.getfield 10, 3) := by decide +kernel
theorem dX7_addRule_36 : decode cX7_addRule 36 = .ok (.invokevirtual 249, 3) := by decide +kernel
theorem dX7_addRule_39 : decode cX7_addRule 39 = .ok (.aload_n 0, 1) := by decide +kernel
theorem dX7_addRule_40 : decode cX7_addRule 40 = .ok (.getfield 10, 3) := by decide +kernel
theorem dX7_addRule_43 : decode cX7_addRule 43 = .ok (.iload_n 1, 1) := by decide +kernel
theorem dX7_addRule_44 : decode cX7_addRule 44 = .ok (.iload_n 2, 1) := by decide +kernel
theorem dX7_addRule_45 : decode cX7_addRule 45 = .ok (.iload_n 3, 1) := by decide +kernel
theorem dX7_addRule_46 : decode cX7_addRule 46 = .ok (.iload 4, 2) := by decide +kernel
theorem dX7_addRule_48 : decode cX7_addRule 48 = .ok (.invokevirtual 287, 3) := by decide +kernel
theorem dX7_addRule_51 : decode cX7_addRule 51 = .ok (.ireturn, 1) := by decide +kernel
theorem dX7_removeRule_0 : decode cX7_removeRule 0 = .ok (.aload_n 0, 1) := by decide +kernel
theorem dX7_removeRule_1 : decode cX7_removeRule 1 = .ok (.iload_n 1, 1) := by decide +kernel
theorem dX7_removeRule_2 : decode cX7_removeRule 2 = .ok (.invokevirtual 197, 3) := by decide +kernel
theorem dX7_removeRule_5 : decode cX7_removeRule 5 = .ok (.aload_n 0, 1) := by decide +kernel
theorem dX7_removeRule_6 : decode cX7_removeRule 6 = .ok (.getfield 25, 3) := by decide +kernel
theorem dX7_removeRule_9 : decode cX7_removeRule 9 = .ok (.aload_n 0, 1) := by decide +kernel
theorem dX7_removeRule_10 : decode cX7_removeRule 10 = .ok (.getfield 10, 3) := by decide +kernel
theorem dX7_removeRule_13 : decode cX7_removeRule 13 = .ok (.invokevirtual 249, 3) := by decide +kernel
theorem dX7_removeRule_16 : decode cX7_removeRule 16 = .ok (.aload_n 0, 1) := by decide +kernel
theorem dX7_removeRule_17 : decode cX7_removeRule 17 = .ok (.getfield 10, 3) := by decide +kernel
theorem dX7_removeRule_20 : decode cX7_removeRule 20 = .ok (.iload_n 1, 1) := by decide +kernel
theorem dX7_removeRule_21 : decode cX7_removeRule 21 = .ok (.invokevirtual 291, 3) := by decide +kernel
theorem dX7_removeRule_24 : decode cX7_removeRule 24 = .ok (.aload_n 0, 1) := by decide +kernel
theorem dX7_removeRule_25 : decode cX7_removeRule 25 = .ok (.getfield 10, 3) := by decide +kernel
theorem dX7_removeRule_28 : decode cX7_removeRule 28 = .ok (.getfield 107, 3) := by decide +kernel
theorem dX7_removeRule_31 : decode cX7_removeRule 31 = .ok (.ireturn, 1) := by decide +kernel
theorem dX7_setKeep_0 : decode cX7_setKeep 0 = .ok (.iload_n 1, 1) := by decide +kernel
theorem dX7_setKeep_1 : decode cX7_setKeep 1 = .ok (.ifCond .lt 8, 3) := by decide +kernel
theorem dX7_setKeep_4 : decode cX7_setKeep 4 = .ok (.iload_n 1, 1) := by decide +kernel
theorem dX7_setKeep_5 : decode cX7_setKeep 5 = .ok (.iconst 3, 1) := by decide +kernel
theorem dX7_setKeep_6 : decode cX7_setKeep 6 = .ok (.if_icmp .le 11, 3) := by decide +kernel
theorem dX7_setKeep_9 : decode cX7_setKeep 9 = .ok (.new 82, 3) := by decide +kernel
theorem dX7_setKeep_12 : decode cX7_setKeep 12 = .ok (.dup, 1) := by decide +kernel
theorem dX7_setKeep_13 : decode cX7_setKeep 13 = .ok (.invokespecial 84, 3) := by decide +kernel
theorem dX7_setKeep_16 : decode cX7_setKeep 16 = .ok (.athrow, 1) := by decide +kernel
theorem dX7_setKeep_17 : decode cX7_setKeep 17 = .ok (.aload_n 0, 1) := by decide +kernel
theorem dX7_setKeep_18 : decode cX7_setKeep 18 = .ok (.getfield 10, 3) := by decide +kernel
theorem dX7_setKeep_21 : decode cX7_setKeep 21 = .ok (.getfield 116, 3) := by decide +kernel
theorem dX7_setKeep_24 : decode cX7_setKeep 24 = .ok (.istore_n 2, 1) := by decide +kernel
theorem dX7_setKeep_25 : decode cX7_setKeep 25 = .ok (.aload_n 0, 1) := by decide +kernel
theorem dX7_setKeep_26 : decode cX7_setKeep 26 = .ok (.getfield 16, 3) := by decide +kernel
theorem dX7_setKeep_29 : decode cX7_setKeep 29 = .ok (.aload_n 0, 1) := by decide +kernel
theorem dX7_setKeep_30 : decode cX7_setKeep 30 = .ok (.getfield 10, 3) := by decide +kernel
theorem dX7_setKeep_33 : decode cX7_setKeep 33 = .ok (.invokevirtual 95, 3) := by decide +kernel
theorem dX7_setKeep_36 : decode cX7_setKeep 36 = .ok (.aload_n 0, 1) := by decide +kernel
theorem dX7_setKeep_37 : decode cX7_setKeep 37 = .ok (.getfield 16, 3) := by decide +kernel
theorem dX7_setKeep_40 : decode cX7_setKeep 40 = .ok (.iload_n 1, 1) := by decide +kernel
theorem dX7_setKeep_41 : decode cX7_setKeep 41 = .ok (.putfield 116, 3) := by decide +kernel
theorem dX7_setKeep_44 : decode cX7_setKeep 44 = .ok (.aload_n 0, 1) := by decide +kernel
theorem dX7_setKeep_45 : decode cX7_setKeep 45 = .ok (.aload_n 0, 1) := by decide +kernel
theorem dX7_setKeep_46 : decode cX7_setKeep 46 = .ok (.getfield 16, 3) := by decide +kernel
theorem dX7_setKeep_49 : decode cX7_setKeep 49 = .ok (.invokevirtual 237, 3) := by decide +kernel
theorem dX7_setKeep_52 : decode cX7_setKeep 52 = .ok (.ifCond .eq 6, 3) := by decide +kernel
theorem dX7_setKeep_55 : decode cX7_setKeep 55 = .ok (.bipush (-2), 2) := by decide +kernel
theorem dX7_setKeep_57 : decode cX7_setKeep 57 = .ok (.ireturn, 1) := by decide +kernel
theorem dX7_setKeep_58 : decode cX7_setKeep 58 = .ok (.aload_n 0, 1) := by decide +kernel
theorem dX7_setKeep_59 : decode cX7_setKeep 59 = .ok (.invokevirtual 275, 3) := by decide +kernel
theorem dX7_setKeep_62 : decode cX7_setKeep 62 = .ok (.iload_n 2, 1) := by decide +kernel
theorem dX7_setKeep_63 : decode cX7_setKeep 63 = .ok (.ireturn, 1) := by decide +kernel
theorem dX7_setPinned_0 : decode cX7_setPinned 0 = .ok (.aload_n 0, 1) := by decide +kernel
theorem dX7_setPinned_1 : decode cX7_setPinned 1 = .ok (.iload_n 1, 1) := by decide +kernel
theorem dX7_setPinned_2 : decode cX7_setPinned 2 = .ok (.invokevirtual 141, 3) := by decide +kernel
theorem dX7_setPinned_5 : decode cX7_setPinned 5 = .ok (.aload_n 0, 1) := by decide +kernel
theorem dX7_setPinned_6 : decode cX7_setPinned 6 = .ok (.getfield 25, 3) := by decide +kernel
theorem dX7_setPinned_9 : decode cX7_setPinned 9 = .ok (.aload_n 0, 1) := by decide +kernel
theorem dX7_setPinned_10 : decode cX7_setPinned 10 = .ok (.getfield 10, 3) := by decide +kernel
theorem dX7_setPinned_13 : decode cX7_setPinned 13 = .ok (.invokevirtual 249, 3) := by decide +kernel
theorem dX7_setPinned_16 : decode cX7_setPinned 16 = .ok (.aload_n 0, 1) := by decide +kernel
theorem dX7_setPinned_17 : decode cX7_setPinned 17 = .ok (.getfield 10, 3) := by decide +kernel
theorem dX7_setPinned_20 : decode cX7_setPinned 20 = .ok (.getfield 155, 3) := by decide +kernel
theorem dX7_setPinned_23 : decode cX7_setPinned 23 = .ok (.iload_n 1, 1) := by decide +kernel
theorem dX7_setPinned_24 : decode cX7_setPinned 24 = .ok (.iaload, 1) := by decide +kernel
theorem dX7_setPinned_25 : decode cX7_setPinned 25 = .ok (.istore_n 3, 1) := by decide +kernel
theorem dX7_setPinned_26 : decode cX7_setPinned 26 = .ok (.aload_n 0, 1) := by decide +kernel
theorem dX7_setPinned_27 : decode cX7_setPinned 27 = .ok (.getfield 10, 3) := by decide +kernel
theorem dX7_setPinned_30 : decode cX7_setPinned 30 = .ok (.getfield 155, 3) := by decide +kernel
theorem dX7_setPinned_33 : decode cX7_setPinned 33 = .ok (.iload_n 1, 1) := by decide +kernel
theorem dX7_setPinned_34 : decode cX7_setPinned 34 = .ok (.iload_n 2, 1) := by decide +kernel
theorem dX7_setPinned_35 : decode cX7_setPinned 35 = .ok (.ifCond .eq 7, 3) := by decide +kernel
theorem dX7_setPinned_38 : decode cX7_setPinned 38 = .ok (.iconst 1, 1) := by decide +kernel
theorem dX7_setPinned_39 : decode cX7_setPinned 39 = .ok (.goto 4, 3) := by decide +kernel
theorem dX7_setPinned_42 : decode cX7_setPinned 42 = .ok (.iconst 0, 1) := by decide +kernel
theorem dX7_setPinned_43 : decode cX7_setPinned 43 = .ok (.iastore, 1) := by decide +kernel
theorem dX7_setPinned_44 : decode cX7_setPinned 44 = .ok (.iload_n 2, 1) := by decide +kernel
theorem dX7_setPinned_45 : decode cX7_setPinned 45 = .ok (.ifCond .eq 13, 3) := by decide +kernel
theorem dX7_setPinned_48 : decode cX7_setPinned 48 = .ok (.aload_n 0, 1) := by decide +kernel
theorem dX7_setPinned_49 : decode cX7_setPinned 49 = .ok (.getfield 10, 3) := by decide +kernel
theorem dX7_setPinned_52 : decode cX7_setPinned 52 = .ok (.iload_n 1, 1) := by decide +kernel
theorem dX7_setPinned_53 : decode cX7_setPinned 53 = .ok (.iconst 0, 1) := by decide +kernel
theorem dX7_setPinned_54 : decode cX7_setPinned 54 = .ok (.iconst 0, 1) := by decide +kernel
theorem dX7_setPinned_55 : decode cX7_setPinned 55 = .ok (.invokevirtual 259, 3) := by decide +kernel
theorem dX7_setPinned_58 : decode cX7_setPinned 58 = .ok (.iload_n 3, 1) := by decide +kernel
theorem dX7_setPinned_59 : decode cX7_setPinned 59 = .ok (.ireturn, 1) := by decide +kernel
theorem dX7_undo_0 : decode cX7_undo 0 = .ok (.aload_n 0, 1) := by decide +kernel
theorem dX7_undo_1 : decode cX7_undo 1 = .ok (.getfield 25, 3) := by decide +kernel
theorem dX7_undo_4 : decode cX7_undo 4 = .ok (.getfield 311, 3) := by decide +kernel
theorem dX7_undo_7 : decode cX7_undo 7 = .ok (.ifCond .ne 5, 3) := by decide +kernel
theorem dX7_undo_10 : decode cX7_undo 10 = .ok (.iconst (-1), 1) := by decide +kernel
theorem dX7_undo_11 : decode cX7_undo 11 = .ok (.ireturn, 1) := by decide +kernel
theorem dX7_undo_12 : decode cX7_undo 12 = .ok (.aload_n 0, 1) := by decide +kernel
theorem dX7_undo_13 : decode cX7_undo 13 = .ok (.getfield 25, 3) := by decide +kernel
theorem dX7_undo_16 : decode cX7_undo 16 = .ok (.aload_n 0, 1) := by decide +kernel
theorem dX7_undo_17 : decode cX7_undo 17 = .ok (.getfield 10, 3) := by decide +kernel
theorem dX7_undo_20 : decode cX7_undo 20 = .ok (.invokevirtual 313, 3) := by decide +kernel
theorem dX7_undo_23 : decode cX7_undo 23 = .ok (.aload_n 0, 1) := by decide +kernel
theorem dX7_undo_24 : decode cX7_undo 24 = .ok (.getfield 25, 3) := by decide +kernel
theorem dX7_undo_27 : decode cX7_undo 27 = .ok (.getfield 311, 3) := by decide +kernel
theorem dX7_undo_30 : decode cX7_undo 30 = .ok (.ireturn, 1) := by decide +kernel
theorem dX7_needHost_0 : decode cX7_needHost 0 = .ok (.iload_n 1, 1) := by decide +kernel
theorem dX7_needHost_1 : decode cX7_needHost 1 = .ok (.ifCond .lt 14, 3) := by decide +kernel
theorem dX7_needHost_4 : decode cX7_needHost 4 = .ok (.iload_n 1, 1) := by decide +kernel
theorem dX7_needHost_5 : decode cX7_needHost 5 = .ok (.aload_n 0, 1) := by decide +kernel
theorem dX7_needHost_6 : decode cX7_needHost 6 = .ok (.getfield 10, 3) := by decide +kernel
theorem dX7_needHost_9 : decode cX7_needHost 9 = .ok (.getfield 104, 3) := by decide +kernel
theorem dX7_needHost_12 : decode cX7_needHost 12 = .ok (.if_icmp .lt 11, 3) := by decide +kernel
theorem dX7_needHost_15 : decode cX7_needHost 15 = .ok (.new 138, 3) := by decide +kernel
theorem dX7_needHost_18 : decode cX7_needHost 18 = .ok (.dup, 1) := by decide +kernel
theorem dX7_needHost_19 : decode cX7_needHost 19 = .ok (.invokespecial 140, 3) := by decide +kernel
theorem dX7_needHost_22 : decode cX7_needHost 22 = .ok (.athrow, 1) := by decide +kernel
theorem dX7_needHost_23 : decode cX7_needHost 23 = .ok (.return_, 1) := by decide +kernel
theorem dX7_needRule_0 : decode cX7_needRule 0 = .ok (.iload_n 1, 1) := by decide +kernel
theorem dX7_needRule_1 : decode cX7_needRule 1 = .ok (.ifCond .lt 14, 3) := by decide +kernel
theorem dX7_needRule_4 : decode cX7_needRule 4 = .ok (.iload_n 1, 1) := by decide +kernel
theorem dX7_needRule_5 : decode cX7_needRule 5 = .ok (.aload_n 0, 1) := by decide +kernel
theorem dX7_needRule_6 : decode cX7_needRule 6 = .ok (.getfield 10, 3) := by decide +kernel
theorem dX7_needRule_9 : decode cX7_needRule 9 = .ok (.getfield 107, 3) := by decide +kernel
theorem dX7_needRule_12 : decode cX7_needRule 12 = .ok (.if_icmp .lt 11, 3) := by decide +kernel
theorem dX7_needRule_15 : decode cX7_needRule 15 = .ok (.new 138, 3) := by decide +kernel
theorem dX7_needRule_18 : decode cX7_needRule 18 = .ok (.dup, 1) := by decide +kernel
theorem dX7_needRule_19 : decode cX7_needRule 19 = .ok (.invokespecial 140, 3) := by decide +kernel
theorem dX7_needRule_22 : decode cX7_needRule 22 = .ok (.athrow, 1) := by decide +kernel
theorem dX7_needRule_23 : decode cX7_needRule 23 = .ok (.return_, 1) := by decide +kernel
theorem dX7_needOffice_0 : decode cX7_needOffice 0 = .ok (.iload_n 0, 1) := by decide +kernel
theorem dX7_needOffice_1 : decode cX7_needOffice 1 = .ok (.ifCond .lt 8, 3) := by decide +kernel
theorem dX7_needOffice_4 : decode cX7_needOffice 4 = .ok (.iload_n 0, 1) := by decide +kernel
theorem dX7_needOffice_5 : decode cX7_needOffice 5 = .ok (.iconst 2, 1) := by decide +kernel
theorem dX7_needOffice_6 : decode cX7_needOffice 6 = .ok (.if_icmp .lt 11, 3) := by decide +kernel
theorem dX7_needOffice_9 : decode cX7_needOffice 9 = .ok (.new 138, 3) := by decide +kernel
theorem dX7_needOffice_12 : decode cX7_needOffice 12 = .ok (.dup, 1) := by decide +kernel
theorem dX7_needOffice_13 : decode cX7_needOffice 13 = .ok (.invokespecial 140, 3) := by decide +kernel
theorem dX7_needOffice_16 : decode cX7_needOffice 16 = .ok (.athrow, 1) := by decide +kernel
theorem dX7_needOffice_17 : decode cX7_needOffice 17 = .ok (.return_, 1) := by decide +kernel
theorem dX7_needNumber_0 : decode cX7_needNumber 0 = .ok (.iload_n 0, 1) := by decide +kernel
theorem dX7_needNumber_1 : decode cX7_needNumber 1 = .ok (.iconst 1, 1) := by decide +kernel
theorem dX7_needNumber_2 : decode cX7_needNumber 2 = .ok (.if_icmp .lt 10, 3) := by decide +kernel
theorem dX7_needNumber_5 : decode cX7_needNumber 5 = .ok (.iload_n 0, 1) := by decide +kernel
theorem dX7_needNumber_6 : decode cX7_needNumber 6 = .ok (.sipush 250, 3) := by decide +kernel
theorem dX7_needNumber_9 : decode cX7_needNumber 9 = .ok (.if_icmp .le 11, 3) := by decide +kernel
theorem dX7_needNumber_12 : decode cX7_needNumber 12 = .ok (.new 82, 3) := by decide +kernel
theorem dX7_needNumber_15 : decode cX7_needNumber 15 = .ok (.dup, 1) := by decide +kernel
theorem dX7_needNumber_16 : decode cX7_needNumber 16 = .ok (.invokespecial 84, 3) := by decide +kernel
theorem dX7_needNumber_19 : decode cX7_needNumber 19 = .ok (.athrow, 1) := by decide +kernel
theorem dX7_needNumber_20 : decode cX7_needNumber 20 = .ok (.return_, 1) := by decide +kernel
theorem dX7_needSide_0 : decode cX7_needSide 0 = .ok (.iload_n 0, 1) := by decide +kernel
theorem dX7_needSide_1 : decode cX7_needSide 1 = .ok (.ifCond .lt 10, 3) := by decide +kernel
theorem dX7_needSide_4 : decode cX7_needSide 4 = .ok (.iload_n 0, 1) := by decide +kernel
theorem dX7_needSide_5 : decode cX7_needSide 5 = .ok (.sipush 250, 3) := by decide +kernel
theorem dX7_needSide_8 : decode cX7_needSide 8 = .ok (.if_icmp .le 11, 3) := by decide +kernel
theorem dX7_needSide_11 : decode cX7_needSide 11 = .ok (.new 82, 3) := by decide +kernel
theorem dX7_needSide_14 : decode cX7_needSide 14 = .ok (.dup, 1) := by decide +kernel
theorem dX7_needSide_15 : decode cX7_needSide 15 = .ok (.invokespecial 84, 3) := by decide +kernel
theorem dX7_needSide_18 : decode cX7_needSide 18 = .ok (.athrow, 1) := by decide +kernel
theorem dX7_needSide_19 : decode cX7_needSide 19 = .ok (.return_, 1) := by decide +kernel
theorem dX7_needWave_0 : decode cX7_needWave 0 = .ok (.iload_n 0, 1) := by decide +kernel
theorem dX7_needWave_1 : decode cX7_needWave 1 = .ok (.iconst 1, 1) := by decide +kernel
theorem dX7_needWave_2 : decode cX7_needWave 2 = .ok (.if_icmp .lt 9, 3) := by decide +kernel
theorem dX7_needWave_5 : decode cX7_needWave 5 = .ok (.iload_n 0, 1) := by decide +kernel
theorem dX7_needWave_6 : decode cX7_needWave 6 = .ok (.bipush 9, 2) := by decide +kernel
theorem dX7_needWave_8 : decode cX7_needWave 8 = .ok (.if_icmp .le 11, 3) := by decide +kernel
theorem dX7_needWave_11 : decode cX7_needWave 11 = .ok (.new 82, 3) := by decide +kernel
theorem dX7_needWave_14 : decode cX7_needWave 14 = .ok (.dup, 1) := by decide +kernel
theorem dX7_needWave_15 : decode cX7_needWave 15 = .ok (.invokespecial 84, 3) := by decide +kernel
theorem dX7_needWave_18 : decode cX7_needWave 18 = .ok (.athrow, 1) := by decide +kernel
theorem dX7_needWave_19 : decode cX7_needWave 19 = .ok (.return_, 1) := by decide +kernel
theorem dX7_clashCount_0 : decode cX7_clashCount 0 = .ok (.aload_n 0, 1) := by decide +kernel
theorem dX7_clashCount_1 : decode cX7_clashCount 1 = .ok (.getfield 32, 3) := by decide +kernel
theorem dX7_clashCount_4 : decode cX7_clashCount 4 = .ok (.aload_n 1, 1) := by decide +kernel
theorem dX7_clashCount_5 : decode cX7_clashCount 5 = .ok (.invokevirtual 185, 3) := by decide +kernel
theorem dX7_clashCount_8 : decode cX7_clashCount 8 = .ok (.aload_n 0, 1) := by decide +kernel
theorem dX7_clashCount_9 : decode cX7_clashCount 9 = .ok (.getfield 32, 3) := by decide +kernel
theorem dX7_clashCount_12 : decode cX7_clashCount 12 = .ok (.invokevirtual 336, 3) := by decide +kernel
theorem dX7_clashCount_15 : decode cX7_clashCount 15 = .ok (.ireturn, 1) := by decide +kernel
theorem dX7_heldTwice_0 : decode cX7_heldTwice 0 = .ok (.aload_n 0, 1) := by decide +kernel
theorem dX7_heldTwice_1 : decode cX7_heldTwice 1 = .ok (.getfield 32, 3) := by decide +kernel
theorem dX7_heldTwice_4 : decode cX7_heldTwice 4 = .ok (.aload_n 1, 1) := by decide +kernel
theorem dX7_heldTwice_5 : decode cX7_heldTwice 5 = .ok (.invokevirtual 185, 3) := by decide +kernel
theorem dX7_heldTwice_8 : decode cX7_heldTwice 8 = .ok (.aload_n 0, 1) := by decide +kernel
theorem dX7_heldTwice_9 : decode cX7_heldTwice 9 = .ok (.getfield 32, 3) := by decide +kernel
theorem dX7_heldTwice_12 : decode cX7_heldTwice 12 = .ok (.aload_n 1, 1) := by decide +kernel
theorem dX7_heldTwice_13 : decode cX7_heldTwice 13 = .ok (.getfield 128, 3) := by decide +kernel
theorem dX7_heldTwice_16 : decode cX7_heldTwice 16 = .ok (.invokevirtual 339, 3) := by decide +kernel
theorem dX7_heldTwice_19 : decode cX7_heldTwice 19 = .ok (.ireturn, 1) := by decide +kernel
theorem dX7_tryWave_0 : decode cX7_tryWave 0 = .ok (.aload_n 0, 1) := by decide +kernel
theorem dX7_tryWave_1 : decode cX7_tryWave 1 = .ok (.getfield 16, 3) := by decide +kernel
theorem dX7_tryWave_4 : decode cX7_tryWave 4 = .ok (.getfield 113, 3) := by decide +kernel
theorem dX7_tryWave_7 : decode cX7_tryWave 7 = .ok (.bipush 9, 2) := by decide +kernel
theorem dX7_tryWave_9 : decode cX7_tryWave 9 = .ok (.if_icmp .lt 6, 3) := by decide +kernel
theorem dX7_tryWave_12 : decode cX7_tryWave 12 = .ok (.bipush (-2), 2) := by decide +kernel
theorem dX7_tryWave_14 : decode cX7_tryWave 14 = .ok (.ireturn, 1) := by decide +kernel
theorem dX7_tryWave_15 : decode cX7_tryWave 15 = .ok (.aload_n 0, 1) := by decide +kernel
theorem dX7_tryWave_16 : decode cX7_tryWave 16 = .ok (.getfield 16, 3) := by decide +kernel
theorem dX7_tryWave_19 : decode cX7_tryWave 19 = .ok (.invokevirtual 343, 3) := by decide +kernel
theorem dX7_tryWave_22 : decode cX7_tryWave 22 = .ok (.ifCond .eq 6, 3) := by decide +kernel
theorem dX7_tryWave_25 : decode cX7_tryWave 25 = .ok (.bipush (-3), 2) := by decide +kernel
theorem dX7_tryWave_27 : decode cX7_tryWave 27 = .ok (.ireturn, 1) := by decide +kernel
theorem dX7_tryWave_28 : decode cX7_tryWave 28 = .ok (.aload_n 0, 1) := by decide +kernel
theorem dX7_tryWave_29 : decode cX7_tryWave 29 = .ok (.getfield 16, 3) := by decide +kernel
theorem dX7_tryWave_32 : decode cX7_tryWave 32 = .ok (.invokevirtual 234, 3) := by decide +kernel
theorem dX7_tryWave_35 : decode cX7_tryWave 35 = .ok (.istore_n 1, 1) := by decide +kernel
theorem dX7_tryWave_36 : decode cX7_tryWave 36 = .ok (.aload_n 0, 1) := by decide +kernel
theorem dX7_tryWave_37 : decode cX7_tryWave 37 = .ok (.aload_n 0, 1) := by decide +kernel
theorem dX7_tryWave_38 : decode cX7_tryWave 38 = .ok (.getfield 16, 3) := by decide +kernel
theorem dX7_tryWave_41 : decode cX7_tryWave 41 = .ok (.invokevirtual 237, 3) := by decide +kernel
theorem dX7_tryWave_44 : decode cX7_tryWave 44 = .ok (.ifCond .eq 8, 3) := by decide +kernel
theorem dX7_tryWave_47 : decode cX7_tryWave 47 = .ok (.bipush (-4), 2) := by decide +kernel
theorem dX7_tryWave_49 : decode cX7_tryWave 49 = .ok (.goto 4, 3) := by decide +kernel
theorem dX7_tryWave_52 : decode cX7_tryWave 52 = .ok (.iload_n 1, 1) := by decide +kernel
theorem dX7_tryWave_53 : decode cX7_tryWave 53 = .ok (.ireturn, 1) := by decide +kernel
theorem dX7_adoptTrial_0 : decode cX7_adoptTrial 0 = .ok (.aload_n 0, 1) := by decide +kernel
theorem dX7_adoptTrial_1 : decode cX7_adoptTrial 1 = .ok (.getfield 25, 3) := by decide +kernel
theorem dX7_adoptTrial_4 : decode cX7_adoptTrial 4 = .ok (.aload_n 0, 1) := by decide +kernel
theorem dX7_adoptTrial_5 : decode cX7_adoptTrial 5 = .ok (.getfield 10, 3) := by decide +kernel
theorem dX7_adoptTrial_8 : decode cX7_adoptTrial 8 = .ok (.invokevirtual 249, 3) := by decide +kernel
theorem dX7_adoptTrial_11 : decode cX7_adoptTrial 11 = .ok (.aload_n 0, 1) := by decide +kernel
theorem dX7_adoptTrial_12 : decode cX7_adoptTrial 12 = .ok (.getfield 10, 3) := by decide +kernel
theorem dX7_adoptTrial_15 : decode cX7_adoptTrial 15 = .ok (.aload_n 0, 1) := by decide +kernel
theorem dX7_adoptTrial_16 : decode cX7_adoptTrial 16 = .ok (.getfield 16, 3) := by decide +kernel
theorem dX7_adoptTrial_19 : decode cX7_adoptTrial 19 = .ok (.invokevirtual 95, 3) := by decide +kernel
theorem dX7_adoptTrial_22 : decode cX7_adoptTrial 22 = .ok (.return_, 1) := by decide +kernel
theorem dJ9_max_7cf53_0 : decode cJ9_max_7cf53 0 = .ok (.iload_n 0, 1) := by decide +kernel
theorem dJ9_max_7cf53_1 : decode cJ9_max_7cf53 1 = .ok (.iload_n 1, 1) := by decide +kernel
theorem dJ9_max_7cf53_2 : decode cJ9_max_7cf53 2 = .ok (.if_icmp .lt 7, 3) := by decide +kernel
theorem dJ9_max_7cf53_5 : decode cJ9_max_7cf53 5 = .ok (.iload_n 0, 1) := by decide +kernel
theorem dJ9_max_7cf53_6 : decode cJ9_max_7cf53 6 = .ok (.goto 4, 3) := by decide +kernel
theorem dJ9_max_7cf53_9 : decode cJ9_max_7cf53 9 = .ok (.iload_n 1, 1) := by decide +kernel
theorem dJ9_max_7cf53_10 : decode cJ9_max_7cf53 10 = .ok (.ireturn, 1) := by decide +kernel
theorem dJ9_min_7cf53_0 : decode cJ9_min_7cf53 0 = .ok (.iload_n 0, 1) := by decide +kernel
theorem dJ9_min_7cf53_1 : decode cJ9_min_7cf53 1 = .ok (.iload_n 1, 1) := by decide +kernel
theorem dJ9_min_7cf53_2 : decode cJ9_min_7cf53 2 = .ok (.if_icmp .gt 7, 3) := by decide +kernel
theorem dJ9_min_7cf53_5 : decode cJ9_min_7cf53 5 = .ok (.iload_n 0, 1) := by decide +kernel
theorem dJ9_min_7cf53_6 : decode cJ9_min_7cf53 6 = .ok (.goto 4, 3) := by decide +kernel
theorem dJ9_min_7cf53_9 : decode cJ9_min_7cf53 9 = .ok (.iload_n 1, 1) := by decide +kernel
theorem dJ9_min_7cf53_10 : decode cJ9_min_7cf53 10 = .ok (.ireturn, 1) := by decide +kernel
theorem dJ0_length_8abf5_0 : decode cJ0_length_8abf5 0 = .ok (.aload_n 0, 1) := by decide +kernel
theorem dJ0_length_8abf5_1 : decode cJ0_length_8abf5 1 = .ok (.getfield 9, 3) := by decide +kernel
theorem dJ0_length_8abf5_4 : decode cJ0_length_8abf5 4 = .ok (.arraylength, 1) := by decide +kernel
theorem dJ0_length_8abf5_5 : decode cJ0_length_8abf5 5 = .ok (.aload_n 0, 1) := by decide +kernel
theorem dJ0_length_8abf5_6 : decode cJ0_length_8abf5 6 = .ok (.invokevirtual 335, 3) := by decide +kernel
theorem dJ0_length_8abf5_9 : decode cJ0_length_8abf5 9 = .ok (.ishr, 1) := by decide +kernel
theorem dJ0_length_8abf5_10 : decode cJ0_length_8abf5 10 = .ok (.ireturn, 1) := by decide +kernel
theorem dJ0_charAt_5068e_0 : decode cJ0_charAt_5068e 0 = .ok (.aload_n 0, 1) := by decide +kernel
theorem dJ0_charAt_5068e_1 : decode cJ0_charAt_5068e 1 = .ok (.invokevirtual 492, 3) := by decide +kernel
theorem dJ0_charAt_5068e_4 : decode cJ0_charAt_5068e 4 = .ok (.ifCond .eq 12, 3) := by decide +kernel
theorem dJ0_charAt_5068e_7 : decode cJ0_charAt_5068e 7 = .ok (.aload_n 0, 1) := by decide +kernel
theorem dJ0_charAt_5068e_8 : decode cJ0_charAt_5068e 8 = .ok (.getfield 9, 3) := by decide +kernel
theorem dJ0_charAt_5068e_11 : decode cJ0_charAt_5068e 11 = .ok (.iload_n 1, 1) := by decide +kernel
theorem dJ0_charAt_5068e_12 : decode cJ0_charAt_5068e 12 = .ok (.invokestatic 495, 3) := by decide +kernel
theorem dJ0_charAt_5068e_15 : decode cJ0_charAt_5068e 15 = .ok (.ireturn, 1) := by decide +kernel
theorem dJ0_charAt_5068e_16 : decode cJ0_charAt_5068e 16 = .ok (.aload_n 0, 1) := by decide +kernel
theorem dJ0_charAt_5068e_17 : decode cJ0_charAt_5068e 17 = .ok (.getfield 9, 3) := by decide +kernel
theorem dJ0_charAt_5068e_20 : decode cJ0_charAt_5068e 20 = .ok (.iload_n 1, 1) := by decide +kernel
theorem dJ0_charAt_5068e_21 : decode cJ0_charAt_5068e 21 = .ok (.invokestatic 498, 3) := by decide +kernel
theorem dJ0_charAt_5068e_24 : decode cJ0_charAt_5068e 24 = .ok (.ireturn, 1) := by decide +kernel
theorem dJ0_coder_7d493_0 : decode cJ0_coder_7d493 0 = .ok (.getstatic 38, 3) := by decide +kernel
theorem dJ0_coder_7d493_3 : decode cJ0_coder_7d493 3 = .ok (.ifCond .eq 10, 3) := by decide +kernel
theorem dJ0_coder_7d493_6 : decode cJ0_coder_7d493 6 = .ok (.aload_n 0, 1) := by decide +kernel
theorem dJ0_coder_7d493_7 : decode cJ0_coder_7d493 7 = .ok (.getfield 15, 3) := by decide +kernel
theorem dJ0_coder_7d493_10 : decode cJ0_coder_7d493 10 = .ok (.goto 4, 3) := by decide +kernel
theorem dJ0_coder_7d493_13 : decode cJ0_coder_7d493 13 = .ok (.iconst 1, 1) := by decide +kernel
theorem dJ0_coder_7d493_14 : decode cJ0_coder_7d493 14 = .ok (.ireturn, 1) := by decide +kernel
theorem dJ0_isLatin1_aae02_0 : decode cJ0_isLatin1_aae02 0 = .ok (.getstatic 38, 3) := by decide +kernel
theorem dJ0_isLatin1_aae02_3 : decode cJ0_isLatin1_aae02 3 = .ok (.ifCond .eq 14, 3) := by decide +kernel
theorem dJ0_isLatin1_aae02_6 : decode cJ0_isLatin1_aae02 6 = .ok (.aload_n 0, 1) := by decide +kernel
theorem dJ0_isLatin1_aae02_7 : decode cJ0_isLatin1_aae02 7 = .ok (.getfield 15, 3) := by decide +kernel
theorem dJ0_isLatin1_aae02_10 : decode cJ0_isLatin1_aae02 10 = .ok (.ifCond .ne 7, 3) := by decide +kernel
theorem dJ0_isLatin1_aae02_13 : decode cJ0_isLatin1_aae02 13 = .ok (.iconst 1, 1) := by decide +kernel
theorem dJ0_isLatin1_aae02_14 : decode cJ0_isLatin1_aae02 14 = .ok (.goto 4, 3) := by decide +kernel
theorem dJ0_isLatin1_aae02_17 : decode cJ0_isLatin1_aae02 17 = .ok (.iconst 0, 1) := by decide +kernel
theorem dJ0_isLatin1_aae02_18 : decode cJ0_isLatin1_aae02 18 = .ok (.ireturn, 1) := by decide +kernel
theorem dJ0_checkIndex_df160_0 : decode cJ0_checkIndex_df160 0 = .ok (.iload_n 0, 1) := by decide +kernel
theorem dJ0_checkIndex_df160_1 : decode cJ0_checkIndex_df160 1 = .ok (.iload_n 1, 1) := by decide +kernel
theorem dJ0_checkIndex_df160_2 : decode cJ0_checkIndex_df160 2 = .ok (.getstatic 1053, 3) := by decide +kernel
theorem dJ0_checkIndex_df160_5 : decode cJ0_checkIndex_df160 5 = .ok (.invokestatic 1059, 3) := by decide +kernel
theorem dJ0_checkIndex_df160_8 : decode cJ0_checkIndex_df160 8 = .ok (.pop, 1) := by decide +kernel
theorem dJ0_checkIndex_df160_9 : decode cJ0_checkIndex_df160 9 = .ok (.return_, 1) := by decide +kernel
theorem dJ1_charAt_3b067_0 : decode cJ1_charAt_3b067 0 = .ok (.iload_n 1, 1) := by decide +kernel
theorem dJ1_charAt_3b067_1 : decode cJ1_charAt_3b067 1 = .ok (.aload_n 0, 1) := by decide +kernel
theorem dJ1_charAt_3b067_2 : decode cJ1_charAt_3b067 2 = .ok (.arraylength, 1) := by decide +kernel
theorem dJ1_charAt_3b067_3 : decode cJ1_charAt_3b067 3 = .ok (.invokestatic 9, 3) := by decide +kernel
theorem dJ1_charAt_3b067_6 : decode cJ1_charAt_3b067 6 = .ok (.aload_n 0, 1) := by decide +kernel
theorem dJ1_charAt_3b067_7 : decode cJ1_charAt_3b067 7 = .ok (.iload_n 1, 1) := by decide +kernel
theorem dJ1_charAt_3b067_8 : decode cJ1_charAt_3b067 8 = .ok (.baload, 1) := by decide +kernel
theorem dJ1_charAt_3b067_9 : decode cJ1_charAt_3b067 9 = .ok (.sipush 255, 3) := by decide +kernel
theorem dJ1_charAt_3b067_12 : decode cJ1_charAt_3b067 12 = .ok (.iand, 1) := by decide +kernel
theorem dJ1_charAt_3b067_13 : decode cJ1_charAt_3b067 13 = .ok (.i2c, 1) := by decide +kernel
theorem dJ1_charAt_3b067_14 : decode cJ1_charAt_3b067 14 = .ok (.ireturn, 1) := by decide +kernel
theorem dJ2_getChar_3b067_0 : decode cJ2_getChar_3b067 0 = .ok (.getstatic 44, 3) := by decide +kernel
theorem dJ2_getChar_3b067_3 : decode cJ2_getChar_3b067 3 = .ok (.ifCond .ne 25, 3) := by decide +kernel
theorem dJ2_getChar_3b067_6 : decode cJ2_getChar_3b067 6 = .ok (.iload_n 1, 1) := by decide +kernel
theorem dJ2_getChar_3b067_7 : decode cJ2_getChar_3b067 7 = .ok (.ifCond .lt 11, 3) := by decide +kernel
theorem dJ2_getChar_3b067_10 : decode cJ2_getChar_3b067 10 = .ok (.iload_n 1, 1) := by decide +kernel
theorem dJ2_getChar_3b067_11 : decode cJ2_getChar_3b067 11 = .ok (.aload_n 0, 1) := by decide +kernel
theorem dJ2_getChar_3b067_12 : decode cJ2_getChar_3b067 12 = .ok (.invokestatic 48, 3) := by decide +kernel
theorem dJ2_getChar_3b067_15 : decode cJ2_getChar_3b067 15 = .ok (.if_icmp .lt 13, 3) := by decide +kernel
theorem dJ2_getChar_3b067_18 : decode cJ2_getChar_3b067 18 = .ok (.new 52, 3) := by decide +kernel
theorem dJ2_getChar_3b067_21 : decode cJ2_getChar_3b067 21 = .ok (.dup, 1) := by decide +kernel
theorem dJ2_getChar_3b067_22 : decode cJ2_getChar_3b067 22 = .ok (.ldc 54, 2) := by decide +kernel
theorem dJ2_getChar_3b067_24 : decode cJ2_getChar_3b067 24 = .ok (.invokespecial 56, 3) := by decide +kernel
theorem dJ2_getChar_3b067_27 : decode cJ2_getChar_3b067 27 = .ok (.athrow, 1) := by decide +kernel
theorem dJ2_getChar_3b067_28 : decode cJ2_getChar_3b067 28 = .ok (.iload_n 1, 1) := by decide +kernel
theorem dJ2_getChar_3b067_29 : decode cJ2_getChar_3b067 29 = .ok (.iconst 1, 1) := by decide +kernel
theorem dJ2_getChar_3b067_30 : decode cJ2_getChar_3b067 30 = .ok (.ishl, 1) := by decide +kernel
theorem dJ2_getChar_3b067_31 : decode cJ2_getChar_3b067 31 = .ok (.istore_n 1, 1) := by decide +kernel
theorem dJ2_getChar_3b067_32 : decode cJ2_getChar_3b067 32 = .ok (.aload_n 0, 1) := by decide +kernel
theorem dJ2_getChar_3b067_33 : decode cJ2_getChar_3b067 33 = .ok (.iload_n 1, 1) := by decide +kernel
theorem dJ2_getChar_3b067_34 : decode cJ2_getChar_3b067 34 = .ok (.iinc 1 1, 3) := by decide +kernel
theorem dJ2_getChar_3b067_37 : decode cJ2_getChar_3b067 37 = .ok (.baload, 1) := by decide +kernel
theorem dJ2_getChar_3b067_38 : decode cJ2_getChar_3b067 38 = .ok (.sipush 255, 3) := by decide +kernel
theorem dJ2_getChar_3b067_41 : decode cJ2_getChar_3b067 41 = .ok (.iand, 1) := by decide +kernel
theorem dJ2_getChar_3b067_42 : decode cJ2_getChar_3b067 42 = .ok (.getstatic 59, 3) := by decide +kernel
theorem dJ2_getChar_3b067_45 : decode cJ2_getChar_3b067 45 = .ok (.ishl, 1) := by decide +kernel
theorem dJ2_getChar_3b067_46 : decode cJ2_getChar_3b067 46 = .ok (.aload_n 0, 1) := by decide +kernel
theorem dJ2_getChar_3b067_47 : decode cJ2_getChar_3b067 47 = .ok (.iload_n 1, 1) := by decide +kernel
theorem dJ2_getChar_3b067_48 : decode cJ2_getChar_3b067 48 = .ok (.baload, 1) := by decide +kernel
theorem dJ2_getChar_3b067_49 : decode cJ2_getChar_3b067 49 = .ok (.sipush 255, 3) := by decide +kernel
theorem dJ2_getChar_3b067_52 : decode cJ2_getChar_3b067 52 = .ok (.iand, 1) := by decide +kernel
theorem dJ2_getChar_3b067_53 : decode cJ2_getChar_3b067 53 = .ok (.getstatic 63, 3) := by decide +kernel
theorem dJ2_getChar_3b067_56 : decode cJ2_getChar_3b067 56 = .ok (.ishl, 1) := by decide +kernel
theorem dJ2_getChar_3b067_57 : decode cJ2_getChar_3b067 57 = .ok (.ior, 1) := by decide +kernel
theorem dJ2_getChar_3b067_58 : decode cJ2_getChar_3b067 58 = .ok (.i2c, 1) := by decide +kernel
theorem dJ2_getChar_3b067_59 : decode cJ2_getChar_3b067 59 = .ok (.ireturn, 1) := by decide +kernel
theorem dJ2_length_9d52b_0 : decode cJ2_length_9d52b 0 = .ok (.aload_n 0, 1) := by decide +kernel
theorem dJ2_length_9d52b_1 : decode cJ2_length_9d52b 1 = .ok (.arraylength, 1) := by decide +kernel
theorem dJ2_length_9d52b_2 : decode cJ2_length_9d52b 2 = .ok (.iconst 1, 1) := by decide +kernel
theorem dJ2_length_9d52b_3 : decode cJ2_length_9d52b 3 = .ok (.ishr, 1) := by decide +kernel
theorem dJ2_length_9d52b_4 : decode cJ2_length_9d52b 4 = .ok (.ireturn, 1) := by decide +kernel
theorem dJ2_charAt_3b067_0 : decode cJ2_charAt_3b067 0 = .ok (.iload_n 1, 1) := by decide +kernel
theorem dJ2_charAt_3b067_1 : decode cJ2_charAt_3b067 1 = .ok (.aload_n 0, 1) := by decide +kernel
theorem dJ2_charAt_3b067_2 : decode cJ2_charAt_3b067 2 = .ok (.invokestatic 67, 3) := by decide +kernel
theorem dJ2_charAt_3b067_5 : decode cJ2_charAt_3b067 5 = .ok (.aload_n 0, 1) := by decide +kernel
theorem dJ2_charAt_3b067_6 : decode cJ2_charAt_3b067 6 = .ok (.iload_n 1, 1) := by decide +kernel
theorem dJ2_charAt_3b067_7 : decode cJ2_charAt_3b067 7 = .ok (.invokestatic 71, 3) := by decide +kernel
theorem dJ2_charAt_3b067_10 : decode cJ2_charAt_3b067 10 = .ok (.ireturn, 1) := by decide +kernel
theorem dJ2_checkIndex_2214a_0 : decode cJ2_checkIndex_2214a 0 = .ok (.iload_n 0, 1) := by decide +kernel
theorem dJ2_checkIndex_2214a_1 : decode cJ2_checkIndex_2214a 1 = .ok (.aload_n 1, 1) := by decide +kernel
theorem dJ2_checkIndex_2214a_2 : decode cJ2_checkIndex_2214a 2 = .ok (.invokestatic 48, 3) := by decide +kernel
theorem dJ2_checkIndex_2214a_5 : decode cJ2_checkIndex_2214a 5 = .ok (.invokestatic 414, 3) := by decide +kernel
theorem dJ2_checkIndex_2214a_8 : decode cJ2_checkIndex_2214a 8 = .ok (.return_, 1) := by decide +kernel
theorem dJ7_fill_53178_0 : decode cJ7_fill_53178 0 = .ok (.iconst 0, 1) := by decide +kernel
theorem dJ7_fill_53178_1 : decode cJ7_fill_53178 1 = .ok (.istore_n 2, 1) := by decide +kernel
theorem dJ7_fill_53178_2 : decode cJ7_fill_53178 2 = .ok (.aload_n 0, 1) := by decide +kernel
theorem dJ7_fill_53178_3 : decode cJ7_fill_53178 3 = .ok (.arraylength, 1) := by decide +kernel
theorem dJ7_fill_53178_4 : decode cJ7_fill_53178 4 = .ok (.istore_n 3, 1) := by decide +kernel
theorem dJ7_fill_53178_5 : decode cJ7_fill_53178 5 = .ok (.iload_n 2, 1) := by decide +kernel
theorem dJ7_fill_53178_6 : decode cJ7_fill_53178 6 = .ok (.iload_n 3, 1) := by decide +kernel
theorem dJ7_fill_53178_7 : decode cJ7_fill_53178 7 = .ok (.if_icmp .ge 13, 3) := by decide +kernel
theorem dJ7_fill_53178_10 : decode cJ7_fill_53178 10 = .ok (.aload_n 0, 1) := by decide +kernel
theorem dJ7_fill_53178_11 : decode cJ7_fill_53178 11 = .ok (.iload_n 2, 1) := by decide +kernel
theorem dJ7_fill_53178_12 : decode cJ7_fill_53178 12 = .ok (.iload_n 1, 1) := by decide +kernel
theorem dJ7_fill_53178_13 : decode cJ7_fill_53178 13 = .ok (.iastore, 1) := by decide +kernel
theorem dJ7_fill_53178_14 : decode cJ7_fill_53178 14 = .ok (.iinc 2 1, 3) := by decide +kernel
theorem dJ7_fill_53178_17 : decode cJ7_fill_53178 17 = .ok (.goto (-12), 3) := by decide +kernel
theorem dJ7_fill_53178_20 : decode cJ7_fill_53178 20 = .ok (.return_, 1) := by decide +kernel
theorem dJ3_checkIndex_8e157_0 : decode cJ3_checkIndex_8e157 0 = .ok (.iload_n 0, 1) := by decide +kernel
theorem dJ3_checkIndex_8e157_1 : decode cJ3_checkIndex_8e157 1 = .ok (.ifCond .lt 8, 3) := by decide +kernel
theorem dJ3_checkIndex_8e157_4 : decode cJ3_checkIndex_8e157 4 = .ok (.iload_n 0, 1) := by decide +kernel
theorem dJ3_checkIndex_8e157_5 : decode cJ3_checkIndex_8e157 5 = .ok (.iload_n 1, 1) := by decide +kernel
theorem dJ3_checkIndex_8e157_6 : decode cJ3_checkIndex_8e157 6 = .ok (.if_icmp .lt 10, 3) := by decide +kernel
theorem dJ3_checkIndex_8e157_9 : decode cJ3_checkIndex_8e157 9 = .ok (.aload_n 2, 1) := by decide +kernel
theorem dJ3_checkIndex_8e157_10 : decode cJ3_checkIndex_8e157 10 = .ok (.iload_n 0, 1) := by decide +kernel
theorem dJ3_checkIndex_8e157_11 : decode cJ3_checkIndex_8e157 11 = .ok (.iload_n 1, 1) := by decide +kernel
theorem dJ3_checkIndex_8e157_12 : decode cJ3_checkIndex_8e157 12 = .ok (.invokestatic 95, 3) := by decide +kernel
theorem dJ3_checkIndex_8e157_15 : decode cJ3_checkIndex_8e157 15 = .ok (.athrow, 1) := by decide +kernel
theorem dJ3_checkIndex_8e157_16 : decode cJ3_checkIndex_8e157 16 = .ok (.iload_n 0, 1) := by decide +kernel
theorem dJ3_checkIndex_8e157_17 : decode cJ3_checkIndex_8e157 17 = .ok (.ireturn, 1) := by decide +kernel
