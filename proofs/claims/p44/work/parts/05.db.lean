theorem dL_init_0 : decode cL_init 0 = .ok (.aload_n 0, 1) := by decide +kernel
theorem dL_init_1 : decode cL_init 1 = .ok (.invokespecial 1, 3) := by decide +kernel
theorem dL_init_4 : decode cL_init 4 = .ok (.aload_n 0, 1) := by decide +kernel
theorem dL_init_5 : decode cL_init 5 = .ok (.sipush 1000, 3) := by decide +kernel
theorem dL_init_8 : decode cL_init 8 = .ok (.newarray .int, 2) := by decide +kernel
theorem dL_init_10 : decode cL_init 10 = .ok (.putfield 7, 3) := by decide +kernel
theorem dL_init_13 : decode cL_init 13 = .ok (.return_, 1) := by decide +kernel
theorem dL_writes_0 : decode cL_writes 0 = .ok (.iconst 0, 1) := by decide +kernel
theorem dL_writes_1 : decode cL_writes 1 = .ok (.istore_n 2, 1) := by decide +kernel
theorem dL_writes_2 : decode cL_writes 2 = .ok (.iload_n 2, 1) := by decide +kernel
theorem dL_writes_3 : decode cL_writes 3 = .ok (.aload_n 1, 1) := by decide +kernel
theorem dL_writes_4 : decode cL_writes 4 = .ok (.invokevirtual 13, 3) := by decide +kernel
theorem dL_writes_7 : decode cL_writes 7 = .ok (.if_icmp .ge 33, 3) := by decide +kernel
theorem dL_writes_10 : decode cL_writes 10 = .ok (.aload_n 0, 1) := by decide +kernel
theorem dL_writes_11 : decode cL_writes 11 = .ok (.getfield 7, 3) := by decide +kernel
theorem dL_writes_14 : decode cL_writes 14 = .ok (.aload_n 0, 1) := by decide +kernel
theorem dL_writes_15 : decode cL_writes 15 = .ok (.getfield 19, 3) := by decide +kernel
theorem dL_writes_18 : decode cL_writes 18 = .ok (.aload_n 1, 1) := by decide +kernel
theorem dL_writes_19 : decode cL_writes 19 = .ok (.iload_n 2, 1) := by decide +kernel
theorem dL_writes_20 : decode cL_writes 20 = .ok (.invokevirtual 23, 3) := by decide +kernel
theorem dL_writes_23 : decode cL_writes 23 = .ok (.iastore, 1) := by decide +kernel
theorem dL_writes_24 : decode cL_writes 24 = .ok (.aload_n 0, 1) := by decide +kernel
theorem dL_writes_25 : decode cL_writes 25 = .ok (.dup, 1) := by decide +kernel
theorem dL_writes_26 : decode cL_writes 26 = .ok (.getfield 19, 3) := by decide +kernel
theorem dL_writes_29 : decode cL_writes 29 = .ok (.iconst 1, 1) := by decide +kernel
theorem dL_writes_30 : decode cL_writes 30 = .ok (.iadd, 1) := by decide +kernel
theorem dL_writes_31 : decode cL_writes 31 = .ok (.putfield 19, 3) := by decide +kernel
theorem dL_writes_34 : decode cL_writes 34 = .ok (.iinc 2 1, 3) := by decide +kernel
theorem dL_writes_37 : decode cL_writes 37 = .ok (.goto (-35), 3) := by decide +kernel
theorem dL_writes_40 : decode cL_writes 40 = .ok (.return_, 1) := by decide +kernel
theorem dL_spaced_0 : decode cL_spaced 0 = .ok (.aload_n 0, 1) := by decide +kernel
theorem dL_spaced_1 : decode cL_spaced 1 = .ok (.ldc 27, 2) := by decide +kernel
theorem dL_spaced_3 : decode cL_spaced 3 = .ok (.invokevirtual 29, 3) := by decide +kernel
theorem dL_spaced_6 : decode cL_spaced 6 = .ok (.iconst 1, 1) := by decide +kernel
theorem dL_spaced_7 : decode cL_spaced 7 = .ok (.istore_n 2, 1) := by decide +kernel
theorem dL_spaced_8 : decode cL_spaced 8 = .ok (.iload_n 1, 1) := by decide +kernel
theorem dL_spaced_9 : decode cL_spaced 9 = .ok (.iload_n 2, 1) := by decide +kernel
theorem dL_spaced_10 : decode cL_spaced 10 = .ok (.idiv, 1) := by decide +kernel
theorem dL_spaced_11 : decode cL_spaced 11 = .ok (.bipush 9, 2) := by decide +kernel
theorem dL_spaced_13 : decode cL_spaced 13 = .ok (.if_icmp .le 11, 3) := by decide +kernel
theorem dL_spaced_16 : decode cL_spaced 16 = .ok (.iload_n 2, 1) := by decide +kernel
theorem dL_spaced_17 : decode cL_spaced 17 = .ok (.bipush 10, 2) := by decide +kernel
theorem dL_spaced_19 : decode cL_spaced 19 = .ok (.imul, 1) := by decide +kernel
theorem dL_spaced_20 : decode cL_spaced 20 = .ok (.istore_n 2, 1) := by decide +kernel
theorem dL_spaced_21 : decode cL_spaced 21 = .ok (.goto (-13), 3) := by decide +kernel
theorem dL_spaced_24 : decode cL_spaced 24 = .ok (.iload_n 2, 1) := by decide +kernel
theorem dL_spaced_25 : decode cL_spaced 25 = .ok (.ifCond .le 39, 3) := by decide +kernel
theorem dL_spaced_28 : decode cL_spaced 28 = .ok (.aload_n 0, 1) := by decide +kernel
theorem dL_spaced_29 : decode cL_spaced 29 = .ok (.getfield 7, 3) := by decide +kernel
theorem dL_spaced_32 : decode cL_spaced 32 = .ok (.aload_n 0, 1) := by decide +kernel
theorem dL_spaced_33 : decode cL_spaced 33 = .ok (.getfield 19, 3) := by decide +kernel
theorem dL_spaced_36 : decode cL_spaced 36 = .ok (.bipush 48, 2) := by decide +kernel
theorem dL_spaced_38 : decode cL_spaced 38 = .ok (.iload_n 1, 1) := by decide +kernel
theorem dL_spaced_39 : decode cL_spaced 39 = .ok (.iload_n 2, 1) := by decide +kernel
theorem dL_spaced_40 : decode cL_spaced 40 = .ok (.idiv, 1) := by decide +kernel
theorem dL_spaced_41 : decode cL_spaced 41 = .ok (.bipush 10, 2) := by decide +kernel
theorem dL_spaced_43 : decode cL_spaced 43 = .ok (.irem, 1) := by decide +kernel
theorem dL_spaced_44 : decode cL_spaced 44 = .ok (.iadd, 1) := by decide +kernel
theorem dL_spaced_45 : decode cL_spaced 45 = .ok (.iastore, 1) := by decide +kernel
theorem dL_spaced_46 : decode cL_spaced 46 = .ok (.aload_n 0, 1) := by decide +kernel
theorem dL_spaced_47 : decode cL_spaced 47 = .ok (.dup, 1) := by decide +kernel
theorem dL_spaced_48 : decode cL_spaced 48 = .ok (.getfield 19, 3) := by decide +kernel
theorem dL_spaced_51 : decode cL_spaced 51 = .ok (.iconst 1, 1) := by decide +kernel
theorem dL_spaced_52 : decode cL_spaced 52 = .ok (.iadd, 1) := by decide +kernel
theorem dL_spaced_53 : decode cL_spaced 53 = .ok (.putfield 19, 3) := by decide +kernel
theorem dL_spaced_56 : decode cL_spaced 56 = .ok (.iload_n 2, 1) := by decide +kernel
theorem dL_spaced_57 : decode cL_spaced 57 = .ok (.bipush 10, 2) := by decide +kernel
theorem dL_spaced_59 : decode cL_spaced 59 = .ok (.idiv, 1) := by decide +kernel
theorem dL_spaced_60 : decode cL_spaced 60 = .ok (.istore_n 2, 1) := by decide +kernel
theorem dL_spaced_61 : decode cL_spaced 61 = .ok (.goto (-37), 3) := by decide +kernel
theorem dL_spaced_64 : decode cL_spaced 64 = .ok (.return_, 1) := by decide +kernel
theorem dL_cell_0 : decode cL_cell 0 = .ok (.iload_n 1, 1) := by decide +kernel
theorem dL_cell_1 : decode cL_cell 1 = .ok (.aload_n 0, 1) := by decide +kernel
theorem dL_cell_2 : decode cL_cell 2 = .ok (.arraylength, 1) := by decide +kernel
theorem dL_cell_3 : decode cL_cell 3 = .ok (.if_icmp .ge 12, 3) := by decide +kernel
theorem dL_cell_6 : decode cL_cell 6 = .ok (.aload_n 0, 1) := by decide +kernel
theorem dL_cell_7 : decode cL_cell 7 = .ok (.iload_n 1, 1) := by decide +kernel
theorem dL_cell_8 : decode cL_cell 8 = .ok (.iaload, 1) := by decide +kernel
theorem dL_cell_9 : decode cL_cell 9 = .ok (.ldc 33, 2) := by decide +kernel
theorem dL_cell_11 : decode cL_cell 11 = .ok (.iand, 1) := by decide +kernel
theorem dL_cell_12 : decode cL_cell 12 = .ok (.goto 4, 3) := by decide +kernel
theorem dL_cell_15 : decode cL_cell 15 = .ok (.iconst 0, 1) := by decide +kernel
theorem dL_cell_16 : decode cL_cell 16 = .ok (.ireturn, 1) := by decide +kernel
theorem dL_feeds_0 : decode cL_feeds 0 = .ok (.iconst 0, 1) := by decide +kernel
theorem dL_feeds_1 : decode cL_feeds 1 = .ok (.istore_n 2, 1) := by decide +kernel
theorem dL_feeds_2 : decode cL_feeds 2 = .ok (.iload_n 2, 1) := by decide +kernel
theorem dL_feeds_3 : decode cL_feeds 3 = .ok (.aload_n 0, 1) := by decide +kernel
theorem dL_feeds_4 : decode cL_feeds 4 = .ok (.getfield 19, 3) := by decide +kernel
theorem dL_feeds_7 : decode cL_feeds 7 = .ok (.if_icmp .ge 90, 3) := by decide +kernel
theorem dL_feeds_10 : decode cL_feeds 10 = .ok (.iconst 5, 1) := by decide +kernel
theorem dL_feeds_11 : decode cL_feeds 11 = .ok (.newarray .int, 2) := by decide +kernel
theorem dL_feeds_13 : decode cL_feeds 13 = .ok (.astore_n 3, 1) := by decide +kernel
theorem dL_feeds_14 : decode cL_feeds 14 = .ok (.iconst 0, 1) := by decide +kernel
theorem dL_feeds_15 : decode cL_feeds 15 = .ok (.istore 4, 2) := by decide +kernel
theorem dL_feeds_17 : decode cL_feeds 17 = .ok (.iload 4, 2) := by decide +kernel
theorem dL_feeds_19 : decode cL_feeds 19 = .ok (.bipush 20, 2) := by decide +kernel
theorem dL_feeds_21 : decode cL_feeds 21 = .ok (.if_icmp .ge 50, 3) := by decide +kernel
theorem dL_feeds_24 : decode cL_feeds 24 = .ok (.aload_n 3, 1) := by decide +kernel
theorem dL_feeds_25 : decode cL_feeds 25 = .ok (.iload 4, 2) := by decide +kernel
theorem dL_feeds_27 : decode cL_feeds 27 = .ok (.iconst 4, 1) := by decide +kernel
theorem dL_feeds_28 : decode cL_feeds 28 = .ok (.idiv, 1) := by decide +kernel
theorem dL_feeds_29 : decode cL_feeds 29 = .ok (.aload_n 3, 1) := by decide +kernel
theorem dL_feeds_30 : decode cL_feeds 30 = .ok (.iload 4, 2) := by decide +kernel
theorem dL_feeds_32 : decode cL_feeds 32 = .ok (.iconst 4, 1) := by decide +kernel
theorem dL_feeds_33 : decode cL_feeds 33 = .ok (.idiv, 1) := by decide +kernel
theorem dL_feeds_34 : decode cL_feeds 34 = .ok (.iaload, 1) := by decide +kernel
theorem dL_feeds_35 : decode cL_feeds 35 = .ok (.bipush 8, 2) := by decide +kernel
theorem dL_feeds_37 : decode cL_feeds 37 = .ok (.ishl, 1) := by decide +kernel
theorem dL_feeds_38 : decode cL_feeds 38 = .ok (.iload_n 2, 1) := by decide +kernel
theorem dL_feeds_39 : decode cL_feeds 39 = .ok (.iload 4, 2) := by decide +kernel
theorem dL_feeds_41 : decode cL_feeds 41 = .ok (.iadd, 1) := by decide +kernel
theorem dL_feeds_42 : decode cL_feeds 42 = .ok (.aload_n 0, 1) := by decide +kernel
theorem dL_feeds_43 : decode cL_feeds 43 = .ok (.getfield 19, 3) := by decide +kernel
theorem dL_feeds_46 : decode cL_feeds 46 = .ok (.if_icmp .ge 15, 3) := by decide +kernel
theorem dL_feeds_49 : decode cL_feeds 49 = .ok (.aload_n 0, 1) := by decide +kernel
theorem dL_feeds_50 : decode cL_feeds 50 = .ok (.getfield 7, 3) := by decide +kernel
theorem dL_feeds_53 : decode cL_feeds 53 = .ok (.iload_n 2, 1) := by decide +kernel
theorem dL_feeds_54 : decode cL_feeds 54 = .ok (.iload 4, 2) := by decide +kernel
theorem dL_feeds_56 : decode cL_feeds 56 = .ok (.iadd, 1) := by decide +kernel
theorem dL_feeds_57 : decode cL_feeds 57 = .ok (.iaload, 1) := by decide +kernel
theorem dL_feeds_58 : decode cL_feeds 58 = .ok (.goto 5, 3) := by decide +kernel
theorem dL_feeds_61 : decode cL_feeds 61 = .ok (.bipush 32, 2) := by decide +kernel
theorem dL_feeds_63 : decode cL_feeds 63 = .ok (.ior, 1) := by decide +kernel
theorem dL_feeds_64 : decode cL_feeds 64 = .ok (.iastore, 1) := by decide +kernel
theorem dL_feeds_65 : decode cL_feeds 65 = .ok (.iinc 4 1, 3) := by decide +kernel
theorem dL_feeds_68 : decode cL_feeds 68 = .ok (.goto (-51), 3) := by decide +kernel
theorem dL_feeds_71 : decode cL_feeds 71 = .ok (.aload_n 1, 1) := by decide +kernel
theorem dL_feeds_72 : decode cL_feeds 72 = .ok (.aload_n 3, 1) := by decide +kernel
theorem dL_feeds_73 : decode cL_feeds 73 = .ok (.iconst 0, 1) := by decide +kernel
theorem dL_feeds_74 : decode cL_feeds 74 = .ok (.iaload, 1) := by decide +kernel
theorem dL_feeds_75 : decode cL_feeds 75 = .ok (.aload_n 3, 1) := by decide +kernel
theorem dL_feeds_76 : decode cL_feeds 76 = .ok (.iconst 1, 1) := by decide +kernel
theorem dL_feeds_77 : decode cL_feeds 77 = .ok (.iaload, 1) := by decide +kernel
theorem dL_feeds_78 : decode cL_feeds 78 = .ok (.aload_n 3, 1) := by decide +kernel
theorem dL_feeds_79 : decode cL_feeds 79 = .ok (.iconst 2, 1) := by decide +kernel
theorem dL_feeds_80 : decode cL_feeds 80 = .ok (.iaload, 1) := by decide +kernel
theorem dL_feeds_81 : decode cL_feeds 81 = .ok (.aload_n 3, 1) := by decide +kernel
theorem dL_feeds_82 : decode cL_feeds 82 = .ok (.iconst 3, 1) := by decide +kernel
theorem dL_feeds_83 : decode cL_feeds 83 = .ok (.iaload, 1) := by decide +kernel
theorem dL_feeds_84 : decode cL_feeds 84 = .ok (.aload_n 3, 1) := by decide +kernel
theorem dL_feeds_85 : decode cL_feeds 85 = .ok (.iconst 4, 1) := by decide +kernel
theorem dL_feeds_86 : decode cL_feeds 86 = .ok (.iaload, 1) := by decide +kernel
theorem dL_feeds_87 : decode cL_feeds 87 = .ok (.invokevirtual 34, 3) := by decide +kernel
theorem dL_feeds_90 : decode cL_feeds 90 = .ok (.pop, 1) := by decide +kernel
theorem dL_feeds_91 : decode cL_feeds 91 = .ok (.iinc 2 20, 3) := by decide +kernel
theorem dL_feeds_94 : decode cL_feeds 94 = .ok (.goto (-92), 3) := by decide +kernel
theorem dL_feeds_97 : decode cL_feeds 97 = .ok (.aload_n 0, 1) := by decide +kernel
theorem dL_feeds_98 : decode cL_feeds 98 = .ok (.getfield 19, 3) := by decide +kernel
theorem dL_feeds_101 : decode cL_feeds 101 = .ok (.istore_n 2, 1) := by decide +kernel
theorem dL_feeds_102 : decode cL_feeds 102 = .ok (.aload_n 0, 1) := by decide +kernel
theorem dL_feeds_103 : decode cL_feeds 103 = .ok (.iconst 0, 1) := by decide +kernel
theorem dL_feeds_104 : decode cL_feeds 104 = .ok (.putfield 19, 3) := by decide +kernel
theorem dL_feeds_107 : decode cL_feeds 107 = .ok (.iload_n 2, 1) := by decide +kernel
theorem dL_feeds_108 : decode cL_feeds 108 = .ok (.ireturn, 1) := by decide +kernel
theorem dL_letter_0 : decode cL_letter 0 = .ok (.aload_n 0, 1) := by decide +kernel
theorem dL_letter_1 : decode cL_letter 1 = .ok (.getfield 7, 3) := by decide +kernel
theorem dL_letter_4 : decode cL_letter 4 = .ok (.aload_n 0, 1) := by decide +kernel
theorem dL_letter_5 : decode cL_letter 5 = .ok (.getfield 19, 3) := by decide +kernel
theorem dL_letter_8 : decode cL_letter 8 = .ok (.bipush 97, 2) := by decide +kernel
theorem dL_letter_10 : decode cL_letter 10 = .ok (.iload_n 1, 1) := by decide +kernel
theorem dL_letter_11 : decode cL_letter 11 = .ok (.iadd, 1) := by decide +kernel
theorem dL_letter_12 : decode cL_letter 12 = .ok (.iastore, 1) := by decide +kernel
theorem dL_letter_13 : decode cL_letter 13 = .ok (.aload_n 0, 1) := by decide +kernel
theorem dL_letter_14 : decode cL_letter 14 = .ok (.dup, 1) := by decide +kernel
theorem dL_letter_15 : decode cL_letter 15 = .ok (.getfield 19, 3) := by decide +kernel
theorem dL_letter_18 : decode cL_letter 18 = .ok (.iconst 1, 1) := by decide +kernel
theorem dL_letter_19 : decode cL_letter 19 = .ok (.iadd, 1) := by decide +kernel
theorem dL_letter_20 : decode cL_letter 20 = .ok (.putfield 19, 3) := by decide +kernel
theorem dL_letter_23 : decode cL_letter 23 = .ok (.return_, 1) := by decide +kernel
theorem dL_loads_0 : decode cL_loads 0 = .ok (.aload_n 2, 1) := by decide +kernel
theorem dL_loads_1 : decode cL_loads 1 = .ok (.iconst 0, 1) := by decide +kernel
theorem dL_loads_2 : decode cL_loads 2 = .ok (.invokestatic 40, 3) := by decide +kernel
theorem dL_loads_5 : decode cL_loads 5 = .ok (.istore_n 3, 1) := by decide +kernel
theorem dL_loads_6 : decode cL_loads 6 = .ok (.aload_n 0, 1) := by decide +kernel
theorem dL_loads_7 : decode cL_loads 7 = .ok (.ldc 44, 2) := by decide +kernel
theorem dL_loads_9 : decode cL_loads 9 = .ok (.invokevirtual 29, 3) := by decide +kernel
theorem dL_loads_12 : decode cL_loads 12 = .ok (.aload_n 0, 1) := by decide +kernel
theorem dL_loads_13 : decode cL_loads 13 = .ok (.iload_n 3, 1) := by decide +kernel
theorem dL_loads_14 : decode cL_loads 14 = .ok (.iconst 4, 1) := by decide +kernel
theorem dL_loads_15 : decode cL_loads 15 = .ok (.irem, 1) := by decide +kernel
theorem dL_loads_16 : decode cL_loads 16 = .ok (.invokevirtual 46, 3) := by decide +kernel
theorem dL_loads_19 : decode cL_loads 19 = .ok (.aload_n 0, 1) := by decide +kernel
theorem dL_loads_20 : decode cL_loads 20 = .ok (.ldc 50, 2) := by decide +kernel
theorem dL_loads_22 : decode cL_loads 22 = .ok (.invokevirtual 29, 3) := by decide +kernel
theorem dL_loads_25 : decode cL_loads 25 = .ok (.aload_n 0, 1) := by decide +kernel
theorem dL_loads_26 : decode cL_loads 26 = .ok (.iconst 1, 1) := by decide +kernel
theorem dL_loads_27 : decode cL_loads 27 = .ok (.iload_n 3, 1) := by decide +kernel
theorem dL_loads_28 : decode cL_loads 28 = .ok (.iconst 4, 1) := by decide +kernel
theorem dL_loads_29 : decode cL_loads 29 = .ok (.idiv, 1) := by decide +kernel
theorem dL_loads_30 : decode cL_loads 30 = .ok (.iconst 4, 1) := by decide +kernel
theorem dL_loads_31 : decode cL_loads 31 = .ok (.irem, 1) := by decide +kernel
theorem dL_loads_32 : decode cL_loads 32 = .ok (.iadd, 1) := by decide +kernel
theorem dL_loads_33 : decode cL_loads 33 = .ok (.invokevirtual 46, 3) := by decide +kernel
theorem dL_loads_36 : decode cL_loads 36 = .ok (.aload_n 0, 1) := by decide +kernel
theorem dL_loads_37 : decode cL_loads 37 = .ok (.ldc 52, 2) := by decide +kernel
theorem dL_loads_39 : decode cL_loads 39 = .ok (.invokevirtual 29, 3) := by decide +kernel
theorem dL_loads_42 : decode cL_loads 42 = .ok (.aload_n 0, 1) := by decide +kernel
theorem dL_loads_43 : decode cL_loads 43 = .ok (.bipush 8, 2) := by decide +kernel
theorem dL_loads_45 : decode cL_loads 45 = .ok (.iload_n 3, 1) := by decide +kernel
theorem dL_loads_46 : decode cL_loads 46 = .ok (.bipush 16, 2) := by decide +kernel
theorem dL_loads_48 : decode cL_loads 48 = .ok (.idiv, 1) := by decide +kernel
theorem dL_loads_49 : decode cL_loads 49 = .ok (.bipush 8, 2) := by decide +kernel
theorem dL_loads_51 : decode cL_loads 51 = .ok (.irem, 1) := by decide +kernel
theorem dL_loads_52 : decode cL_loads 52 = .ok (.iadd, 1) := by decide +kernel
theorem dL_loads_53 : decode cL_loads 53 = .ok (.invokevirtual 46, 3) := by decide +kernel
theorem dL_loads_56 : decode cL_loads 56 = .ok (.aload_n 0, 1) := by decide +kernel
theorem dL_loads_57 : decode cL_loads 57 = .ok (.bipush 16, 2) := by decide +kernel
theorem dL_loads_59 : decode cL_loads 59 = .ok (.iload_n 3, 1) := by decide +kernel
theorem dL_loads_60 : decode cL_loads 60 = .ok (.sipush 128, 3) := by decide +kernel
theorem dL_loads_63 : decode cL_loads 63 = .ok (.idiv, 1) := by decide +kernel
theorem dL_loads_64 : decode cL_loads 64 = .ok (.bipush 10, 2) := by decide +kernel
theorem dL_loads_66 : decode cL_loads 66 = .ok (.irem, 1) := by decide +kernel
theorem dL_loads_67 : decode cL_loads 67 = .ok (.iadd, 1) := by decide +kernel
theorem dL_loads_68 : decode cL_loads 68 = .ok (.invokevirtual 46, 3) := by decide +kernel
theorem dL_loads_71 : decode cL_loads 71 = .ok (.aload_n 0, 1) := by decide +kernel
theorem dL_loads_72 : decode cL_loads 72 = .ok (.ldc 54, 2) := by decide +kernel
theorem dL_loads_74 : decode cL_loads 74 = .ok (.invokevirtual 29, 3) := by decide +kernel
theorem dL_loads_77 : decode cL_loads 77 = .ok (.iconst 2, 1) := by decide +kernel
theorem dL_loads_78 : decode cL_loads 78 = .ok (.iload_n 3, 1) := by decide +kernel
theorem dL_loads_79 : decode cL_loads 79 = .ok (.sipush 1280, 3) := by decide +kernel
theorem dL_loads_82 : decode cL_loads 82 = .ok (.idiv, 1) := by decide +kernel
theorem dL_loads_83 : decode cL_loads 83 = .ok (.bipush 9, 2) := by decide +kernel
theorem dL_loads_85 : decode cL_loads 85 = .ok (.irem, 1) := by decide +kernel
theorem dL_loads_86 : decode cL_loads 86 = .ok (.iadd, 1) := by decide +kernel
theorem dL_loads_87 : decode cL_loads 87 = .ok (.istore 4, 2) := by decide +kernel
theorem dL_loads_89 : decode cL_loads 89 = .ok (.bipush 60, 2) := by decide +kernel
theorem dL_loads_91 : decode cL_loads 91 = .ok (.newarray .boolean, 2) := by decide +kernel
theorem dL_loads_93 : decode cL_loads 93 = .ok (.astore 5, 2) := by decide +kernel
theorem dL_loads_95 : decode cL_loads 95 = .ok (.iconst 0, 1) := by decide +kernel
theorem dL_loads_96 : decode cL_loads 96 = .ok (.istore 6, 2) := by decide +kernel
theorem dL_loads_98 : decode cL_loads 98 = .ok (.iload 6, 2) := by decide +kernel
theorem dL_loads_100 : decode cL_loads 100 = .ok (.iload 4, 2) := by decide +kernel
theorem dL_loads_102 : decode cL_loads 102 = .ok (.if_icmp .ge 111, 3) := by decide +kernel
theorem dL_loads_105 : decode cL_loads 105 = .ok (.aload_n 2, 1) := by decide +kernel
theorem dL_loads_106 : decode cL_loads 106 = .ok (.iconst 1, 1) := by decide +kernel
theorem dL_loads_107 : decode cL_loads 107 = .ok (.iload 6, 2) := by decide +kernel
theorem dL_loads_109 : decode cL_loads 109 = .ok (.iadd, 1) := by decide +kernel
theorem dL_loads_110 : decode cL_loads 110 = .ok (.invokestatic 40, 3) := by decide +kernel
theorem dL_loads_113 : decode cL_loads 113 = .ok (.istore 7, 2) := by decide +kernel
theorem dL_loads_115 : decode cL_loads 115 = .ok (.iload 7, 2) := by decide +kernel
theorem dL_loads_117 : decode cL_loads 117 = .ok (.iconst 2, 1) := by decide +kernel
theorem dL_loads_118 : decode cL_loads 118 = .ok (.irem, 1) := by decide +kernel
theorem dL_loads_119 : decode cL_loads 119 = .ok (.istore 8, 2) := by decide +kernel
theorem dL_loads_121 : decode cL_loads 121 = .ok (.iload 7, 2) := by decide +kernel
theorem dL_loads_123 : decode cL_loads 123 = .ok (.iconst 2, 1) := by decide +kernel
theorem dL_loads_124 : decode cL_loads 124 = .ok (.idiv, 1) := by decide +kernel
theorem dL_loads_125 : decode cL_loads 125 = .ok (.bipush 15, 2) := by decide +kernel
theorem dL_loads_127 : decode cL_loads 127 = .ok (.irem, 1) := by decide +kernel
theorem dL_loads_128 : decode cL_loads 128 = .ok (.istore 9, 2) := by decide +kernel
theorem dL_loads_130 : decode cL_loads 130 = .ok (.aload 5, 2) := by decide +kernel
theorem dL_loads_132 : decode cL_loads 132 = .ok (.iconst 2, 1) := by decide +kernel
theorem dL_loads_133 : decode cL_loads 133 = .ok (.iload 9, 2) := by decide +kernel
theorem dL_loads_135 : decode cL_loads 135 = .ok (.imul, 1) := by decide +kernel
theorem dL_loads_136 : decode cL_loads 136 = .ok (.iload 8, 2) := by decide +kernel
theorem dL_loads_138 : decode cL_loads 138 = .ok (.iadd, 1) := by decide +kernel
theorem dL_loads_139 : decode cL_loads 139 = .ok (.baload, 1) := by decide +kernel
theorem dL_loads_140 : decode cL_loads 140 = .ok (.ifCond .eq 9, 3) := by decide +kernel
theorem dL_loads_143 : decode cL_loads 143 = .ok (.iinc 9 1, 3) := by decide +kernel
theorem dL_loads_146 : decode cL_loads 146 = .ok (.goto (-16), 3) := by decide +kernel
theorem dL_loads_149 : decode cL_loads 149 = .ok (.aload 5, 2) := by decide +kernel
theorem dL_loads_151 : decode cL_loads 151 = .ok (.iconst 2, 1) := by decide +kernel
theorem dL_loads_152 : decode cL_loads 152 = .ok (.iload 9, 2) := by decide +kernel
theorem dL_loads_154 : decode cL_loads 154 = .ok (.imul, 1) := by decide +kernel
theorem dL_loads_155 : decode cL_loads 155 = .ok (.iload 8, 2) := by decide +kernel
theorem dL_loads_157 : decode cL_loads 157 = .ok (.iadd, 1) := by decide +kernel
theorem dL_loads_158 : decode cL_loads 158 = .ok (.iconst 1, 1) := by decide +kernel
theorem dL_loads_159 : decode cL_loads 159 = .ok (.bastore, 1) := by decide +kernel
theorem dL_loads_160 : decode cL_loads 160 = .ok (.aload_n 0, 1) := by decide +kernel
theorem dL_loads_161 : decode cL_loads 161 = .ok (.ldc 56, 2) := by decide +kernel
theorem dL_loads_163 : decode cL_loads 163 = .ok (.invokevirtual 29, 3) := by decide +kernel
theorem dL_loads_166 : decode cL_loads 166 = .ok (.aload_n 0, 1) := by decide +kernel
theorem dL_loads_167 : decode cL_loads 167 = .ok (.iload 6, 2) := by decide +kernel
theorem dL_loads_169 : decode cL_loads 169 = .ok (.invokevirtual 58, 3) := by decide +kernel
theorem dL_loads_172 : decode cL_loads 172 = .ok (.aload_n 0, 1) := by decide +kernel
theorem dL_loads_173 : decode cL_loads 173 = .ok (.iload 8, 2) := by decide +kernel
theorem dL_loads_175 : decode cL_loads 175 = .ok (.invokevirtual 46, 3) := by decide +kernel
theorem dL_loads_178 : decode cL_loads 178 = .ok (.aload_n 0, 1) := by decide +kernel
theorem dL_loads_179 : decode cL_loads 179 = .ok (.iload 9, 2) := by decide +kernel
theorem dL_loads_181 : decode cL_loads 181 = .ok (.iconst 1, 1) := by decide +kernel
theorem dL_loads_182 : decode cL_loads 182 = .ok (.iadd, 1) := by decide +kernel
theorem dL_loads_183 : decode cL_loads 183 = .ok (.invokevirtual 46, 3) := by decide +kernel
theorem dL_loads_186 : decode cL_loads 186 = .ok (.aload_n 0, 1) := by decide +kernel
theorem dL_loads_187 : decode cL_loads 187 = .ok (.iload 7, 2) := by decide +kernel
theorem dL_loads_189 : decode cL_loads 189 = .ok (.bipush 64, 2) := by decide +kernel
theorem dL_loads_191 : decode cL_loads 191 = .ok (.idiv, 1) := by decide +kernel
theorem dL_loads_192 : decode cL_loads 192 = .ok (.iconst 5, 1) := by decide +kernel
theorem dL_loads_193 : decode cL_loads 193 = .ok (.irem, 1) := by decide +kernel
theorem dL_loads_194 : decode cL_loads 194 = .ok (.ifCond .ne 8, 3) := by decide +kernel
theorem dL_loads_197 : decode cL_loads 197 = .ok (.ldc 61, 2) := by decide +kernel
theorem dL_loads_199 : decode cL_loads 199 = .ok (.goto 5, 3) := by decide +kernel
theorem dL_loads_202 : decode cL_loads 202 = .ok (.ldc 54, 2) := by decide +kernel
theorem dL_loads_204 : decode cL_loads 204 = .ok (.invokevirtual 29, 3) := by decide +kernel
theorem dL_loads_207 : decode cL_loads 207 = .ok (.iinc 6 1, 3) := by decide +kernel
theorem dL_loads_210 : decode cL_loads 210 = .ok (.goto (-112), 3) := by decide +kernel
theorem dL_loads_213 : decode cL_loads 213 = .ok (.iload_n 3, 1) := by decide +kernel
theorem dL_loads_214 : decode cL_loads 214 = .ok (.sipush 20000, 3) := by decide +kernel
theorem dL_loads_217 : decode cL_loads 217 = .ok (.idiv, 1) := by decide +kernel
theorem dL_loads_218 : decode cL_loads 218 = .ok (.bipush 7, 2) := by decide +kernel
theorem dL_loads_220 : decode cL_loads 220 = .ok (.irem, 1) := by decide +kernel
theorem dL_loads_221 : decode cL_loads 221 = .ok (.istore 6, 2) := by decide +kernel
theorem dL_loads_223 : decode cL_loads 223 = .ok (.iconst 0, 1) := by decide +kernel
theorem dL_loads_224 : decode cL_loads 224 = .ok (.istore 7, 2) := by decide +kernel
theorem dL_loads_226 : decode cL_loads 226 = .ok (.iload 7, 2) := by decide +kernel
theorem dL_loads_228 : decode cL_loads 228 = .ok (.iload 6, 2) := by decide +kernel
theorem dL_loads_230 : decode cL_loads 230 = .ok (.if_icmp .ge 116, 3) := by decide +kernel
theorem dL_loads_233 : decode cL_loads 233 = .ok (.aload_n 2, 1) := by decide +kernel
theorem dL_loads_234 : decode cL_loads 234 = .ok (.bipush 11, 2) := by decide +kernel
theorem dL_loads_236 : decode cL_loads 236 = .ok (.iload 7, 2) := by decide +kernel
theorem dL_loads_238 : decode cL_loads 238 = .ok (.iadd, 1) := by decide +kernel
theorem dL_loads_239 : decode cL_loads 239 = .ok (.invokestatic 40, 3) := by decide +kernel
theorem dL_loads_242 : decode cL_loads 242 = .ok (.istore 8, 2) := by decide +kernel
theorem dL_loads_244 : decode cL_loads 244 = .ok (.aload_n 0, 1) := by decide +kernel
theorem dL_loads_245 : decode cL_loads 245 = .ok (.ldc 63, 2) := by decide +kernel
theorem dL_loads_247 : decode cL_loads 247 = .ok (.invokevirtual 29, 3) := by decide +kernel
theorem dL_loads_250 : decode cL_loads 250 = .ok (.aload_n 0, 1) := by decide +kernel
theorem dL_loads_251 : decode cL_loads 251 = .ok (.iload 8, 2) := by decide +kernel
theorem dL_loads_253 : decode cL_loads 253 = .ok (.iconst 2, 1) := by decide +kernel
theorem dL_loads_254 : decode cL_loads 254 = .ok (.irem, 1) := by decide +kernel
theorem dL_loads_255 : decode cL_loads 255 = .ok (.invokevirtual 46, 3) := by decide +kernel
theorem dL_loads_258 : decode cL_loads 258 = .ok (.aload_n 0, 1) := by decide +kernel
theorem dL_loads_259 : decode cL_loads 259 = .ok (.iload 8, 2) := by decide +kernel
theorem dL_loads_261 : decode cL_loads 261 = .ok (.iconst 2, 1) := by decide +kernel
theorem dL_loads_262 : decode cL_loads 262 = .ok (.idiv, 1) := by decide +kernel
theorem dL_loads_263 : decode cL_loads 263 = .ok (.iconst 3, 1) := by decide +kernel
theorem dL_loads_264 : decode cL_loads 264 = .ok (.irem, 1) := by decide +kernel
theorem dL_loads_265 : decode cL_loads 265 = .ok (.ifCond .le 8, 3) := by decide +kernel
theorem dL_loads_268 : decode cL_loads 268 = .ok (.ldc 65, 2) := by decide +kernel
theorem dL_loads_270 : decode cL_loads 270 = .ok (.goto 5, 3) := by decide +kernel
theorem dL_loads_273 : decode cL_loads 273 = .ok (.ldc 67, 2) := by decide +kernel
theorem dL_loads_275 : decode cL_loads 275 = .ok (.invokevirtual 29, 3) := by decide +kernel
theorem dL_loads_278 : decode cL_loads 278 = .ok (.iconst 0, 1) := by decide +kernel
theorem dL_loads_279 : decode cL_loads 279 = .ok (.istore 9, 2) := by decide +kernel
theorem dL_loads_281 : decode cL_loads 281 = .ok (.iload 9, 2) := by decide +kernel
theorem dL_loads_283 : decode cL_loads 283 = .ok (.iconst 2, 1) := by decide +kernel
theorem dL_loads_284 : decode cL_loads 284 = .ok (.if_icmp .ge 50, 3) := by decide +kernel
theorem dL_loads_287 : decode cL_loads 287 = .ok (.iload 8, 2) := by decide +kernel
theorem dL_loads_289 : decode cL_loads 289 = .ok (.iload 9, 2) := by decide +kernel
theorem dL_loads_291 : decode cL_loads 291 = .ok (.ifCond .ne 8, 3) := by decide +kernel
theorem dL_loads_294 : decode cL_loads 294 = .ok (.bipush 8, 2) := by decide +kernel
theorem dL_loads_296 : decode cL_loads 296 = .ok (.goto 6, 3) := by decide +kernel
theorem dL_loads_299 : decode cL_loads 299 = .ok (.sipush 256, 3) := by decide +kernel
theorem dL_loads_302 : decode cL_loads 302 = .ok (.idiv, 1) := by decide +kernel
theorem dL_loads_303 : decode cL_loads 303 = .ok (.bipush 17, 2) := by decide +kernel
theorem dL_loads_305 : decode cL_loads 305 = .ok (.irem, 1) := by decide +kernel
theorem dL_loads_306 : decode cL_loads 306 = .ok (.istore 10, 2) := by decide +kernel
theorem dL_loads_308 : decode cL_loads 308 = .ok (.iload 10, 2) := by decide +kernel
theorem dL_loads_310 : decode cL_loads 310 = .ok (.ifCond .ne 12, 3) := by decide +kernel
theorem dL_loads_313 : decode cL_loads 313 = .ok (.aload_n 0, 1) := by decide +kernel
theorem dL_loads_314 : decode cL_loads 314 = .ok (.ldc 69, 2) := by decide +kernel
theorem dL_loads_316 : decode cL_loads 316 = .ok (.invokevirtual 29, 3) := by decide +kernel
theorem dL_loads_319 : decode cL_loads 319 = .ok (.goto 9, 3) := by decide +kernel
theorem dL_loads_322 : decode cL_loads 322 = .ok (.aload_n 0, 1) := by decide +kernel
theorem dL_loads_323 : decode cL_loads 323 = .ok (.iload 10, 2) := by decide +kernel
theorem dL_loads_325 : decode cL_loads 325 = .ok (.invokevirtual 46, 3) := by decide +kernel
theorem dL_loads_328 : decode cL_loads 328 = .ok (.iinc 9 1, 3) := by decide +kernel
theorem dL_loads_331 : decode cL_loads 331 = .ok (.goto (-50), 3) := by decide +kernel
theorem dL_loads_334 : decode cL_loads 334 = .ok (.aload_n 0, 1) := by decide +kernel
theorem dL_loads_335 : decode cL_loads 335 = .ok (.ldc 54, 2) := by decide +kernel
theorem dL_loads_337 : decode cL_loads 337 = .ok (.invokevirtual 29, 3) := by decide +kernel
theorem dL_loads_340 : decode cL_loads 340 = .ok (.iinc 7 1, 3) := by decide +kernel
theorem dL_loads_343 : decode cL_loads 343 = .ok (.goto (-117), 3) := by decide +kernel
theorem dL_loads_346 : decode cL_loads 346 = .ok (.aload_n 1, 1) := by decide +kernel
theorem dL_loads_347 : decode cL_loads 347 = .ok (.aload_n 0, 1) := by decide +kernel
theorem dL_loads_348 : decode cL_loads 348 = .ok (.aload_n 1, 1) := by decide +kernel
theorem dL_loads_349 : decode cL_loads 349 = .ok (.invokevirtual 71, 3) := by decide +kernel
theorem dL_loads_352 : decode cL_loads 352 = .ok (.invokevirtual 75, 3) := by decide +kernel
theorem dL_loads_355 : decode cL_loads 355 = .ok (.iload 4, 2) := by decide +kernel
theorem dL_loads_357 : decode cL_loads 357 = .ok (.if_icmp .ne 60, 3) := by decide +kernel
theorem dL_loads_360 : decode cL_loads 360 = .ok (.aload_n 1, 1) := by decide +kernel
theorem dL_loads_361 : decode cL_loads 361 = .ok (.invokevirtual 79, 3) := by decide +kernel
theorem dL_loads_364 : decode cL_loads 364 = .ok (.iconst (-1), 1) := by decide +kernel
theorem dL_loads_365 : decode cL_loads 365 = .ok (.if_icmp .ne 52, 3) := by decide +kernel
theorem dL_loads_368 : decode cL_loads 368 = .ok (.aload_n 1, 1) := by decide +kernel
theorem dL_loads_369 : decode cL_loads 369 = .ok (.iconst 0, 1) := by decide +kernel
theorem dL_loads_370 : decode cL_loads 370 = .ok (.invokevirtual 82, 3) := by decide +kernel
theorem dL_loads_373 : decode cL_loads 373 = .ok (.iload 4, 2) := by decide +kernel
theorem dL_loads_375 : decode cL_loads 375 = .ok (.if_icmp .ne 42, 3) := by decide +kernel
theorem dL_loads_378 : decode cL_loads 378 = .ok (.aload_n 1, 1) := by decide +kernel
theorem dL_loads_379 : decode cL_loads 379 = .ok (.iconst 1, 1) := by decide +kernel
theorem dL_loads_380 : decode cL_loads 380 = .ok (.invokevirtual 82, 3) := by decide +kernel
theorem dL_loads_383 : decode cL_loads 383 = .ok (.iload 6, 2) := by decide +kernel
theorem dL_loads_385 : decode cL_loads 385 = .ok (.if_icmp .ne 32, 3) := by decide +kernel
theorem dL_loads_388 : decode cL_loads 388 = .ok (.aload_n 1, 1) := by decide +kernel
theorem dL_loads_389 : decode cL_loads 389 = .ok (.iconst 2, 1) := by decide +kernel
theorem dL_loads_390 : decode cL_loads 390 = .ok (.invokevirtual 82, 3) := by decide +kernel
theorem dL_loads_393 : decode cL_loads 393 = .ok (.ifCond .ne 24, 3) := by decide +kernel
theorem dL_loads_396 : decode cL_loads 396 = .ok (.aload_n 1, 1) := by decide +kernel
theorem dL_loads_397 : decode cL_loads 397 = .ok (.iconst 3, 1) := by decide +kernel
theorem dL_loads_398 : decode cL_loads 398 = .ok (.invokevirtual 82, 3) := by decide +kernel
theorem dL_loads_401 : decode cL_loads 401 = .ok (.ifCond .ne 16, 3) := by decide +kernel
theorem dL_loads_404 : decode cL_loads 404 = .ok (.aload_n 1, 1) := by decide +kernel
theorem dL_loads_405 : decode cL_loads 405 = .ok (.bipush 8, 2) := by decide +kernel
theorem dL_loads_407 : decode cL_loads 407 = .ok (.invokevirtual 82, 3) := by decide +kernel
theorem dL_loads_410 : decode cL_loads 410 = .ok (.ifCond .ne 7, 3) := by decide +kernel
theorem dL_loads_413 : decode cL_loads 413 = .ok (.iconst 1, 1) := by decide +kernel
theorem dL_loads_414 : decode cL_loads 414 = .ok (.goto 4, 3) := by decide +kernel
theorem dL_loads_417 : decode cL_loads 417 = .ok (.iconst 0, 1) := by decide +kernel
theorem dL_loads_418 : decode cL_loads 418 = .ok (.ireturn, 1) := by decide +kernel
theorem dL_acts_0 : decode cL_acts 0 = .ok (.iload_n 1, 1) := by decide +kernel
theorem dL_acts_1 : decode cL_acts 1 = .ok (.bipush 14, 2) := by decide +kernel
theorem dL_acts_3 : decode cL_acts 3 = .ok (.idiv, 1) := by decide +kernel
theorem dL_acts_4 : decode cL_acts 4 = .ok (.istore_n 2, 1) := by decide +kernel
theorem dL_acts_5 : decode cL_acts 5 = .ok (.aload_n 0, 1) := by decide +kernel
theorem dL_acts_6 : decode cL_acts 6 = .ok (.iconst 0, 1) := by decide +kernel
theorem dL_acts_7 : decode cL_acts 7 = .ok (.invokevirtual 82, 3) := by decide +kernel
theorem dL_acts_10 : decode cL_acts 10 = .ok (.istore_n 3, 1) := by decide +kernel
theorem dL_acts_11 : decode cL_acts 11 = .ok (.iload_n 1, 1) := by decide +kernel
theorem dL_acts_12 : decode cL_acts 12 = .ok (.bipush 14, 2) := by decide +kernel
theorem dL_acts_14 : decode cL_acts 14 = .ok (.irem, 1) := by decide +kernel
theorem dL_acts_15 : decode cL_acts 15 = .ok (.tableswitch 248 0 12 #[65, 81, 98, 98, 98, 144, 149, 149, 154, 159, 180, 215, 240], 65) := by decide +kernel
theorem dL_acts_80 : decode cL_acts 80 = .ok (.aload_n 0, 1) := by decide +kernel
theorem dL_acts_81 : decode cL_acts 81 = .ok (.iload_n 2, 1) := by decide +kernel
theorem dL_acts_82 : decode cL_acts 82 = .ok (.iconst 2, 1) := by decide +kernel
theorem dL_acts_83 : decode cL_acts 83 = .ok (.irem, 1) := by decide +kernel
theorem dL_acts_84 : decode cL_acts 84 = .ok (.iconst 1, 1) := by decide +kernel
theorem dL_acts_85 : decode cL_acts 85 = .ok (.iload_n 2, 1) := by decide +kernel
theorem dL_acts_86 : decode cL_acts 86 = .ok (.iconst 2, 1) := by decide +kernel
theorem dL_acts_87 : decode cL_acts 87 = .ok (.idiv, 1) := by decide +kernel
theorem dL_acts_88 : decode cL_acts 88 = .ok (.bipush 25, 2) := by decide +kernel
theorem dL_acts_90 : decode cL_acts 90 = .ok (.irem, 1) := by decide +kernel
theorem dL_acts_91 : decode cL_acts 91 = .ok (.iadd, 1) := by decide +kernel
theorem dL_acts_92 : decode cL_acts 92 = .ok (.invokevirtual 84, 3) := by decide +kernel
theorem dL_acts_95 : decode cL_acts 95 = .ok (.ireturn, 1) := by decide +kernel
theorem dL_acts_96 : decode cL_acts 96 = .ok (.iload_n 3, 1) := by decide +kernel
theorem dL_acts_97 : decode cL_acts 97 = .ok (.ifCond .ne 8, 3) := by decide +kernel
theorem dL_acts_100 : decode cL_acts 100 = .ok (.bipush (-9), 2) := by decide +kernel
theorem dL_acts_102 : decode cL_acts 102 = .ok (.goto 10, 3) := by decide +kernel
theorem dL_acts_105 : decode cL_acts 105 = .ok (.aload_n 0, 1) := by decide +kernel
theorem dL_acts_106 : decode cL_acts 106 = .ok (.iload_n 2, 1) := by decide +kernel
theorem dL_acts_107 : decode cL_acts 107 = .ok (.iload_n 3, 1) := by decide +kernel
theorem dL_acts_108 : decode cL_acts 108 = .ok (.irem, 1) := by decide +kernel
theorem dL_acts_109 : decode cL_acts 109 = .ok (.invokevirtual 88, 3) := by decide +kernel
theorem dL_acts_112 : decode cL_acts 112 = .ok (.ireturn, 1) := by decide +kernel
theorem dL_acts_113 : decode cL_acts 113 = .ok (.iload_n 3, 1) := by decide +kernel
theorem dL_acts_114 : decode cL_acts 114 = .ok (.ifCond .ne 8, 3) := by decide +kernel
theorem dL_acts_117 : decode cL_acts 117 = .ok (.bipush (-9), 2) := by decide +kernel
theorem dL_acts_119 : decode cL_acts 119 = .ok (.goto 39, 3) := by decide +kernel
theorem dL_acts_122 : decode cL_acts 122 = .ok (.aload_n 0, 1) := by decide +kernel
theorem dL_acts_123 : decode cL_acts 123 = .ok (.iload_n 2, 1) := by decide +kernel
theorem dL_acts_124 : decode cL_acts 124 = .ok (.iload_n 3, 1) := by decide +kernel
theorem dL_acts_125 : decode cL_acts 125 = .ok (.irem, 1) := by decide +kernel
theorem dL_acts_126 : decode cL_acts 126 = .ok (.iconst 1, 1) := by decide +kernel
theorem dL_acts_127 : decode cL_acts 127 = .ok (.iload_n 2, 1) := by decide +kernel
theorem dL_acts_128 : decode cL_acts 128 = .ok (.bipush 16, 2) := by decide +kernel
theorem dL_acts_130 : decode cL_acts 130 = .ok (.idiv, 1) := by decide +kernel
theorem dL_acts_131 : decode cL_acts 131 = .ok (.bipush 25, 2) := by decide +kernel
theorem dL_acts_133 : decode cL_acts 133 = .ok (.irem, 1) := by decide +kernel
theorem dL_acts_134 : decode cL_acts 134 = .ok (.iadd, 1) := by decide +kernel
theorem dL_acts_135 : decode cL_acts 135 = .ok (.iconst 1, 1) := by decide +kernel
theorem dL_acts_136 : decode cL_acts 136 = .ok (.bipush 8, 2) := by decide +kernel
theorem dL_acts_138 : decode cL_acts 138 = .ok (.aload_n 0, 1) := by decide +kernel
theorem dL_acts_139 : decode cL_acts 139 = .ok (.iconst 3, 1) := by decide +kernel
theorem dL_acts_140 : decode cL_acts 140 = .ok (.invokevirtual 82, 3) := by decide +kernel
theorem dL_acts_143 : decode cL_acts 143 = .ok (.iload_n 2, 1) := by decide +kernel
theorem dL_acts_144 : decode cL_acts 144 = .ok (.sipush 1024, 3) := by decide +kernel
theorem dL_acts_147 : decode cL_acts 147 = .ok (.idiv, 1) := by decide +kernel
theorem dL_acts_148 : decode cL_acts 148 = .ok (.iconst 2, 1) := by decide +kernel
theorem dL_acts_149 : decode cL_acts 149 = .ok (.irem, 1) := by decide +kernel
theorem dL_acts_150 : decode cL_acts 150 = .ok (.iadd, 1) := by decide +kernel
theorem dL_acts_151 : decode cL_acts 151 = .ok (.invokestatic 91, 3) := by decide +kernel
theorem dL_acts_154 : decode cL_acts 154 = .ok (.iadd, 1) := by decide +kernel
theorem dL_acts_155 : decode cL_acts 155 = .ok (.invokevirtual 96, 3) := by decide +kernel
theorem dL_acts_158 : decode cL_acts 158 = .ok (.ireturn, 1) := by decide +kernel
theorem dL_acts_159 : decode cL_acts 159 = .ok (.aload_n 0, 1) := by decide +kernel
theorem dL_acts_160 : decode cL_acts 160 = .ok (.invokevirtual 100, 3) := by decide +kernel
theorem dL_acts_163 : decode cL_acts 163 = .ok (.ireturn, 1) := by decide +kernel
theorem dL_acts_164 : decode cL_acts 164 = .ok (.aload_n 0, 1) := by decide +kernel
theorem dL_acts_165 : decode cL_acts 165 = .ok (.invokevirtual 103, 3) := by decide +kernel
theorem dL_acts_168 : decode cL_acts 168 = .ok (.ireturn, 1) := by decide +kernel
theorem dL_acts_169 : decode cL_acts 169 = .ok (.aload_n 0, 1) := by decide +kernel
theorem dL_acts_170 : decode cL_acts 170 = .ok (.invokevirtual 106, 3) := by decide +kernel
theorem dL_acts_173 : decode cL_acts 173 = .ok (.ireturn, 1) := by decide +kernel
theorem dL_acts_174 : decode cL_acts 174 = .ok (.aload_n 0, 1) := by decide +kernel
theorem dL_acts_175 : decode cL_acts 175 = .ok (.bipush 8, 2) := by decide +kernel
theorem dL_acts_177 : decode cL_acts 177 = .ok (.invokevirtual 82, 3) := by decide +kernel
theorem dL_acts_180 : decode cL_acts 180 = .ok (.ifCond .ne 10, 3) := by decide +kernel
theorem dL_acts_183 : decode cL_acts 183 = .ok (.aload_n 0, 1) := by decide +kernel
theorem dL_acts_184 : decode cL_acts 184 = .ok (.invokevirtual 109, 3) := by decide +kernel
theorem dL_acts_187 : decode cL_acts 187 = .ok (.goto 7, 3) := by decide +kernel
theorem dL_acts_190 : decode cL_acts 190 = .ok (.aload_n 0, 1) := by decide +kernel
theorem dL_acts_191 : decode cL_acts 191 = .ok (.invokevirtual 112, 3) := by decide +kernel
theorem dL_acts_194 : decode cL_acts 194 = .ok (.ireturn, 1) := by decide +kernel
theorem dL_acts_195 : decode cL_acts 195 = .ok (.aload_n 0, 1) := by decide +kernel
theorem dL_acts_196 : decode cL_acts 196 = .ok (.iload_n 2, 1) := by decide +kernel
theorem dL_acts_197 : decode cL_acts 197 = .ok (.iconst 2, 1) := by decide +kernel
theorem dL_acts_198 : decode cL_acts 198 = .ok (.irem, 1) := by decide +kernel
theorem dL_acts_199 : decode cL_acts 199 = .ok (.iload_n 2, 1) := by decide +kernel
theorem dL_acts_200 : decode cL_acts 200 = .ok (.iconst 2, 1) := by decide +kernel
theorem dL_acts_201 : decode cL_acts 201 = .ok (.idiv, 1) := by decide +kernel
theorem dL_acts_202 : decode cL_acts 202 = .ok (.iconst 2, 1) := by decide +kernel
theorem dL_acts_203 : decode cL_acts 203 = .ok (.irem, 1) := by decide +kernel
theorem dL_acts_204 : decode cL_acts 204 = .ok (.ifCond .ne 7, 3) := by decide +kernel
theorem dL_acts_207 : decode cL_acts 207 = .ok (.iconst 1, 1) := by decide +kernel
theorem dL_acts_208 : decode cL_acts 208 = .ok (.goto 4, 3) := by decide +kernel
theorem dL_acts_211 : decode cL_acts 211 = .ok (.iconst 0, 1) := by decide +kernel
theorem dL_acts_212 : decode cL_acts 212 = .ok (.iload_n 2, 1) := by decide +kernel
theorem dL_acts_213 : decode cL_acts 213 = .ok (.iconst 4, 1) := by decide +kernel
theorem dL_acts_214 : decode cL_acts 214 = .ok (.idiv, 1) := by decide +kernel
theorem dL_acts_215 : decode cL_acts 215 = .ok (.bipush 20, 2) := by decide +kernel
theorem dL_acts_217 : decode cL_acts 217 = .ok (.irem, 1) := by decide +kernel
theorem dL_acts_218 : decode cL_acts 218 = .ok (.iload_n 2, 1) := by decide +kernel
theorem dL_acts_219 : decode cL_acts 219 = .ok (.sipush 128, 3) := by decide +kernel
theorem dL_acts_222 : decode cL_acts 222 = .ok (.idiv, 1) := by decide +kernel
theorem dL_acts_223 : decode cL_acts 223 = .ok (.bipush 20, 2) := by decide +kernel
theorem dL_acts_225 : decode cL_acts 225 = .ok (.irem, 1) := by decide +kernel
theorem dL_acts_226 : decode cL_acts 226 = .ok (.invokevirtual 115, 3) := by decide +kernel
theorem dL_acts_229 : decode cL_acts 229 = .ok (.ireturn, 1) := by decide +kernel
theorem dL_acts_230 : decode cL_acts 230 = .ok (.aload_n 0, 1) := by decide +kernel
theorem dL_acts_231 : decode cL_acts 231 = .ok (.iconst 1, 1) := by decide +kernel
theorem dL_acts_232 : decode cL_acts 232 = .ok (.invokevirtual 82, 3) := by decide +kernel
theorem dL_acts_235 : decode cL_acts 235 = .ok (.ifCond .ne 8, 3) := by decide +kernel
theorem dL_acts_238 : decode cL_acts 238 = .ok (.bipush (-9), 2) := by decide +kernel
theorem dL_acts_240 : decode cL_acts 240 = .ok (.goto 14, 3) := by decide +kernel
theorem dL_acts_243 : decode cL_acts 243 = .ok (.aload_n 0, 1) := by decide +kernel
theorem dL_acts_244 : decode cL_acts 244 = .ok (.iload_n 2, 1) := by decide +kernel
theorem dL_acts_245 : decode cL_acts 245 = .ok (.aload_n 0, 1) := by decide +kernel
theorem dL_acts_246 : decode cL_acts 246 = .ok (.iconst 1, 1) := by decide +kernel
theorem dL_acts_247 : decode cL_acts 247 = .ok (.invokevirtual 82, 3) := by decide +kernel
theorem dL_acts_250 : decode cL_acts 250 = .ok (.irem, 1) := by decide +kernel
theorem dL_acts_251 : decode cL_acts 251 = .ok (.invokevirtual 119, 3) := by decide +kernel
theorem dL_acts_254 : decode cL_acts 254 = .ok (.ireturn, 1) := by decide +kernel
theorem dL_acts_255 : decode cL_acts 255 = .ok (.aload_n 0, 1) := by decide +kernel
theorem dL_acts_256 : decode cL_acts 256 = .ok (.iload_n 2, 1) := by decide +kernel
theorem dL_acts_257 : decode cL_acts 257 = .ok (.iconst 4, 1) := by decide +kernel
theorem dL_acts_258 : decode cL_acts 258 = .ok (.irem, 1) := by decide +kernel
theorem dL_acts_259 : decode cL_acts 259 = .ok (.invokevirtual 122, 3) := by decide +kernel
theorem dL_acts_262 : decode cL_acts 262 = .ok (.ireturn, 1) := by decide +kernel
theorem dL_acts_263 : decode cL_acts 263 = .ok (.iload_n 3, 1) := by decide +kernel
theorem dL_acts_264 : decode cL_acts 264 = .ok (.ifCond .ne 8, 3) := by decide +kernel
theorem dL_acts_267 : decode cL_acts 267 = .ok (.bipush (-9), 2) := by decide +kernel
theorem dL_acts_269 : decode cL_acts 269 = .ok (.goto 42, 3) := by decide +kernel
theorem dL_acts_272 : decode cL_acts 272 = .ok (.iload_n 2, 1) := by decide +kernel
theorem dL_acts_273 : decode cL_acts 273 = .ok (.iconst 3, 1) := by decide +kernel
theorem dL_acts_274 : decode cL_acts 274 = .ok (.irem, 1) := by decide +kernel
theorem dL_acts_275 : decode cL_acts 275 = .ok (.ifCond .ne 29, 3) := by decide +kernel
theorem dL_acts_278 : decode cL_acts 278 = .ok (.aload_n 0, 1) := by decide +kernel
theorem dL_acts_279 : decode cL_acts 279 = .ok (.iload_n 2, 1) := by decide +kernel
theorem dL_acts_280 : decode cL_acts 280 = .ok (.iconst 3, 1) := by decide +kernel
theorem dL_acts_281 : decode cL_acts 281 = .ok (.idiv, 1) := by decide +kernel
theorem dL_acts_282 : decode cL_acts 282 = .ok (.iload_n 3, 1) := by decide +kernel
theorem dL_acts_283 : decode cL_acts 283 = .ok (.irem, 1) := by decide +kernel
theorem dL_acts_284 : decode cL_acts 284 = .ok (.iload_n 2, 1) := by decide +kernel
theorem dL_acts_285 : decode cL_acts 285 = .ok (.bipush 64, 2) := by decide +kernel
theorem dL_acts_287 : decode cL_acts 287 = .ok (.idiv, 1) := by decide +kernel
theorem dL_acts_288 : decode cL_acts 288 = .ok (.iconst 2, 1) := by decide +kernel
theorem dL_acts_289 : decode cL_acts 289 = .ok (.irem, 1) := by decide +kernel
theorem dL_acts_290 : decode cL_acts 290 = .ok (.ifCond .ne 7, 3) := by decide +kernel
theorem dL_acts_293 : decode cL_acts 293 = .ok (.iconst 1, 1) := by decide +kernel
theorem dL_acts_294 : decode cL_acts 294 = .ok (.goto 4, 3) := by decide +kernel
theorem dL_acts_297 : decode cL_acts 297 = .ok (.iconst 0, 1) := by decide +kernel
theorem dL_acts_298 : decode cL_acts 298 = .ok (.invokevirtual 125, 3) := by decide +kernel
theorem dL_acts_301 : decode cL_acts 301 = .ok (.goto 10, 3) := by decide +kernel
theorem dL_acts_304 : decode cL_acts 304 = .ok (.aload_n 0, 1) := by decide +kernel
theorem dL_acts_305 : decode cL_acts 305 = .ok (.iload_n 2, 1) := by decide +kernel
theorem dL_acts_306 : decode cL_acts 306 = .ok (.iload_n 3, 1) := by decide +kernel
theorem dL_acts_307 : decode cL_acts 307 = .ok (.irem, 1) := by decide +kernel
theorem dL_acts_308 : decode cL_acts 308 = .ok (.invokevirtual 129, 3) := by decide +kernel
theorem dL_acts_311 : decode cL_acts 311 = .ok (.ireturn, 1) := by decide +kernel
theorem dL_holds_0 : decode cL_holds 0 = .ok (.aload_n 0, 1) := by decide +kernel
theorem dL_holds_1 : decode cL_holds 1 = .ok (.iload_n 1, 1) := by decide +kernel
theorem dL_holds_2 : decode cL_holds 2 = .ok (.iconst 1, 1) := by decide +kernel
theorem dL_holds_3 : decode cL_holds 3 = .ok (.invokevirtual 132, 3) := by decide +kernel
theorem dL_holds_6 : decode cL_holds 6 = .ok (.iload_n 2, 1) := by decide +kernel
theorem dL_holds_7 : decode cL_holds 7 = .ok (.if_icmp .eq 13, 3) := by decide +kernel
theorem dL_holds_10 : decode cL_holds 10 = .ok (.aload_n 0, 1) := by decide +kernel
theorem dL_holds_11 : decode cL_holds 11 = .ok (.iload_n 1, 1) := by decide +kernel
theorem dL_holds_12 : decode cL_holds 12 = .ok (.iconst 2, 1) := by decide +kernel
theorem dL_holds_13 : decode cL_holds 13 = .ok (.invokevirtual 132, 3) := by decide +kernel
theorem dL_holds_16 : decode cL_holds 16 = .ok (.iload_n 2, 1) := by decide +kernel
theorem dL_holds_17 : decode cL_holds 17 = .ok (.if_icmp .ne 7, 3) := by decide +kernel
theorem dL_holds_20 : decode cL_holds 20 = .ok (.iconst 1, 1) := by decide +kernel
theorem dL_holds_21 : decode cL_holds 21 = .ok (.goto 4, 3) := by decide +kernel
theorem dL_holds_24 : decode cL_holds 24 = .ok (.iconst 0, 1) := by decide +kernel
theorem dL_holds_25 : decode cL_holds 25 = .ok (.ireturn, 1) := by decide +kernel
theorem dL_areOfNet_0 : decode cL_areOfNet 0 = .ok (.aload_n 0, 1) := by decide +kernel
theorem dL_areOfNet_1 : decode cL_areOfNet 1 = .ok (.bipush 8, 2) := by decide +kernel
theorem dL_areOfNet_3 : decode cL_areOfNet 3 = .ok (.invokevirtual 82, 3) := by decide +kernel
theorem dL_areOfNet_6 : decode cL_areOfNet 6 = .ok (.iconst 1, 1) := by decide +kernel
theorem dL_areOfNet_7 : decode cL_areOfNet 7 = .ok (.if_icmp .eq 18, 3) := by decide +kernel
theorem dL_areOfNet_10 : decode cL_areOfNet 10 = .ok (.aload_n 0, 1) := by decide +kernel
theorem dL_areOfNet_11 : decode cL_areOfNet 11 = .ok (.iload_n 1, 1) := by decide +kernel
theorem dL_areOfNet_12 : decode cL_areOfNet 12 = .ok (.iconst 0, 1) := by decide +kernel
theorem dL_areOfNet_13 : decode cL_areOfNet 13 = .ok (.invokevirtual 132, 3) := by decide +kernel
theorem dL_areOfNet_16 : decode cL_areOfNet 16 = .ok (.aload_n 0, 1) := by decide +kernel
theorem dL_areOfNet_17 : decode cL_areOfNet 17 = .ok (.iload_n 2, 1) := by decide +kernel
theorem dL_areOfNet_18 : decode cL_areOfNet 18 = .ok (.iconst 0, 1) := by decide +kernel
theorem dL_areOfNet_19 : decode cL_areOfNet 19 = .ok (.invokevirtual 132, 3) := by decide +kernel
theorem dL_areOfNet_22 : decode cL_areOfNet 22 = .ok (.if_icmp .ne 7, 3) := by decide +kernel
theorem dL_areOfNet_25 : decode cL_areOfNet 25 = .ok (.iconst 1, 1) := by decide +kernel
theorem dL_areOfNet_26 : decode cL_areOfNet 26 = .ok (.goto 4, 3) := by decide +kernel
theorem dL_areOfNet_29 : decode cL_areOfNet 29 = .ok (.iconst 0, 1) := by decide +kernel
theorem dL_areOfNet_30 : decode cL_areOfNet 30 = .ok (.ireturn, 1) := by decide +kernel
theorem dL_law_0 : decode cL_law 0 = .ok (.new 8, 3) := by decide +kernel
theorem dL_law_3 : decode cL_law 3 = .ok (.dup, 1) := by decide +kernel
theorem dL_law_4 : decode cL_law 4 = .ok (.invokespecial 135, 3) := by decide +kernel
theorem dL_law_7 : decode cL_law 7 = .ok (.astore_n 1, 1) := by decide +kernel
theorem dL_law_8 : decode cL_law 8 = .ok (.new 35, 3) := by decide +kernel
theorem dL_law_11 : decode cL_law 11 = .ok (.dup, 1) := by decide +kernel
theorem dL_law_12 : decode cL_law 12 = .ok (.invokespecial 136, 3) := by decide +kernel
theorem dL_law_15 : decode cL_law 15 = .ok (.astore_n 2, 1) := by decide +kernel
theorem dL_law_16 : decode cL_law 16 = .ok (.aload_n 1, 1) := by decide +kernel
theorem dL_law_17 : decode cL_law 17 = .ok (.aload_n 2, 1) := by decide +kernel
theorem dL_law_18 : decode cL_law 18 = .ok (.aload_n 0, 1) := by decide +kernel
theorem dL_law_19 : decode cL_law 19 = .ok (.invokevirtual 137, 3) := by decide +kernel
theorem dL_law_22 : decode cL_law 22 = .ok (.ifCond .eq 15, 3) := by decide +kernel
theorem dL_law_25 : decode cL_law 25 = .ok (.aload_n 2, 1) := by decide +kernel
theorem dL_law_26 : decode cL_law 26 = .ok (.aload_n 0, 1) := by decide +kernel
theorem dL_law_27 : decode cL_law 27 = .ok (.invokestatic 141, 3) := by decide +kernel
theorem dL_law_30 : decode cL_law 30 = .ok (.ifCond .eq 7, 3) := by decide +kernel
theorem dL_law_33 : decode cL_law 33 = .ok (.iconst 1, 1) := by decide +kernel
theorem dL_law_34 : decode cL_law 34 = .ok (.goto 4, 3) := by decide +kernel
theorem dL_law_37 : decode cL_law 37 = .ok (.iconst 0, 1) := by decide +kernel
theorem dL_law_38 : decode cL_law 38 = .ok (.ireturn, 1) := by decide +kernel
theorem dL_holds__0 : decode cL_holds_ 0 = .ok (.bipush 18, 2) := by decide +kernel
theorem dL_holds__2 : decode cL_holds_ 2 = .ok (.istore_n 2, 1) := by decide +kernel
theorem dL_holds__3 : decode cL_holds_ 3 = .ok (.iload_n 2, 1) := by decide +kernel
theorem dL_holds__4 : decode cL_holds_ 4 = .ok (.bipush 32, 2) := by decide +kernel
theorem dL_holds__6 : decode cL_holds_ 6 = .ok (.if_icmp .ge 42, 3) := by decide +kernel
theorem dL_holds__9 : decode cL_holds_ 9 = .ok (.aload_n 0, 1) := by decide +kernel
theorem dL_holds__10 : decode cL_holds_ 10 = .ok (.invokestatic 144, 3) := by decide +kernel
theorem dL_holds__13 : decode cL_holds_ 13 = .ok (.ifCond .eq 17, 3) := by decide +kernel
theorem dL_holds__16 : decode cL_holds_ 16 = .ok (.aload_n 0, 1) := by decide +kernel
theorem dL_holds__17 : decode cL_holds_ 17 = .ok (.invokestatic 148, 3) := by decide +kernel
theorem dL_holds__20 : decode cL_holds_ 20 = .ok (.ifCond .eq 10, 3) := by decide +kernel
theorem dL_holds__23 : decode cL_holds_ 23 = .ok (.aload_n 0, 1) := by decide +kernel
theorem dL_holds__24 : decode cL_holds_ 24 = .ok (.invokestatic 151, 3) := by decide +kernel
theorem dL_holds__27 : decode cL_holds_ 27 = .ok (.ifCond .ne 5, 3) := by decide +kernel
theorem dL_holds__30 : decode cL_holds_ 30 = .ok (.iconst 0, 1) := by decide +kernel
theorem dL_holds__31 : decode cL_holds_ 31 = .ok (.ireturn, 1) := by decide +kernel
theorem dL_holds__32 : decode cL_holds_ 32 = .ok (.aload_n 0, 1) := by decide +kernel
theorem dL_holds__33 : decode cL_holds_ 33 = .ok (.aload_n 1, 1) := by decide +kernel
theorem dL_holds__34 : decode cL_holds_ 34 = .ok (.iload_n 2, 1) := by decide +kernel
theorem dL_holds__35 : decode cL_holds_ 35 = .ok (.invokestatic 40, 3) := by decide +kernel
theorem dL_holds__38 : decode cL_holds_ 38 = .ok (.invokestatic 154, 3) := by decide +kernel
theorem dL_holds__41 : decode cL_holds_ 41 = .ok (.istore_n 3, 1) := by decide +kernel
theorem dL_holds__42 : decode cL_holds_ 42 = .ok (.iinc 2 1, 3) := by decide +kernel
theorem dL_holds__45 : decode cL_holds_ 45 = .ok (.goto (-42), 3) := by decide +kernel
theorem dL_holds__48 : decode cL_holds_ 48 = .ok (.aload_n 0, 1) := by decide +kernel
theorem dL_holds__49 : decode cL_holds_ 49 = .ok (.invokestatic 144, 3) := by decide +kernel
theorem dL_holds__52 : decode cL_holds_ 52 = .ok (.ireturn, 1) := by decide +kernel
theorem dL_isRight_0 : decode cL_isRight 0 = .ok (.iconst 0, 1) := by decide +kernel
theorem dL_isRight_1 : decode cL_isRight 1 = .ok (.istore_n 1, 1) := by decide +kernel
theorem dL_isRight_2 : decode cL_isRight 2 = .ok (.iconst 0, 1) := by decide +kernel
theorem dL_isRight_3 : decode cL_isRight 3 = .ok (.istore_n 2, 1) := by decide +kernel
theorem dL_isRight_4 : decode cL_isRight 4 = .ok (.iconst 0, 1) := by decide +kernel
theorem dL_isRight_5 : decode cL_isRight 5 = .ok (.istore_n 3, 1) := by decide +kernel
theorem dL_isRight_6 : decode cL_isRight 6 = .ok (.iload_n 3, 1) := by decide +kernel
theorem dL_isRight_7 : decode cL_isRight 7 = .ok (.aload_n 0, 1) := by decide +kernel
theorem dL_isRight_8 : decode cL_isRight 8 = .ok (.iconst 0, 1) := by decide +kernel
theorem dL_isRight_9 : decode cL_isRight 9 = .ok (.invokevirtual 82, 3) := by decide +kernel
theorem dL_isRight_12 : decode cL_isRight 12 = .ok (.if_icmp .ge 230, 3) := by decide +kernel
theorem dL_isRight_15 : decode cL_isRight 15 = .ok (.aload_n 0, 1) := by decide +kernel
theorem dL_isRight_16 : decode cL_isRight 16 = .ok (.iload_n 3, 1) := by decide +kernel
theorem dL_isRight_17 : decode cL_isRight 17 = .ok (.iconst 2, 1) := by decide +kernel
theorem dL_isRight_18 : decode cL_isRight 18 = .ok (.invokevirtual 132, 3) := by decide +kernel
theorem dL_isRight_21 : decode cL_isRight 21 = .ok (.istore 4, 2) := by decide +kernel
theorem dL_isRight_23 : decode cL_isRight 23 = .ok (.aload_n 0, 1) := by decide +kernel
theorem dL_isRight_24 : decode cL_isRight 24 = .ok (.iload_n 3, 1) := by decide +kernel
theorem dL_isRight_25 : decode cL_isRight 25 = .ok (.bipush 6, 2) := by decide +kernel
theorem dL_isRight_27 : decode cL_isRight 27 = .ok (.invokevirtual 132, 3) := by decide +kernel
theorem dL_isRight_30 : decode cL_isRight 30 = .ok (.istore 5, 2) := by decide +kernel
theorem dL_isRight_32 : decode cL_isRight 32 = .ok (.iload_n 1, 1) := by decide +kernel
theorem dL_isRight_33 : decode cL_isRight 33 = .ok (.iload 4, 2) := by decide +kernel
theorem dL_isRight_35 : decode cL_isRight 35 = .ok (.ifCond .le 7, 3) := by decide +kernel
theorem dL_isRight_38 : decode cL_isRight 38 = .ok (.iconst 1, 1) := by decide +kernel
theorem dL_isRight_39 : decode cL_isRight 39 = .ok (.goto 4, 3) := by decide +kernel
theorem dL_isRight_42 : decode cL_isRight 42 = .ok (.iconst 0, 1) := by decide +kernel
theorem dL_isRight_43 : decode cL_isRight 43 = .ok (.iadd, 1) := by decide +kernel
theorem dL_isRight_44 : decode cL_isRight 44 = .ok (.istore_n 1, 1) := by decide +kernel
theorem dL_isRight_45 : decode cL_isRight 45 = .ok (.iload_n 2, 1) := by decide +kernel
theorem dL_isRight_46 : decode cL_isRight 46 = .ok (.aload_n 0, 1) := by decide +kernel
theorem dL_isRight_47 : decode cL_isRight 47 = .ok (.iload_n 3, 1) := by decide +kernel
theorem dL_isRight_48 : decode cL_isRight 48 = .ok (.iconst 5, 1) := by decide +kernel
theorem dL_isRight_49 : decode cL_isRight 49 = .ok (.invokevirtual 132, 3) := by decide +kernel
theorem dL_isRight_52 : decode cL_isRight 52 = .ok (.ifCond .le 7, 3) := by decide +kernel
theorem dL_isRight_55 : decode cL_isRight 55 = .ok (.iconst 1, 1) := by decide +kernel
theorem dL_isRight_56 : decode cL_isRight 56 = .ok (.goto 4, 3) := by decide +kernel
theorem dL_isRight_59 : decode cL_isRight 59 = .ok (.iconst 0, 1) := by decide +kernel
theorem dL_isRight_60 : decode cL_isRight 60 = .ok (.iadd, 1) := by decide +kernel
theorem dL_isRight_61 : decode cL_isRight 61 = .ok (.istore_n 2, 1) := by decide +kernel
theorem dL_isRight_62 : decode cL_isRight 62 = .ok (.iload 4, 2) := by decide +kernel
theorem dL_isRight_64 : decode cL_isRight 64 = .ok (.ifCond .le 7, 3) := by decide +kernel
theorem dL_isRight_67 : decode cL_isRight 67 = .ok (.iconst 1, 1) := by decide +kernel
theorem dL_isRight_68 : decode cL_isRight 68 = .ok (.goto 4, 3) := by decide +kernel
theorem dL_isRight_71 : decode cL_isRight 71 = .ok (.iconst 0, 1) := by decide +kernel
theorem dL_isRight_72 : decode cL_isRight 72 = .ok (.iload 5, 2) := by decide +kernel
theorem dL_isRight_74 : decode cL_isRight 74 = .ok (.ifCond .le 23, 3) := by decide +kernel
theorem dL_isRight_77 : decode cL_isRight 77 = .ok (.aload_n 0, 1) := by decide +kernel
theorem dL_isRight_78 : decode cL_isRight 78 = .ok (.iconst 3, 1) := by decide +kernel
theorem dL_isRight_79 : decode cL_isRight 79 = .ok (.invokevirtual 82, 3) := by decide +kernel
theorem dL_isRight_82 : decode cL_isRight 82 = .ok (.iload 5, 2) := by decide +kernel
theorem dL_isRight_84 : decode cL_isRight 84 = .ok (.aload_n 0, 1) := by decide +kernel
theorem dL_isRight_85 : decode cL_isRight 85 = .ok (.iconst 4, 1) := by decide +kernel
theorem dL_isRight_86 : decode cL_isRight 86 = .ok (.invokevirtual 82, 3) := by decide +kernel
theorem dL_isRight_89 : decode cL_isRight 89 = .ok (.iadd, 1) := by decide +kernel
theorem dL_isRight_90 : decode cL_isRight 90 = .ok (.if_icmp .ge 7, 3) := by decide +kernel
theorem dL_isRight_93 : decode cL_isRight 93 = .ok (.iconst 1, 1) := by decide +kernel
theorem dL_isRight_94 : decode cL_isRight 94 = .ok (.goto 4, 3) := by decide +kernel
theorem dL_isRight_97 : decode cL_isRight 97 = .ok (.iconst 0, 1) := by decide +kernel
theorem dL_isRight_98 : decode cL_isRight 98 = .ok (.if_icmp .ne 13, 3) := by decide +kernel
theorem dL_isRight_101 : decode cL_isRight 101 = .ok (.iload 5, 2) := by decide +kernel
theorem dL_isRight_103 : decode cL_isRight 103 = .ok (.aload_n 0, 1) := by decide +kernel
theorem dL_isRight_104 : decode cL_isRight 104 = .ok (.iconst 3, 1) := by decide +kernel
theorem dL_isRight_105 : decode cL_isRight 105 = .ok (.invokevirtual 82, 3) := by decide +kernel
theorem dL_isRight_108 : decode cL_isRight 108 = .ok (.if_icmp .le 5, 3) := by decide +kernel
theorem dL_isRight_111 : decode cL_isRight 111 = .ok (.iconst 0, 1) := by decide +kernel
theorem dL_isRight_112 : decode cL_isRight 112 = .ok (.ireturn, 1) := by decide +kernel
theorem dL_isRight_113 : decode cL_isRight 113 = .ok (.aload_n 0, 1) := by decide +kernel
theorem dL_isRight_114 : decode cL_isRight 114 = .ok (.iload_n 3, 1) := by decide +kernel
theorem dL_isRight_115 : decode cL_isRight 115 = .ok (.iconst 5, 1) := by decide +kernel
theorem dL_isRight_116 : decode cL_isRight 116 = .ok (.invokevirtual 132, 3) := by decide +kernel
theorem dL_isRight_119 : decode cL_isRight 119 = .ok (.ifCond .le 36, 3) := by decide +kernel
theorem dL_isRight_122 : decode cL_isRight 122 = .ok (.aload_n 0, 1) := by decide +kernel
theorem dL_isRight_123 : decode cL_isRight 123 = .ok (.iload_n 3, 1) := by decide +kernel
theorem dL_isRight_124 : decode cL_isRight 124 = .ok (.iconst 3, 1) := by decide +kernel
theorem dL_isRight_125 : decode cL_isRight 125 = .ok (.invokevirtual 132, 3) := by decide +kernel
theorem dL_isRight_128 : decode cL_isRight 128 = .ok (.iconst 1, 1) := by decide +kernel
theorem dL_isRight_129 : decode cL_isRight 129 = .ok (.if_icmp .eq 44, 3) := by decide +kernel
theorem dL_isRight_132 : decode cL_isRight 132 = .ok (.aload_n 0, 1) := by decide +kernel
theorem dL_isRight_133 : decode cL_isRight 133 = .ok (.iload_n 3, 1) := by decide +kernel
theorem dL_isRight_134 : decode cL_isRight 134 = .ok (.iconst 5, 1) := by decide +kernel
theorem dL_isRight_135 : decode cL_isRight 135 = .ok (.invokevirtual 132, 3) := by decide +kernel
theorem dL_isRight_138 : decode cL_isRight 138 = .ok (.aload_n 0, 1) := by decide +kernel
theorem dL_isRight_139 : decode cL_isRight 139 = .ok (.iconst 3, 1) := by decide +kernel
theorem dL_isRight_140 : decode cL_isRight 140 = .ok (.invokevirtual 82, 3) := by decide +kernel
theorem dL_isRight_143 : decode cL_isRight 143 = .ok (.if_icmp .le 30, 3) := by decide +kernel
theorem dL_isRight_146 : decode cL_isRight 146 = .ok (.aload_n 0, 1) := by decide +kernel
theorem dL_isRight_147 : decode cL_isRight 147 = .ok (.iload_n 3, 1) := by decide +kernel
theorem dL_isRight_148 : decode cL_isRight 148 = .ok (.iconst 4, 1) := by decide +kernel
theorem dL_isRight_149 : decode cL_isRight 149 = .ok (.invokevirtual 132, 3) := by decide +kernel
theorem dL_isRight_152 : decode cL_isRight 152 = .ok (.ifCond .eq 21, 3) := by decide +kernel
theorem dL_isRight_155 : decode cL_isRight 155 = .ok (.aload_n 0, 1) := by decide +kernel
theorem dL_isRight_156 : decode cL_isRight 156 = .ok (.iload_n 3, 1) := by decide +kernel
theorem dL_isRight_157 : decode cL_isRight 157 = .ok (.iconst 5, 1) := by decide +kernel
theorem dL_isRight_158 : decode cL_isRight 158 = .ok (.invokevirtual 132, 3) := by decide +kernel
theorem dL_isRight_161 : decode cL_isRight 161 = .ok (.ifCond .ne 14, 3) := by decide +kernel
theorem dL_isRight_164 : decode cL_isRight 164 = .ok (.aload_n 0, 1) := by decide +kernel
theorem dL_isRight_165 : decode cL_isRight 165 = .ok (.iload_n 3, 1) := by decide +kernel
theorem dL_isRight_166 : decode cL_isRight 166 = .ok (.iconst 4, 1) := by decide +kernel
theorem dL_isRight_167 : decode cL_isRight 167 = .ok (.invokevirtual 132, 3) := by decide +kernel
theorem dL_isRight_170 : decode cL_isRight 170 = .ok (.ifCond .eq 5, 3) := by decide +kernel
theorem dL_isRight_173 : decode cL_isRight 173 = .ok (.iconst 0, 1) := by decide +kernel
theorem dL_isRight_174 : decode cL_isRight 174 = .ok (.ireturn, 1) := by decide +kernel
theorem dL_isRight_175 : decode cL_isRight 175 = .ok (.iconst 0, 1) := by decide +kernel
theorem dL_isRight_176 : decode cL_isRight 176 = .ok (.istore 6, 2) := by decide +kernel
theorem dL_isRight_178 : decode cL_isRight 178 = .ok (.iload 6, 2) := by decide +kernel
theorem dL_isRight_180 : decode cL_isRight 180 = .ok (.iload_n 3, 1) := by decide +kernel
theorem dL_isRight_181 : decode cL_isRight 181 = .ok (.if_icmp .ge 55, 3) := by decide +kernel
theorem dL_isRight_184 : decode cL_isRight 184 = .ok (.aload_n 0, 1) := by decide +kernel
theorem dL_isRight_185 : decode cL_isRight 185 = .ok (.iload_n 3, 1) := by decide +kernel
theorem dL_isRight_186 : decode cL_isRight 186 = .ok (.iload 6, 2) := by decide +kernel
theorem dL_isRight_188 : decode cL_isRight 188 = .ok (.invokestatic 158, 3) := by decide +kernel
theorem dL_isRight_191 : decode cL_isRight 191 = .ok (.ifCond .ne 6, 3) := by decide +kernel
theorem dL_isRight_194 : decode cL_isRight 194 = .ok (.goto 36, 3) := by decide +kernel
theorem dL_isRight_197 : decode cL_isRight 197 = .ok (.aload_n 0, 1) := by decide +kernel
theorem dL_isRight_198 : decode cL_isRight 198 = .ok (.iload 6, 2) := by decide +kernel
theorem dL_isRight_200 : decode cL_isRight 200 = .ok (.aload_n 0, 1) := by decide +kernel
theorem dL_isRight_201 : decode cL_isRight 201 = .ok (.iload_n 3, 1) := by decide +kernel
theorem dL_isRight_202 : decode cL_isRight 202 = .ok (.iconst 1, 1) := by decide +kernel
theorem dL_isRight_203 : decode cL_isRight 203 = .ok (.invokevirtual 132, 3) := by decide +kernel
theorem dL_isRight_206 : decode cL_isRight 206 = .ok (.invokestatic 162, 3) := by decide +kernel
theorem dL_isRight_209 : decode cL_isRight 209 = .ok (.ifCond .ne 19, 3) := by decide +kernel
theorem dL_isRight_212 : decode cL_isRight 212 = .ok (.iload 4, 2) := by decide +kernel
theorem dL_isRight_214 : decode cL_isRight 214 = .ok (.ifCond .le 16, 3) := by decide +kernel
theorem dL_isRight_217 : decode cL_isRight 217 = .ok (.aload_n 0, 1) := by decide +kernel
theorem dL_isRight_218 : decode cL_isRight 218 = .ok (.iload 6, 2) := by decide +kernel
theorem dL_isRight_220 : decode cL_isRight 220 = .ok (.iload 4, 2) := by decide +kernel
theorem dL_isRight_222 : decode cL_isRight 222 = .ok (.invokestatic 162, 3) := by decide +kernel
theorem dL_isRight_225 : decode cL_isRight 225 = .ok (.ifCond .eq 5, 3) := by decide +kernel
theorem dL_isRight_228 : decode cL_isRight 228 = .ok (.iconst 0, 1) := by decide +kernel
theorem dL_isRight_229 : decode cL_isRight 229 = .ok (.ireturn, 1) := by decide +kernel
theorem dL_isRight_230 : decode cL_isRight 230 = .ok (.iinc 6 1, 3) := by decide +kernel
theorem dL_isRight_233 : decode cL_isRight 233 = .ok (.goto (-55), 3) := by decide +kernel
theorem dL_isRight_236 : decode cL_isRight 236 = .ok (.iinc 3 1, 3) := by decide +kernel
theorem dL_isRight_239 : decode cL_isRight 239 = .ok (.goto (-233), 3) := by decide +kernel
theorem dL_isRight_242 : decode cL_isRight 242 = .ok (.aload_n 0, 1) := by decide +kernel
theorem dL_isRight_243 : decode cL_isRight 243 = .ok (.bipush 10, 2) := by decide +kernel
theorem dL_isRight_245 : decode cL_isRight 245 = .ok (.invokevirtual 82, 3) := by decide +kernel
theorem dL_isRight_248 : decode cL_isRight 248 = .ok (.iload_n 1, 1) := by decide +kernel
theorem dL_isRight_249 : decode cL_isRight 249 = .ok (.if_icmp .ne 16, 3) := by decide +kernel
theorem dL_isRight_252 : decode cL_isRight 252 = .ok (.aload_n 0, 1) := by decide +kernel
theorem dL_isRight_253 : decode cL_isRight 253 = .ok (.iconst 2, 1) := by decide +kernel
theorem dL_isRight_254 : decode cL_isRight 254 = .ok (.invokevirtual 82, 3) := by decide +kernel
theorem dL_isRight_257 : decode cL_isRight 257 = .ok (.iload_n 2, 1) := by decide +kernel
theorem dL_isRight_258 : decode cL_isRight 258 = .ok (.if_icmp .ne 7, 3) := by decide +kernel
theorem dL_isRight_261 : decode cL_isRight 261 = .ok (.iconst 1, 1) := by decide +kernel
theorem dL_isRight_262 : decode cL_isRight 262 = .ok (.goto 4, 3) := by decide +kernel
theorem dL_isRight_265 : decode cL_isRight 265 = .ok (.iconst 0, 1) := by decide +kernel
theorem dL_isRight_266 : decode cL_isRight 266 = .ok (.ireturn, 1) := by decide +kernel
theorem dL_isClashes_0 : decode cL_isClashes 0 = .ok (.iconst 0, 1) := by decide +kernel
theorem dL_isClashes_1 : decode cL_isClashes 1 = .ok (.istore_n 1, 1) := by decide +kernel
theorem dL_isClashes_2 : decode cL_isClashes 2 = .ok (.iconst 1, 1) := by decide +kernel
theorem dL_isClashes_3 : decode cL_isClashes 3 = .ok (.istore_n 2, 1) := by decide +kernel
theorem dL_isClashes_4 : decode cL_isClashes 4 = .ok (.iload_n 2, 1) := by decide +kernel
theorem dL_isClashes_5 : decode cL_isClashes 5 = .ok (.bipush 60, 2) := by decide +kernel
theorem dL_isClashes_7 : decode cL_isClashes 7 = .ok (.if_icmp .gt 118, 3) := by decide +kernel
theorem dL_isClashes_10 : decode cL_isClashes 10 = .ok (.iconst (-1), 1) := by decide +kernel
theorem dL_isClashes_11 : decode cL_isClashes 11 = .ok (.istore_n 3, 1) := by decide +kernel
theorem dL_isClashes_12 : decode cL_isClashes 12 = .ok (.iconst (-1), 1) := by decide +kernel
theorem dL_isClashes_13 : decode cL_isClashes 13 = .ok (.istore 4, 2) := by decide +kernel
theorem dL_isClashes_15 : decode cL_isClashes 15 = .ok (.aload_n 0, 1) := by decide +kernel
theorem dL_isClashes_16 : decode cL_isClashes 16 = .ok (.iconst 0, 1) := by decide +kernel
theorem dL_isClashes_17 : decode cL_isClashes 17 = .ok (.invokevirtual 82, 3) := by decide +kernel
theorem dL_isClashes_20 : decode cL_isClashes 20 = .ok (.iconst 1, 1) := by decide +kernel
theorem dL_isClashes_21 : decode cL_isClashes 21 = .ok (.isub, 1) := by decide +kernel
theorem dL_isClashes_22 : decode cL_isClashes 22 = .ok (.istore 5, 2) := by decide +kernel
theorem dL_isClashes_24 : decode cL_isClashes 24 = .ok (.iload 5, 2) := by decide +kernel
theorem dL_isClashes_26 : decode cL_isClashes 26 = .ok (.ifCond .lt 42, 3) := by decide +kernel
theorem dL_isClashes_29 : decode cL_isClashes 29 = .ok (.aload_n 0, 1) := by decide +kernel
theorem dL_isClashes_30 : decode cL_isClashes 30 = .ok (.iload 5, 2) := by decide +kernel
theorem dL_isClashes_32 : decode cL_isClashes 32 = .ok (.iload_n 2, 1) := by decide +kernel
theorem dL_isClashes_33 : decode cL_isClashes 33 = .ok (.invokestatic 162, 3) := by decide +kernel
theorem dL_isClashes_36 : decode cL_isClashes 36 = .ok (.ifCond .ne 6, 3) := by decide +kernel
theorem dL_isClashes_39 : decode cL_isClashes 39 = .ok (.goto 23, 3) := by decide +kernel
theorem dL_isClashes_42 : decode cL_isClashes 42 = .ok (.aload_n 0, 1) := by decide +kernel
theorem dL_isClashes_43 : decode cL_isClashes 43 = .ok (.iload 5, 2) := by decide +kernel
theorem dL_isClashes_45 : decode cL_isClashes 45 = .ok (.iconst 0, 1) := by decide +kernel
theorem dL_isClashes_46 : decode cL_isClashes 46 = .ok (.invokevirtual 132, 3) := by decide +kernel
theorem dL_isClashes_49 : decode cL_isClashes 49 = .ok (.ifCond .ne 9, 3) := by decide +kernel
theorem dL_isClashes_52 : decode cL_isClashes 52 = .ok (.iload 5, 2) := by decide +kernel
theorem dL_isClashes_54 : decode cL_isClashes 54 = .ok (.istore_n 3, 1) := by decide +kernel
theorem dL_isClashes_55 : decode cL_isClashes 55 = .ok (.goto 7, 3) := by decide +kernel
theorem dL_isClashes_58 : decode cL_isClashes 58 = .ok (.iload 5, 2) := by decide +kernel
theorem dL_isClashes_60 : decode cL_isClashes 60 = .ok (.istore 4, 2) := by decide +kernel
theorem dL_isClashes_62 : decode cL_isClashes 62 = .ok (.iinc 5 (-1), 3) := by decide +kernel
theorem dL_isClashes_65 : decode cL_isClashes 65 = .ok (.goto (-41), 3) := by decide +kernel
theorem dL_isClashes_68 : decode cL_isClashes 68 = .ok (.aload_n 0, 1) := by decide +kernel
theorem dL_isClashes_69 : decode cL_isClashes 69 = .ok (.iconst 0, 1) := by decide +kernel
theorem dL_isClashes_70 : decode cL_isClashes 70 = .ok (.iload_n 2, 1) := by decide +kernel
theorem dL_isClashes_71 : decode cL_isClashes 71 = .ok (.invokevirtual 164, 3) := by decide +kernel
theorem dL_isClashes_74 : decode cL_isClashes 74 = .ok (.iload_n 3, 1) := by decide +kernel
theorem dL_isClashes_75 : decode cL_isClashes 75 = .ok (.if_icmp .ne 14, 3) := by decide +kernel
theorem dL_isClashes_78 : decode cL_isClashes 78 = .ok (.aload_n 0, 1) := by decide +kernel
theorem dL_isClashes_79 : decode cL_isClashes 79 = .ok (.iconst 1, 1) := by decide +kernel
theorem dL_isClashes_80 : decode cL_isClashes 80 = .ok (.iload_n 2, 1) := by decide +kernel
theorem dL_isClashes_81 : decode cL_isClashes 81 = .ok (.invokevirtual 164, 3) := by decide +kernel
theorem dL_isClashes_84 : decode cL_isClashes 84 = .ok (.iload 4, 2) := by decide +kernel
theorem dL_isClashes_86 : decode cL_isClashes 86 = .ok (.if_icmp .eq 5, 3) := by decide +kernel
theorem dL_isClashes_89 : decode cL_isClashes 89 = .ok (.iconst 0, 1) := by decide +kernel
theorem dL_isClashes_90 : decode cL_isClashes 90 = .ok (.ireturn, 1) := by decide +kernel
theorem dL_isClashes_91 : decode cL_isClashes 91 = .ok (.iload_n 3, 1) := by decide +kernel
theorem dL_isClashes_92 : decode cL_isClashes 92 = .ok (.iconst (-1), 1) := by decide +kernel
theorem dL_isClashes_93 : decode cL_isClashes 93 = .ok (.if_icmp .eq 26, 3) := by decide +kernel
theorem dL_isClashes_96 : decode cL_isClashes 96 = .ok (.iload 4, 2) := by decide +kernel
theorem dL_isClashes_98 : decode cL_isClashes 98 = .ok (.iconst (-1), 1) := by decide +kernel
theorem dL_isClashes_99 : decode cL_isClashes 99 = .ok (.if_icmp .ne 6, 3) := by decide +kernel
theorem dL_isClashes_102 : decode cL_isClashes 102 = .ok (.goto 17, 3) := by decide +kernel
theorem dL_isClashes_105 : decode cL_isClashes 105 = .ok (.aload_n 0, 1) := by decide +kernel
theorem dL_isClashes_106 : decode cL_isClashes 106 = .ok (.iload_n 1, 1) := by decide +kernel
theorem dL_isClashes_107 : decode cL_isClashes 107 = .ok (.invokevirtual 167, 3) := by decide +kernel
theorem dL_isClashes_110 : decode cL_isClashes 110 = .ok (.iload_n 2, 1) := by decide +kernel
theorem dL_isClashes_111 : decode cL_isClashes 111 = .ok (.if_icmp .eq 5, 3) := by decide +kernel
theorem dL_isClashes_114 : decode cL_isClashes 114 = .ok (.iconst 0, 1) := by decide +kernel
theorem dL_isClashes_115 : decode cL_isClashes 115 = .ok (.ireturn, 1) := by decide +kernel
theorem dL_isClashes_116 : decode cL_isClashes 116 = .ok (.iinc 1 1, 3) := by decide +kernel
theorem dL_isClashes_119 : decode cL_isClashes 119 = .ok (.iinc 2 1, 3) := by decide +kernel
theorem dL_isClashes_122 : decode cL_isClashes 122 = .ok (.goto (-118), 3) := by decide +kernel
theorem dL_isClashes_125 : decode cL_isClashes 125 = .ok (.aload_n 0, 1) := by decide +kernel
theorem dL_isClashes_126 : decode cL_isClashes 126 = .ok (.bipush 9, 2) := by decide +kernel
theorem dL_isClashes_128 : decode cL_isClashes 128 = .ok (.invokevirtual 82, 3) := by decide +kernel
theorem dL_isClashes_131 : decode cL_isClashes 131 = .ok (.iload_n 1, 1) := by decide +kernel
theorem dL_isClashes_132 : decode cL_isClashes 132 = .ok (.if_icmp .ne 20, 3) := by decide +kernel
theorem dL_isClashes_135 : decode cL_isClashes 135 = .ok (.aload_n 0, 1) := by decide +kernel
theorem dL_isClashes_136 : decode cL_isClashes 136 = .ok (.bipush 8, 2) := by decide +kernel
theorem dL_isClashes_138 : decode cL_isClashes 138 = .ok (.invokevirtual 82, 3) := by decide +kernel
theorem dL_isClashes_141 : decode cL_isClashes 141 = .ok (.ifCond .eq 7, 3) := by decide +kernel
theorem dL_isClashes_144 : decode cL_isClashes 144 = .ok (.iload_n 1, 1) := by decide +kernel
theorem dL_isClashes_145 : decode cL_isClashes 145 = .ok (.ifCond .ne 7, 3) := by decide +kernel
theorem dL_isClashes_148 : decode cL_isClashes 148 = .ok (.iconst 1, 1) := by decide +kernel
theorem dL_isClashes_149 : decode cL_isClashes 149 = .ok (.goto 4, 3) := by decide +kernel
theorem dL_isClashes_152 : decode cL_isClashes 152 = .ok (.iconst 0, 1) := by decide +kernel
theorem dL_isClashes_153 : decode cL_isClashes 153 = .ok (.ireturn, 1) := by decide +kernel
theorem dL_isWave_0 : decode cL_isWave 0 = .ok (.aload_n 0, 1) := by decide +kernel
theorem dL_isWave_1 : decode cL_isWave 1 = .ok (.iconst 0, 1) := by decide +kernel
theorem dL_isWave_2 : decode cL_isWave 2 = .ok (.invokevirtual 82, 3) := by decide +kernel
theorem dL_isWave_5 : decode cL_isWave 5 = .ok (.istore_n 1, 1) := by decide +kernel
theorem dL_isWave_6 : decode cL_isWave 6 = .ok (.aload_n 0, 1) := by decide +kernel
theorem dL_isWave_7 : decode cL_isWave 7 = .ok (.iconst 3, 1) := by decide +kernel
theorem dL_isWave_8 : decode cL_isWave 8 = .ok (.invokevirtual 82, 3) := by decide +kernel
theorem dL_isWave_11 : decode cL_isWave 11 = .ok (.istore_n 2, 1) := by decide +kernel
theorem dL_isWave_12 : decode cL_isWave 12 = .ok (.iload_n 2, 1) := by decide +kernel
theorem dL_isWave_13 : decode cL_isWave 13 = .ok (.iconst 1, 1) := by decide +kernel
theorem dL_isWave_14 : decode cL_isWave 14 = .ok (.iadd, 1) := by decide +kernel
theorem dL_isWave_15 : decode cL_isWave 15 = .ok (.istore_n 3, 1) := by decide +kernel
theorem dL_isWave_16 : decode cL_isWave 16 = .ok (.iconst 0, 1) := by decide +kernel
theorem dL_isWave_17 : decode cL_isWave 17 = .ok (.istore 4, 2) := by decide +kernel
theorem dL_isWave_19 : decode cL_isWave 19 = .ok (.iconst 0, 1) := by decide +kernel
theorem dL_isWave_20 : decode cL_isWave 20 = .ok (.istore 5, 2) := by decide +kernel
theorem dL_isWave_22 : decode cL_isWave 22 = .ok (.iload_n 1, 1) := by decide +kernel
theorem dL_isWave_23 : decode cL_isWave 23 = .ok (.newarray .int, 2) := by decide +kernel
theorem dL_isWave_25 : decode cL_isWave 25 = .ok (.astore 6, 2) := by decide +kernel
theorem dL_isWave_27 : decode cL_isWave 27 = .ok (.iload_n 1, 1) := by decide +kernel
theorem dL_isWave_28 : decode cL_isWave 28 = .ok (.newarray .int, 2) := by decide +kernel
theorem dL_isWave_30 : decode cL_isWave 30 = .ok (.astore 7, 2) := by decide +kernel
theorem dL_isWave_32 : decode cL_isWave 32 = .ok (.iconst 0, 1) := by decide +kernel
theorem dL_isWave_33 : decode cL_isWave 33 = .ok (.istore 8, 2) := by decide +kernel
theorem dL_isWave_35 : decode cL_isWave 35 = .ok (.iload 8, 2) := by decide +kernel
theorem dL_isWave_37 : decode cL_isWave 37 = .ok (.iload_n 1, 1) := by decide +kernel
theorem dL_isWave_38 : decode cL_isWave 38 = .ok (.if_icmp .ge 173, 3) := by decide +kernel
theorem dL_isWave_41 : decode cL_isWave 41 = .ok (.aload_n 0, 1) := by decide +kernel
theorem dL_isWave_42 : decode cL_isWave 42 = .ok (.iload 8, 2) := by decide +kernel
theorem dL_isWave_44 : decode cL_isWave 44 = .ok (.iconst 5, 1) := by decide +kernel
theorem dL_isWave_45 : decode cL_isWave 45 = .ok (.invokevirtual 132, 3) := by decide +kernel
theorem dL_isWave_48 : decode cL_isWave 48 = .ok (.iload_n 3, 1) := by decide +kernel
theorem dL_isWave_49 : decode cL_isWave 49 = .ok (.if_icmp .ne 7, 3) := by decide +kernel
theorem dL_isWave_52 : decode cL_isWave 52 = .ok (.iconst 1, 1) := by decide +kernel
theorem dL_isWave_53 : decode cL_isWave 53 = .ok (.goto 4, 3) := by decide +kernel
theorem dL_isWave_56 : decode cL_isWave 56 = .ok (.iconst 0, 1) := by decide +kernel
theorem dL_isWave_57 : decode cL_isWave 57 = .ok (.istore 9, 2) := by decide +kernel
theorem dL_isWave_59 : decode cL_isWave 59 = .ok (.aload_n 0, 1) := by decide +kernel
theorem dL_isWave_60 : decode cL_isWave 60 = .ok (.iload 8, 2) := by decide +kernel
theorem dL_isWave_62 : decode cL_isWave 62 = .ok (.bipush 6, 2) := by decide +kernel
theorem dL_isWave_64 : decode cL_isWave 64 = .ok (.invokevirtual 132, 3) := by decide +kernel
theorem dL_isWave_67 : decode cL_isWave 67 = .ok (.istore 10, 2) := by decide +kernel
theorem dL_isWave_69 : decode cL_isWave 69 = .ok (.iload 10, 2) := by decide +kernel
theorem dL_isWave_71 : decode cL_isWave 71 = .ok (.ifCond .le 19, 3) := by decide +kernel
theorem dL_isWave_74 : decode cL_isWave 74 = .ok (.iload_n 3, 1) := by decide +kernel
theorem dL_isWave_75 : decode cL_isWave 75 = .ok (.iload 10, 2) := by decide +kernel
theorem dL_isWave_77 : decode cL_isWave 77 = .ok (.aload_n 0, 1) := by decide +kernel
theorem dL_isWave_78 : decode cL_isWave 78 = .ok (.iconst 4, 1) := by decide +kernel
theorem dL_isWave_79 : decode cL_isWave 79 = .ok (.invokevirtual 82, 3) := by decide +kernel
theorem dL_isWave_82 : decode cL_isWave 82 = .ok (.iadd, 1) := by decide +kernel
theorem dL_isWave_83 : decode cL_isWave 83 = .ok (.if_icmp .ge 7, 3) := by decide +kernel
theorem dL_isWave_86 : decode cL_isWave 86 = .ok (.iconst 1, 1) := by decide +kernel
theorem dL_isWave_87 : decode cL_isWave 87 = .ok (.goto 4, 3) := by decide +kernel
theorem dL_isWave_90 : decode cL_isWave 90 = .ok (.iconst 0, 1) := by decide +kernel
theorem dL_isWave_91 : decode cL_isWave 91 = .ok (.istore 11, 2) := by decide +kernel
theorem dL_isWave_93 : decode cL_isWave 93 = .ok (.iload 4, 2) := by decide +kernel
theorem dL_isWave_95 : decode cL_isWave 95 = .ok (.iload 9, 2) := by decide +kernel
theorem dL_isWave_97 : decode cL_isWave 97 = .ok (.ifCond .eq 7, 3) := by decide +kernel
theorem dL_isWave_100 : decode cL_isWave 100 = .ok (.iconst 1, 1) := by decide +kernel
theorem dL_isWave_101 : decode cL_isWave 101 = .ok (.goto 4, 3) := by decide +kernel
theorem dL_isWave_104 : decode cL_isWave 104 = .ok (.iconst 0, 1) := by decide +kernel
theorem dL_isWave_105 : decode cL_isWave 105 = .ok (.iadd, 1) := by decide +kernel
theorem dL_isWave_106 : decode cL_isWave 106 = .ok (.istore 4, 2) := by decide +kernel
theorem dL_isWave_108 : decode cL_isWave 108 = .ok (.iload 5, 2) := by decide +kernel
theorem dL_isWave_110 : decode cL_isWave 110 = .ok (.ifCond .ne 13, 3) := by decide +kernel
theorem dL_isWave_113 : decode cL_isWave 113 = .ok (.iload 9, 2) := by decide +kernel
theorem dL_isWave_115 : decode cL_isWave 115 = .ok (.ifCond .eq 12, 3) := by decide +kernel
theorem dL_isWave_118 : decode cL_isWave 118 = .ok (.iload 11, 2) := by decide +kernel
theorem dL_isWave_120 : decode cL_isWave 120 = .ok (.ifCond .eq 7, 3) := by decide +kernel
theorem dL_isWave_123 : decode cL_isWave 123 = .ok (.iconst 1, 1) := by decide +kernel
theorem dL_isWave_124 : decode cL_isWave 124 = .ok (.goto 4, 3) := by decide +kernel
theorem dL_isWave_127 : decode cL_isWave 127 = .ok (.iconst 0, 1) := by decide +kernel
theorem dL_isWave_128 : decode cL_isWave 128 = .ok (.istore 5, 2) := by decide +kernel
theorem dL_isWave_130 : decode cL_isWave 130 = .ok (.aload 6, 2) := by decide +kernel
theorem dL_isWave_132 : decode cL_isWave 132 = .ok (.iload 8, 2) := by decide +kernel
theorem dL_isWave_134 : decode cL_isWave 134 = .ok (.iload 9, 2) := by decide +kernel
theorem dL_isWave_136 : decode cL_isWave 136 = .ok (.ifCond .eq 13, 3) := by decide +kernel
theorem dL_isWave_139 : decode cL_isWave 139 = .ok (.aload_n 0, 1) := by decide +kernel
theorem dL_isWave_140 : decode cL_isWave 140 = .ok (.iload 8, 2) := by decide +kernel
theorem dL_isWave_142 : decode cL_isWave 142 = .ok (.iconst 4, 1) := by decide +kernel
theorem dL_isWave_143 : decode cL_isWave 143 = .ok (.invokevirtual 132, 3) := by decide +kernel
theorem dL_isWave_146 : decode cL_isWave 146 = .ok (.goto 10, 3) := by decide +kernel
theorem dL_isWave_149 : decode cL_isWave 149 = .ok (.aload_n 0, 1) := by decide +kernel
theorem dL_isWave_150 : decode cL_isWave 150 = .ok (.iload 8, 2) := by decide +kernel
theorem dL_isWave_152 : decode cL_isWave 152 = .ok (.iconst 1, 1) := by decide +kernel
theorem dL_isWave_153 : decode cL_isWave 153 = .ok (.invokevirtual 132, 3) := by decide +kernel
theorem dL_isWave_156 : decode cL_isWave 156 = .ok (.iastore, 1) := by decide +kernel
theorem dL_isWave_157 : decode cL_isWave 157 = .ok (.aload 7, 2) := by decide +kernel
theorem dL_isWave_159 : decode cL_isWave 159 = .ok (.iload 8, 2) := by decide +kernel
theorem dL_isWave_161 : decode cL_isWave 161 = .ok (.iload 9, 2) := by decide +kernel
theorem dL_isWave_163 : decode cL_isWave 163 = .ok (.ifCond .eq 25, 3) := by decide +kernel
theorem dL_isWave_166 : decode cL_isWave 166 = .ok (.aload_n 0, 1) := by decide +kernel
theorem dL_isWave_167 : decode cL_isWave 167 = .ok (.iconst 4, 1) := by decide +kernel
theorem dL_isWave_168 : decode cL_isWave 168 = .ok (.invokevirtual 82, 3) := by decide +kernel
theorem dL_isWave_171 : decode cL_isWave 171 = .ok (.ifCond .le 13, 3) := by decide +kernel
theorem dL_isWave_174 : decode cL_isWave 174 = .ok (.aload_n 0, 1) := by decide +kernel
theorem dL_isWave_175 : decode cL_isWave 175 = .ok (.iload 8, 2) := by decide +kernel
theorem dL_isWave_177 : decode cL_isWave 177 = .ok (.iconst 1, 1) := by decide +kernel
theorem dL_isWave_178 : decode cL_isWave 178 = .ok (.invokevirtual 132, 3) := by decide +kernel
theorem dL_isWave_181 : decode cL_isWave 181 = .ok (.goto 23, 3) := by decide +kernel
theorem dL_isWave_184 : decode cL_isWave 184 = .ok (.iconst 0, 1) := by decide +kernel
theorem dL_isWave_185 : decode cL_isWave 185 = .ok (.goto 19, 3) := by decide +kernel
theorem dL_isWave_188 : decode cL_isWave 188 = .ok (.iload 11, 2) := by decide +kernel
theorem dL_isWave_190 : decode cL_isWave 190 = .ok (.ifCond .eq 13, 3) := by decide +kernel
theorem dL_isWave_193 : decode cL_isWave 193 = .ok (.aload_n 0, 1) := by decide +kernel
theorem dL_isWave_194 : decode cL_isWave 194 = .ok (.iload 8, 2) := by decide +kernel
theorem dL_isWave_196 : decode cL_isWave 196 = .ok (.iconst 2, 1) := by decide +kernel
theorem dL_isWave_197 : decode cL_isWave 197 = .ok (.invokevirtual 132, 3) := by decide +kernel
theorem dL_isWave_200 : decode cL_isWave 200 = .ok (.goto 4, 3) := by decide +kernel
theorem dL_isWave_203 : decode cL_isWave 203 = .ok (.iconst 0, 1) := by decide +kernel
theorem dL_isWave_204 : decode cL_isWave 204 = .ok (.iastore, 1) := by decide +kernel
theorem dL_isWave_205 : decode cL_isWave 205 = .ok (.iinc 8 1, 3) := by decide +kernel
theorem dL_isWave_208 : decode cL_isWave 208 = .ok (.goto (-173), 3) := by decide +kernel
theorem dL_isWave_211 : decode cL_isWave 211 = .ok (.iconst 0, 1) := by decide +kernel
theorem dL_isWave_212 : decode cL_isWave 212 = .ok (.istore 8, 2) := by decide +kernel
theorem dL_isWave_214 : decode cL_isWave 214 = .ok (.iconst 0, 1) := by decide +kernel
theorem dL_isWave_215 : decode cL_isWave 215 = .ok (.istore 9, 2) := by decide +kernel
theorem dL_isWave_217 : decode cL_isWave 217 = .ok (.iload 9, 2) := by decide +kernel
theorem dL_isWave_219 : decode cL_isWave 219 = .ok (.iload_n 1, 1) := by decide +kernel
theorem dL_isWave_220 : decode cL_isWave 220 = .ok (.if_icmp .ge 108, 3) := by decide +kernel
theorem dL_isWave_223 : decode cL_isWave 223 = .ok (.iconst 0, 1) := by decide +kernel
theorem dL_isWave_224 : decode cL_isWave 224 = .ok (.istore 10, 2) := by decide +kernel
theorem dL_isWave_226 : decode cL_isWave 226 = .ok (.iload 10, 2) := by decide +kernel
theorem dL_isWave_228 : decode cL_isWave 228 = .ok (.iload 9, 2) := by decide +kernel
theorem dL_isWave_230 : decode cL_isWave 230 = .ok (.if_icmp .ge 92, 3) := by decide +kernel
theorem dL_isWave_233 : decode cL_isWave 233 = .ok (.iload 8, 2) := by decide +kernel
theorem dL_isWave_235 : decode cL_isWave 235 = .ok (.ifCond .ne 74, 3) := by decide +kernel
theorem dL_isWave_238 : decode cL_isWave 238 = .ok (.aload_n 0, 1) := by decide +kernel
theorem dL_isWave_239 : decode cL_isWave 239 = .ok (.iload 9, 2) := by decide +kernel
theorem dL_isWave_241 : decode cL_isWave 241 = .ok (.iload 10, 2) := by decide +kernel
theorem dL_isWave_243 : decode cL_isWave 243 = .ok (.invokestatic 158, 3) := by decide +kernel
theorem dL_isWave_246 : decode cL_isWave 246 = .ok (.ifCond .eq 67, 3) := by decide +kernel
theorem dL_isWave_249 : decode cL_isWave 249 = .ok (.aload 6, 2) := by decide +kernel
theorem dL_isWave_251 : decode cL_isWave 251 = .ok (.iload 9, 2) := by decide +kernel
theorem dL_isWave_253 : decode cL_isWave 253 = .ok (.iaload, 1) := by decide +kernel
theorem dL_isWave_254 : decode cL_isWave 254 = .ok (.aload 6, 2) := by decide +kernel
theorem dL_isWave_256 : decode cL_isWave 256 = .ok (.iload 10, 2) := by decide +kernel
theorem dL_isWave_258 : decode cL_isWave 258 = .ok (.iaload, 1) := by decide +kernel
theorem dL_isWave_259 : decode cL_isWave 259 = .ok (.if_icmp .eq 50, 3) := by decide +kernel
theorem dL_isWave_262 : decode cL_isWave 262 = .ok (.aload 6, 2) := by decide +kernel
theorem dL_isWave_264 : decode cL_isWave 264 = .ok (.iload 9, 2) := by decide +kernel
theorem dL_isWave_266 : decode cL_isWave 266 = .ok (.iaload, 1) := by decide +kernel
theorem dL_isWave_267 : decode cL_isWave 267 = .ok (.aload 7, 2) := by decide +kernel
theorem dL_isWave_269 : decode cL_isWave 269 = .ok (.iload 10, 2) := by decide +kernel
theorem dL_isWave_271 : decode cL_isWave 271 = .ok (.iaload, 1) := by decide +kernel
theorem dL_isWave_272 : decode cL_isWave 272 = .ok (.if_icmp .eq 37, 3) := by decide +kernel
theorem dL_isWave_275 : decode cL_isWave 275 = .ok (.aload 7, 2) := by decide +kernel
theorem dL_isWave_277 : decode cL_isWave 277 = .ok (.iload 9, 2) := by decide +kernel
theorem dL_isWave_279 : decode cL_isWave 279 = .ok (.iaload, 1) := by decide +kernel
theorem dL_isWave_280 : decode cL_isWave 280 = .ok (.aload 6, 2) := by decide +kernel
theorem dL_isWave_282 : decode cL_isWave 282 = .ok (.iload 10, 2) := by decide +kernel
theorem dL_isWave_284 : decode cL_isWave 284 = .ok (.iaload, 1) := by decide +kernel
theorem dL_isWave_285 : decode cL_isWave 285 = .ok (.if_icmp .eq 24, 3) := by decide +kernel
theorem dL_isWave_288 : decode cL_isWave 288 = .ok (.aload 7, 2) := by decide +kernel
theorem dL_isWave_290 : decode cL_isWave 290 = .ok (.iload 9, 2) := by decide +kernel
theorem dL_isWave_292 : decode cL_isWave 292 = .ok (.iaload, 1) := by decide +kernel
theorem dL_isWave_293 : decode cL_isWave 293 = .ok (.ifCond .le 20, 3) := by decide +kernel
theorem dL_isWave_296 : decode cL_isWave 296 = .ok (.aload 7, 2) := by decide +kernel
theorem dL_isWave_298 : decode cL_isWave 298 = .ok (.iload 9, 2) := by decide +kernel
theorem dL_isWave_300 : decode cL_isWave 300 = .ok (.iaload, 1) := by decide +kernel
theorem dL_isWave_301 : decode cL_isWave 301 = .ok (.aload 7, 2) := by decide +kernel
theorem dL_isWave_303 : decode cL_isWave 303 = .ok (.iload 10, 2) := by decide +kernel
theorem dL_isWave_305 : decode cL_isWave 305 = .ok (.iaload, 1) := by decide +kernel
theorem dL_isWave_306 : decode cL_isWave 306 = .ok (.if_icmp .ne 7, 3) := by decide +kernel
theorem dL_isWave_309 : decode cL_isWave 309 = .ok (.iconst 1, 1) := by decide +kernel
theorem dL_isWave_310 : decode cL_isWave 310 = .ok (.goto 4, 3) := by decide +kernel
theorem dL_isWave_313 : decode cL_isWave 313 = .ok (.iconst 0, 1) := by decide +kernel
theorem dL_isWave_314 : decode cL_isWave 314 = .ok (.istore 8, 2) := by decide +kernel
theorem dL_isWave_316 : decode cL_isWave 316 = .ok (.iinc 10 1, 3) := by decide +kernel
theorem dL_isWave_319 : decode cL_isWave 319 = .ok (.goto (-93), 3) := by decide +kernel
theorem dL_isWave_322 : decode cL_isWave 322 = .ok (.iinc 9 1, 3) := by decide +kernel
theorem dL_isWave_325 : decode cL_isWave 325 = .ok (.goto (-108), 3) := by decide +kernel
theorem dL_isWave_328 : decode cL_isWave 328 = .ok (.iload_n 2, 1) := by decide +kernel
theorem dL_isWave_329 : decode cL_isWave 329 = .ok (.bipush 9, 2) := by decide +kernel
theorem dL_isWave_331 : decode cL_isWave 331 = .ok (.if_icmp .ne 8, 3) := by decide +kernel
theorem dL_isWave_334 : decode cL_isWave 334 = .ok (.bipush (-2), 2) := by decide +kernel
theorem dL_isWave_336 : decode cL_isWave 336 = .ok (.goto 24, 3) := by decide +kernel
theorem dL_isWave_339 : decode cL_isWave 339 = .ok (.iload 5, 2) := by decide +kernel
theorem dL_isWave_341 : decode cL_isWave 341 = .ok (.ifCond .eq 8, 3) := by decide +kernel
theorem dL_isWave_344 : decode cL_isWave 344 = .ok (.bipush (-3), 2) := by decide +kernel
theorem dL_isWave_346 : decode cL_isWave 346 = .ok (.goto 14, 3) := by decide +kernel
theorem dL_isWave_349 : decode cL_isWave 349 = .ok (.iload 8, 2) := by decide +kernel
theorem dL_isWave_351 : decode cL_isWave 351 = .ok (.ifCond .eq 8, 3) := by decide +kernel
theorem dL_isWave_354 : decode cL_isWave 354 = .ok (.bipush (-4), 2) := by decide +kernel
theorem dL_isWave_356 : decode cL_isWave 356 = .ok (.goto 4, 3) := by decide +kernel
theorem dL_isWave_359 : decode cL_isWave 359 = .ok (.iconst 0, 1) := by decide +kernel
theorem dL_isWave_360 : decode cL_isWave 360 = .ok (.istore 9, 2) := by decide +kernel
theorem dL_isWave_362 : decode cL_isWave 362 = .ok (.iload_n 2, 1) := by decide +kernel
theorem dL_isWave_363 : decode cL_isWave 363 = .ok (.bipush 9, 2) := by decide +kernel
theorem dL_isWave_365 : decode cL_isWave 365 = .ok (.if_icmp .ne 7, 3) := by decide +kernel
theorem dL_isWave_368 : decode cL_isWave 368 = .ok (.iconst 0, 1) := by decide +kernel
theorem dL_isWave_369 : decode cL_isWave 369 = .ok (.goto 8, 3) := by decide +kernel
theorem dL_isWave_372 : decode cL_isWave 372 = .ok (.aload_n 0, 1) := by decide +kernel
theorem dL_isWave_373 : decode cL_isWave 373 = .ok (.iload_n 3, 1) := by decide +kernel
theorem dL_isWave_374 : decode cL_isWave 374 = .ok (.invokevirtual 170, 3) := by decide +kernel
theorem dL_isWave_377 : decode cL_isWave 377 = .ok (.istore 10, 2) := by decide +kernel
theorem dL_isWave_379 : decode cL_isWave 379 = .ok (.aload_n 0, 1) := by decide +kernel
theorem dL_isWave_380 : decode cL_isWave 380 = .ok (.invokevirtual 173, 3) := by decide +kernel
theorem dL_isWave_383 : decode cL_isWave 383 = .ok (.iload 9, 2) := by decide +kernel
theorem dL_isWave_385 : decode cL_isWave 385 = .ok (.if_icmp .ne 20, 3) := by decide +kernel
theorem dL_isWave_388 : decode cL_isWave 388 = .ok (.iload 10, 2) := by decide +kernel
theorem dL_isWave_390 : decode cL_isWave 390 = .ok (.iload_n 2, 1) := by decide +kernel
theorem dL_isWave_391 : decode cL_isWave 391 = .ok (.bipush 9, 2) := by decide +kernel
theorem dL_isWave_393 : decode cL_isWave 393 = .ok (.if_icmp .ne 7, 3) := by decide +kernel
theorem dL_isWave_396 : decode cL_isWave 396 = .ok (.iconst 0, 1) := by decide +kernel
theorem dL_isWave_397 : decode cL_isWave 397 = .ok (.goto 5, 3) := by decide +kernel
theorem dL_isWave_400 : decode cL_isWave 400 = .ok (.iload 4, 2) := by decide +kernel
theorem dL_isWave_402 : decode cL_isWave 402 = .ok (.if_icmp .eq 5, 3) := by decide +kernel
theorem dL_isWave_405 : decode cL_isWave 405 = .ok (.iconst 0, 1) := by decide +kernel
theorem dL_isWave_406 : decode cL_isWave 406 = .ok (.ireturn, 1) := by decide +kernel
theorem dL_isWave_407 : decode cL_isWave 407 = .ok (.aload_n 0, 1) := by decide +kernel
theorem dL_isWave_408 : decode cL_isWave 408 = .ok (.invokevirtual 103, 3) := by decide +kernel
theorem dL_isWave_411 : decode cL_isWave 411 = .ok (.istore 11, 2) := by decide +kernel
theorem dL_isWave_413 : decode cL_isWave 413 = .ok (.iload 9, 2) := by decide +kernel
theorem dL_isWave_415 : decode cL_isWave 415 = .ok (.ifCond .eq 25, 3) := by decide +kernel
theorem dL_isWave_418 : decode cL_isWave 418 = .ok (.iload 11, 2) := by decide +kernel
theorem dL_isWave_420 : decode cL_isWave 420 = .ok (.iload 9, 2) := by decide +kernel
theorem dL_isWave_422 : decode cL_isWave 422 = .ok (.if_icmp .ne 16, 3) := by decide +kernel
theorem dL_isWave_425 : decode cL_isWave 425 = .ok (.aload_n 0, 1) := by decide +kernel
theorem dL_isWave_426 : decode cL_isWave 426 = .ok (.iconst 3, 1) := by decide +kernel
theorem dL_isWave_427 : decode cL_isWave 427 = .ok (.invokevirtual 82, 3) := by decide +kernel
theorem dL_isWave_430 : decode cL_isWave 430 = .ok (.iload_n 2, 1) := by decide +kernel
theorem dL_isWave_431 : decode cL_isWave 431 = .ok (.if_icmp .ne 7, 3) := by decide +kernel
theorem dL_isWave_434 : decode cL_isWave 434 = .ok (.iconst 1, 1) := by decide +kernel
theorem dL_isWave_435 : decode cL_isWave 435 = .ok (.goto 4, 3) := by decide +kernel
theorem dL_isWave_438 : decode cL_isWave 438 = .ok (.iconst 0, 1) := by decide +kernel
theorem dL_isWave_439 : decode cL_isWave 439 = .ok (.ireturn, 1) := by decide +kernel
theorem dL_isWave_440 : decode cL_isWave 440 = .ok (.iload 11, 2) := by decide +kernel
theorem dL_isWave_442 : decode cL_isWave 442 = .ok (.iload 4, 2) := by decide +kernel
theorem dL_isWave_444 : decode cL_isWave 444 = .ok (.if_icmp .ne 20, 3) := by decide +kernel
theorem dL_isWave_447 : decode cL_isWave 447 = .ok (.aload_n 0, 1) := by decide +kernel
theorem dL_isWave_448 : decode cL_isWave 448 = .ok (.iconst 3, 1) := by decide +kernel
theorem dL_isWave_449 : decode cL_isWave 449 = .ok (.invokevirtual 82, 3) := by decide +kernel
theorem dL_isWave_452 : decode cL_isWave 452 = .ok (.iload_n 3, 1) := by decide +kernel
theorem dL_isWave_453 : decode cL_isWave 453 = .ok (.if_icmp .ne 11, 3) := by decide +kernel
theorem dL_isWave_456 : decode cL_isWave 456 = .ok (.aload_n 0, 1) := by decide +kernel
theorem dL_isWave_457 : decode cL_isWave 457 = .ok (.iload_n 3, 1) := by decide +kernel
theorem dL_isWave_458 : decode cL_isWave 458 = .ok (.invokevirtual 170, 3) := by decide +kernel
theorem dL_isWave_461 : decode cL_isWave 461 = .ok (.ifCond .eq 5, 3) := by decide +kernel
theorem dL_isWave_464 : decode cL_isWave 464 = .ok (.iconst 0, 1) := by decide +kernel
theorem dL_isWave_465 : decode cL_isWave 465 = .ok (.ireturn, 1) := by decide +kernel
theorem dL_isWave_466 : decode cL_isWave 466 = .ok (.iconst 0, 1) := by decide +kernel
theorem dL_isWave_467 : decode cL_isWave 467 = .ok (.istore 12, 2) := by decide +kernel
theorem dL_isWave_469 : decode cL_isWave 469 = .ok (.iload 12, 2) := by decide +kernel
theorem dL_isWave_471 : decode cL_isWave 471 = .ok (.iload_n 1, 1) := by decide +kernel
theorem dL_isWave_472 : decode cL_isWave 472 = .ok (.if_icmp .ge 41, 3) := by decide +kernel
theorem dL_isWave_475 : decode cL_isWave 475 = .ok (.aload_n 0, 1) := by decide +kernel
theorem dL_isWave_476 : decode cL_isWave 476 = .ok (.iload 12, 2) := by decide +kernel
theorem dL_isWave_478 : decode cL_isWave 478 = .ok (.iconst 1, 1) := by decide +kernel
theorem dL_isWave_479 : decode cL_isWave 479 = .ok (.invokevirtual 132, 3) := by decide +kernel
theorem dL_isWave_482 : decode cL_isWave 482 = .ok (.aload 6, 2) := by decide +kernel
theorem dL_isWave_484 : decode cL_isWave 484 = .ok (.iload 12, 2) := by decide +kernel
theorem dL_isWave_486 : decode cL_isWave 486 = .ok (.iaload, 1) := by decide +kernel
theorem dL_isWave_487 : decode cL_isWave 487 = .ok (.if_icmp .ne 18, 3) := by decide +kernel
theorem dL_isWave_490 : decode cL_isWave 490 = .ok (.aload_n 0, 1) := by decide +kernel
theorem dL_isWave_491 : decode cL_isWave 491 = .ok (.iload 12, 2) := by decide +kernel
theorem dL_isWave_493 : decode cL_isWave 493 = .ok (.iconst 2, 1) := by decide +kernel
theorem dL_isWave_494 : decode cL_isWave 494 = .ok (.invokevirtual 132, 3) := by decide +kernel
theorem dL_isWave_497 : decode cL_isWave 497 = .ok (.aload 7, 2) := by decide +kernel
theorem dL_isWave_499 : decode cL_isWave 499 = .ok (.iload 12, 2) := by decide +kernel
theorem dL_isWave_501 : decode cL_isWave 501 = .ok (.iaload, 1) := by decide +kernel
theorem dL_isWave_502 : decode cL_isWave 502 = .ok (.if_icmp .eq 5, 3) := by decide +kernel
theorem dL_isWave_505 : decode cL_isWave 505 = .ok (.iconst 0, 1) := by decide +kernel
theorem dL_isWave_506 : decode cL_isWave 506 = .ok (.ireturn, 1) := by decide +kernel
theorem dL_isWave_507 : decode cL_isWave 507 = .ok (.iinc 12 1, 3) := by decide +kernel
theorem dL_isWave_510 : decode cL_isWave 510 = .ok (.goto (-41), 3) := by decide +kernel
theorem dL_isWave_513 : decode cL_isWave 513 = .ok (.aload_n 0, 1) := by decide +kernel
theorem dL_isWave_514 : decode cL_isWave 514 = .ok (.invokevirtual 176, 3) := by decide +kernel
theorem dL_isWave_517 : decode cL_isWave 517 = .ok (.ifCond .lt 16, 3) := by decide +kernel
theorem dL_isWave_520 : decode cL_isWave 520 = .ok (.aload_n 0, 1) := by decide +kernel
theorem dL_isWave_521 : decode cL_isWave 521 = .ok (.iconst 3, 1) := by decide +kernel
theorem dL_isWave_522 : decode cL_isWave 522 = .ok (.invokevirtual 82, 3) := by decide +kernel
theorem dL_isWave_525 : decode cL_isWave 525 = .ok (.iload_n 2, 1) := by decide +kernel
theorem dL_isWave_526 : decode cL_isWave 526 = .ok (.if_icmp .ne 7, 3) := by decide +kernel
theorem dL_isWave_529 : decode cL_isWave 529 = .ok (.iconst 1, 1) := by decide +kernel
theorem dL_isWave_530 : decode cL_isWave 530 = .ok (.goto 4, 3) := by decide +kernel
theorem dL_isWave_533 : decode cL_isWave 533 = .ok (.iconst 0, 1) := by decide +kernel
theorem dL_isWave_534 : decode cL_isWave 534 = .ok (.ireturn, 1) := by decide +kernel
