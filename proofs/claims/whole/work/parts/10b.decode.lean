/-! ===== decode rows (out of NAMES.whole) ===== -/
theorem dX4_init_0 : decode cX4_init 0 = .ok (.aload_n 0, 1) := by decide +kernel
theorem dX4_init_1 : decode cX4_init 1 = .ok (.invokespecial 3, 3) := by decide +kernel
theorem dX4_init_4 : decode cX4_init 4 = .ok (.aload_n 0, 1) := by decide +kernel
theorem dX4_init_5 : decode cX4_init 5 = .ok (.bipush 16, 2) := by decide +kernel
theorem dX4_init_7 : decode cX4_init 7 = .ok (.newarray .long, 2) := by decide +kernel
theorem dX4_init_9 : decode cX4_init 9 = .ok (.putfield 9, 3) := by decide +kernel
theorem dX4_init_12 : decode cX4_init 12 = .ok (.aload_n 0, 1) := by decide +kernel
theorem dX4_init_13 : decode cX4_init 13 = .ok (.sipush 2560, 3) := by decide +kernel
theorem dX4_init_16 : decode cX4_init 16 = .ok (.newarray .long, 2) := by decide +kernel
theorem dX4_init_18 : decode cX4_init 18 = .ok (.putfield 15, 3) := by decide +kernel
theorem dX4_init_21 : decode cX4_init 21 = .ok (.aload_n 0, 1) := by decide +kernel
theorem dX4_init_22 : decode cX4_init 22 = .ok (.sipush 640, 3) := by decide +kernel
theorem dX4_init_25 : decode cX4_init 25 = .ok (.newarray .int, 2) := by decide +kernel
theorem dX4_init_27 : decode cX4_init 27 = .ok (.putfield 18, 3) := by decide +kernel
theorem dX4_init_30 : decode cX4_init 30 = .ok (.aload_n 0, 1) := by decide +kernel
theorem dX4_init_31 : decode cX4_init 31 = .ok (.sipush 640, 3) := by decide +kernel
theorem dX4_init_34 : decode cX4_init 34 = .ok (.newarray .long, 2) := by decide +kernel
theorem dX4_init_36 : decode cX4_init 36 = .ok (.putfield 22, 3) := by decide +kernel
theorem dX4_init_39 : decode cX4_init 39 = .ok (.aload_n 0, 1) := by decide +kernel
theorem dX4_init_40 : decode cX4_init 40 = .ok (.sipush 800, 3) := by decide +kernel
theorem dX4_init_43 : decode cX4_init 43 = .ok (.newarray .int, 2) := by decide +kernel
theorem dX4_init_45 : decode cX4_init 45 = .ok (.putfield 25, 3) := by decide +kernel
theorem dX4_init_48 : decode cX4_init 48 = .ok (.aload_n 0, 1) := by decide +kernel
theorem dX4_init_49 : decode cX4_init 49 = .ok (.iconst 0, 1) := by decide +kernel
theorem dX4_init_50 : decode cX4_init 50 = .ok (.putfield 28, 3) := by decide +kernel
theorem dX4_init_53 : decode cX4_init 53 = .ok (.aload_n 0, 1) := by decide +kernel
theorem dX4_init_54 : decode cX4_init 54 = .ok (.aload_n 1, 1) := by decide +kernel
theorem dX4_init_55 : decode cX4_init 55 = .ok (.putfield 32, 3) := by decide +kernel
theorem dX4_init_58 : decode cX4_init 58 = .ok (.aload_n 0, 1) := by decide +kernel
theorem dX4_init_59 : decode cX4_init 59 = .ok (.aload_n 2, 1) := by decide +kernel
theorem dX4_init_60 : decode cX4_init 60 = .ok (.putfield 36, 3) := by decide +kernel
theorem dX4_init_63 : decode cX4_init 63 = .ok (.return_, 1) := by decide +kernel
theorem dX4_forgetNumbers_0 : decode cX4_forgetNumbers 0 = .ok (.aload_n 0, 1) := by decide +kernel
theorem dX4_forgetNumbers_1 : decode cX4_forgetNumbers 1 = .ok (.iconst 0, 1) := by decide +kernel
theorem dX4_forgetNumbers_2 : decode cX4_forgetNumbers 2 = .ok (.putfield 28, 3) := by decide +kernel
theorem dX4_forgetNumbers_5 : decode cX4_forgetNumbers 5 = .ok (.return_, 1) := by decide +kernel
theorem dX4_whole_0 : decode cX4_whole 0 = .ok (.getstatic 40, 3) := by decide +kernel
theorem dX4_whole_3 : decode cX4_whole 3 = .ok (.aload_n 0, 1) := by decide +kernel
theorem dX4_whole_4 : decode cX4_whole 4 = .ok (.getfield 32, 3) := by decide +kernel
theorem dX4_whole_7 : decode cX4_whole 7 = .ok (.getfield 43, 3) := by decide +kernel
theorem dX4_whole_10 : decode cX4_whole 10 = .ok (.laload, 1) := by decide +kernel
theorem dX4_whole_11 : decode cX4_whole 11 = .ok (.lreturn, 1) := by decide +kernel
theorem dX4_worthAtFirst_0 : decode cX4_worthAtFirst 0 = .ok (.aload_n 0, 1) := by decide +kernel
theorem dX4_worthAtFirst_1 : decode cX4_worthAtFirst 1 = .ok (.getfield 15, 3) := by decide +kernel
theorem dX4_worthAtFirst_4 : decode cX4_worthAtFirst 4 = .ok (.iconst 0, 1) := by decide +kernel
theorem dX4_worthAtFirst_5 : decode cX4_worthAtFirst 5 = .ok (.iload_n 1, 1) := by decide +kernel
theorem dX4_worthAtFirst_6 : decode cX4_worthAtFirst 6 = .ok (.iload_n 2, 1) := by decide +kernel
theorem dX4_worthAtFirst_7 : decode cX4_worthAtFirst 7 = .ok (.invokestatic 49, 3) := by decide +kernel
theorem dX4_worthAtFirst_10 : decode cX4_worthAtFirst 10 = .ok (.iconst 4, 1) := by decide +kernel
theorem dX4_worthAtFirst_11 : decode cX4_worthAtFirst 11 = .ok (.imul, 1) := by decide +kernel
theorem dX4_worthAtFirst_12 : decode cX4_worthAtFirst 12 = .ok (.iload_n 3, 1) := by decide +kernel
theorem dX4_worthAtFirst_13 : decode cX4_worthAtFirst 13 = .ok (.iadd, 1) := by decide +kernel
theorem dX4_worthAtFirst_14 : decode cX4_worthAtFirst 14 = .ok (.laload, 1) := by decide +kernel
theorem dX4_worthAtFirst_15 : decode cX4_worthAtFirst 15 = .ok (.lreturn, 1) := by decide +kernel
theorem dX4_aimAt_0 : decode cX4_aimAt 0 = .ok (.aload_n 0, 1) := by decide +kernel
theorem dX4_aimAt_1 : decode cX4_aimAt 1 = .ok (.getfield 18, 3) := by decide +kernel
theorem dX4_aimAt_4 : decode cX4_aimAt 4 = .ok (.iload_n 1, 1) := by decide +kernel
theorem dX4_aimAt_5 : decode cX4_aimAt 5 = .ok (.iload_n 2, 1) := by decide +kernel
theorem dX4_aimAt_6 : decode cX4_aimAt 6 = .ok (.iload_n 3, 1) := by decide +kernel
theorem dX4_aimAt_7 : decode cX4_aimAt 7 = .ok (.invokestatic 49, 3) := by decide +kernel
theorem dX4_aimAt_10 : decode cX4_aimAt 10 = .ok (.iaload, 1) := by decide +kernel
theorem dX4_aimAt_11 : decode cX4_aimAt 11 = .ok (.ireturn, 1) := by decide +kernel
theorem dX4_numberAt_0 : decode cX4_numberAt 0 = .ok (.iload_n 3, 1) := by decide +kernel
theorem dX4_numberAt_1 : decode cX4_numberAt 1 = .ok (.bipush (-2), 2) := by decide +kernel
theorem dX4_numberAt_3 : decode cX4_numberAt 3 = .ok (.if_icmp .ne 7, 3) := by decide +kernel
theorem dX4_numberAt_6 : decode cX4_numberAt 6 = .ok (.iconst 0, 1) := by decide +kernel
theorem dX4_numberAt_7 : decode cX4_numberAt 7 = .ok (.goto 19, 3) := by decide +kernel
theorem dX4_numberAt_10 : decode cX4_numberAt 10 = .ok (.aload_n 0, 1) := by decide +kernel
theorem dX4_numberAt_11 : decode cX4_numberAt 11 = .ok (.getfield 25, 3) := by decide +kernel
theorem dX4_numberAt_14 : decode cX4_numberAt 14 = .ok (.iload_n 1, 1) := by decide +kernel
theorem dX4_numberAt_15 : decode cX4_numberAt 15 = .ok (.iload 4, 2) := by decide +kernel
theorem dX4_numberAt_17 : decode cX4_numberAt 17 = .ok (.invokestatic 53, 3) := by decide +kernel
theorem dX4_numberAt_20 : decode cX4_numberAt 20 = .ok (.iload_n 2, 1) := by decide +kernel
theorem dX4_numberAt_21 : decode cX4_numberAt 21 = .ok (.iload_n 3, 1) := by decide +kernel
theorem dX4_numberAt_22 : decode cX4_numberAt 22 = .ok (.invokestatic 59, 3) := by decide +kernel
theorem dX4_numberAt_25 : decode cX4_numberAt 25 = .ok (.iaload, 1) := by decide +kernel
theorem dX4_numberAt_26 : decode cX4_numberAt 26 = .ok (.ireturn, 1) := by decide +kernel
theorem dX4_leftOf_0 : decode cX4_leftOf 0 = .ok (.lconst 0, 1) := by decide +kernel
theorem dX4_leftOf_1 : decode cX4_leftOf 1 = .ok (.lstore_n 2, 1) := by decide +kernel
theorem dX4_leftOf_2 : decode cX4_leftOf 2 = .ok (.iconst 0, 1) := by decide +kernel
theorem dX4_leftOf_3 : decode cX4_leftOf 3 = .ok (.istore 4, 2) := by decide +kernel
theorem dX4_leftOf_5 : decode cX4_leftOf 5 = .ok (.iload 4, 2) := by decide +kernel
theorem dX4_leftOf_7 : decode cX4_leftOf 7 = .ok (.bipush 16, 2) := by decide +kernel
theorem dX4_leftOf_9 : decode cX4_leftOf 9 = .ok (.if_icmp .ge 28, 3) := by decide +kernel
theorem dX4_leftOf_12 : decode cX4_leftOf 12 = .ok (.iload 4, 2) := by decide +kernel
theorem dX4_leftOf_14 : decode cX4_leftOf 14 = .ok (.iload_n 1, 1) := by decide +kernel
theorem dX4_leftOf_15 : decode cX4_leftOf 15 = .ok (.ishr, 1) := by decide +kernel
theorem dX4_leftOf_16 : decode cX4_leftOf 16 = .ok (.iconst 1, 1) := by decide +kernel
theorem dX4_leftOf_17 : decode cX4_leftOf 17 = .ok (.iand, 1) := by decide +kernel
theorem dX4_leftOf_18 : decode cX4_leftOf 18 = .ok (.ifCond .eq 13, 3) := by decide +kernel
theorem dX4_leftOf_21 : decode cX4_leftOf 21 = .ok (.lload_n 2, 1) := by decide +kernel
theorem dX4_leftOf_22 : decode cX4_leftOf 22 = .ok (.aload_n 0, 1) := by decide +kernel
theorem dX4_leftOf_23 : decode cX4_leftOf 23 = .ok (.getfield 9, 3) := by decide +kernel
theorem dX4_leftOf_26 : decode cX4_leftOf 26 = .ok (.iload 4, 2) := by decide +kernel
theorem dX4_leftOf_28 : decode cX4_leftOf 28 = .ok (.laload, 1) := by decide +kernel
theorem dX4_leftOf_29 : decode cX4_leftOf 29 = .ok (.ladd, 1) := by decide +kernel
theorem dX4_leftOf_30 : decode cX4_leftOf 30 = .ok (.lstore_n 2, 1) := by decide +kernel
theorem dX4_leftOf_31 : decode cX4_leftOf 31 = .ok (.iinc 4 1, 3) := by decide +kernel
theorem dX4_leftOf_34 : decode cX4_leftOf 34 = .ok (.goto (-29), 3) := by decide +kernel
theorem dX4_leftOf_37 : decode cX4_leftOf 37 = .ok (.lload_n 2, 1) := by decide +kernel
theorem dX4_leftOf_38 : decode cX4_leftOf 38 = .ok (.lreturn, 1) := by decide +kernel
theorem dX4_solve_0 : decode cX4_solve 0 = .ok (.aload_n 0, 1) := by decide +kernel
theorem dX4_solve_1 : decode cX4_solve 1 = .ok (.getfield 28, 3) := by decide +kernel
theorem dX4_solve_4 : decode cX4_solve 4 = .ok (.ifCond .ne 7, 3) := by decide +kernel
theorem dX4_solve_7 : decode cX4_solve 7 = .ok (.aload_n 0, 1) := by decide +kernel
theorem dX4_solve_8 : decode cX4_solve 8 = .ok (.invokevirtual 63, 3) := by decide +kernel
theorem dX4_solve_11 : decode cX4_solve 11 = .ok (.aload_n 0, 1) := by decide +kernel
theorem dX4_solve_12 : decode cX4_solve 12 = .ok (.getfield 32, 3) := by decide +kernel
theorem dX4_solve_15 : decode cX4_solve 15 = .ok (.getfield 43, 3) := by decide +kernel
theorem dX4_solve_18 : decode cX4_solve 18 = .ok (.istore_n 1, 1) := by decide +kernel
theorem dX4_solve_19 : decode cX4_solve 19 = .ok (.iload_n 1, 1) := by decide +kernel
theorem dX4_solve_20 : decode cX4_solve 20 = .ok (.ifCond .lt 62, 3) := by decide +kernel
theorem dX4_solve_23 : decode cX4_solve 23 = .ok (.iconst 1, 1) := by decide +kernel
theorem dX4_solve_24 : decode cX4_solve 24 = .ok (.istore_n 2, 1) := by decide +kernel
theorem dX4_solve_25 : decode cX4_solve 25 = .ok (.iload_n 2, 1) := by decide +kernel
theorem dX4_solve_26 : decode cX4_solve 26 = .ok (.aload_n 0, 1) := by decide +kernel
theorem dX4_solve_27 : decode cX4_solve 27 = .ok (.getfield 32, 3) := by decide +kernel
theorem dX4_solve_30 : decode cX4_solve 30 = .ok (.invokevirtual 66, 3) := by decide +kernel
theorem dX4_solve_33 : decode cX4_solve 33 = .ok (.if_icmp .gt 43, 3) := by decide +kernel
theorem dX4_solve_36 : decode cX4_solve 36 = .ok (.iconst 0, 1) := by decide +kernel
theorem dX4_solve_37 : decode cX4_solve 37 = .ok (.istore_n 3, 1) := by decide +kernel
theorem dX4_solve_38 : decode cX4_solve 38 = .ok (.iload_n 3, 1) := by decide +kernel
theorem dX4_solve_39 : decode cX4_solve 39 = .ok (.aload_n 0, 1) := by decide +kernel
theorem dX4_solve_40 : decode cX4_solve 40 = .ok (.getfield 32, 3) := by decide +kernel
theorem dX4_solve_43 : decode cX4_solve 43 = .ok (.getfield 70, 3) := by decide +kernel
theorem dX4_solve_46 : decode cX4_solve 46 = .ok (.if_icmp .ge 24, 3) := by decide +kernel
theorem dX4_solve_49 : decode cX4_solve 49 = .ok (.iload_n 2, 1) := by decide +kernel
theorem dX4_solve_50 : decode cX4_solve 50 = .ok (.iload_n 3, 1) := by decide +kernel
theorem dX4_solve_51 : decode cX4_solve 51 = .ok (.ishr, 1) := by decide +kernel
theorem dX4_solve_52 : decode cX4_solve 52 = .ok (.iconst 1, 1) := by decide +kernel
theorem dX4_solve_53 : decode cX4_solve 53 = .ok (.iand, 1) := by decide +kernel
theorem dX4_solve_54 : decode cX4_solve 54 = .ok (.ifCond .eq 10, 3) := by decide +kernel
theorem dX4_solve_57 : decode cX4_solve 57 = .ok (.aload_n 0, 1) := by decide +kernel
theorem dX4_solve_58 : decode cX4_solve 58 = .ok (.iload_n 1, 1) := by decide +kernel
theorem dX4_solve_59 : decode cX4_solve 59 = .ok (.iload_n 3, 1) := by decide +kernel
theorem dX4_solve_60 : decode cX4_solve 60 = .ok (.iload_n 2, 1) := by decide +kernel
theorem dX4_solve_61 : decode cX4_solve 61 = .ok (.invokevirtual 73, 3) := by decide +kernel
theorem dX4_solve_64 : decode cX4_solve 64 = .ok (.iinc 3 1, 3) := by decide +kernel
theorem dX4_solve_67 : decode cX4_solve 67 = .ok (.goto (-29), 3) := by decide +kernel
theorem dX4_solve_70 : decode cX4_solve 70 = .ok (.iinc 2 1, 3) := by decide +kernel
theorem dX4_solve_73 : decode cX4_solve 73 = .ok (.goto (-48), 3) := by decide +kernel
theorem dX4_solve_76 : decode cX4_solve 76 = .ok (.iinc 1 (-1), 3) := by decide +kernel
theorem dX4_solve_79 : decode cX4_solve 79 = .ok (.goto (-60), 3) := by decide +kernel
theorem dX4_solve_82 : decode cX4_solve 82 = .ok (.return_, 1) := by decide +kernel
theorem dX4_spread_0 : decode cX4_spread 0 = .ok (.iconst 0, 1) := by decide +kernel
theorem dX4_spread_1 : decode cX4_spread 1 = .ok (.istore_n 1, 1) := by decide +kernel
theorem dX4_spread_2 : decode cX4_spread 2 = .ok (.iload_n 1, 1) := by decide +kernel
theorem dX4_spread_3 : decode cX4_spread 3 = .ok (.sipush 640, 3) := by decide +kernel
theorem dX4_spread_6 : decode cX4_spread 6 = .ok (.if_icmp .ge 16, 3) := by decide +kernel
theorem dX4_spread_9 : decode cX4_spread 9 = .ok (.aload_n 0, 1) := by decide +kernel
theorem dX4_spread_10 : decode cX4_spread 10 = .ok (.getfield 22, 3) := by decide +kernel
theorem dX4_spread_13 : decode cX4_spread 13 = .ok (.iload_n 1, 1) := by decide +kernel
theorem dX4_spread_14 : decode cX4_spread 14 = .ok (.lconst 0, 1) := by decide +kernel
theorem dX4_spread_15 : decode cX4_spread 15 = .ok (.lastore, 1) := by decide +kernel
theorem dX4_spread_16 : decode cX4_spread 16 = .ok (.iinc 1 1, 3) := by decide +kernel
theorem dX4_spread_19 : decode cX4_spread 19 = .ok (.goto (-17), 3) := by decide +kernel
theorem dX4_spread_22 : decode cX4_spread 22 = .ok (.iconst 0, 1) := by decide +kernel
theorem dX4_spread_23 : decode cX4_spread 23 = .ok (.istore_n 1, 1) := by decide +kernel
theorem dX4_spread_24 : decode cX4_spread 24 = .ok (.iload_n 1, 1) := by decide +kernel
theorem dX4_spread_25 : decode cX4_spread 25 = .ok (.bipush 16, 2) := by decide +kernel
theorem dX4_spread_27 : decode cX4_spread 27 = .ok (.if_icmp .ge 16, 3) := by decide +kernel
theorem dX4_spread_30 : decode cX4_spread 30 = .ok (.aload_n 0, 1) := by decide +kernel
theorem dX4_spread_31 : decode cX4_spread 31 = .ok (.getfield 9, 3) := by decide +kernel
theorem dX4_spread_34 : decode cX4_spread 34 = .ok (.iload_n 1, 1) := by decide +kernel
theorem dX4_spread_35 : decode cX4_spread 35 = .ok (.lconst 0, 1) := by decide +kernel
theorem dX4_spread_36 : decode cX4_spread 36 = .ok (.lastore, 1) := by decide +kernel
theorem dX4_spread_37 : decode cX4_spread 37 = .ok (.iinc 1 1, 3) := by decide +kernel
theorem dX4_spread_40 : decode cX4_spread 40 = .ok (.goto (-16), 3) := by decide +kernel
theorem dX4_spread_43 : decode cX4_spread 43 = .ok (.aload_n 0, 1) := by decide +kernel
theorem dX4_spread_44 : decode cX4_spread 44 = .ok (.lconst 0, 1) := by decide +kernel
theorem dX4_spread_45 : decode cX4_spread 45 = .ok (.putfield 77, 3) := by decide +kernel
theorem dX4_spread_48 : decode cX4_spread 48 = .ok (.aload_n 0, 1) := by decide +kernel
theorem dX4_spread_49 : decode cX4_spread 49 = .ok (.getfield 22, 3) := by decide +kernel
theorem dX4_spread_52 : decode cX4_spread 52 = .ok (.iconst 0, 1) := by decide +kernel
theorem dX4_spread_53 : decode cX4_spread 53 = .ok (.aload_n 0, 1) := by decide +kernel
theorem dX4_spread_54 : decode cX4_spread 54 = .ok (.getfield 32, 3) := by decide +kernel
theorem dX4_spread_57 : decode cX4_spread 57 = .ok (.aload_n 0, 1) := by decide +kernel
theorem dX4_spread_58 : decode cX4_spread 58 = .ok (.getfield 32, 3) := by decide +kernel
theorem dX4_spread_61 : decode cX4_spread 61 = .ok (.invokevirtual 66, 3) := by decide +kernel
theorem dX4_spread_64 : decode cX4_spread 64 = .ok (.invokevirtual 81, 3) := by decide +kernel
theorem dX4_spread_67 : decode cX4_spread 67 = .ok (.aload_n 0, 1) := by decide +kernel
theorem dX4_spread_68 : decode cX4_spread 68 = .ok (.getfield 32, 3) := by decide +kernel
theorem dX4_spread_71 : decode cX4_spread 71 = .ok (.invokevirtual 66, 3) := by decide +kernel
theorem dX4_spread_74 : decode cX4_spread 74 = .ok (.invokestatic 49, 3) := by decide +kernel
theorem dX4_spread_77 : decode cX4_spread 77 = .ok (.lconst 1, 1) := by decide +kernel
theorem dX4_spread_78 : decode cX4_spread 78 = .ok (.lastore, 1) := by decide +kernel
theorem dX4_spread_79 : decode cX4_spread 79 = .ok (.iconst 0, 1) := by decide +kernel
theorem dX4_spread_80 : decode cX4_spread 80 = .ok (.istore_n 1, 1) := by decide +kernel
theorem dX4_spread_81 : decode cX4_spread 81 = .ok (.iload_n 1, 1) := by decide +kernel
theorem dX4_spread_82 : decode cX4_spread 82 = .ok (.aload_n 0, 1) := by decide +kernel
theorem dX4_spread_83 : decode cX4_spread 83 = .ok (.getfield 32, 3) := by decide +kernel
theorem dX4_spread_86 : decode cX4_spread 86 = .ok (.getfield 43, 3) := by decide +kernel
theorem dX4_spread_89 : decode cX4_spread 89 = .ok (.if_icmp .gt 59, 3) := by decide +kernel
theorem dX4_spread_92 : decode cX4_spread 92 = .ok (.iconst 0, 1) := by decide +kernel
theorem dX4_spread_93 : decode cX4_spread 93 = .ok (.istore_n 2, 1) := by decide +kernel
theorem dX4_spread_94 : decode cX4_spread 94 = .ok (.iload_n 2, 1) := by decide +kernel
theorem dX4_spread_95 : decode cX4_spread 95 = .ok (.iconst 4, 1) := by decide +kernel
theorem dX4_spread_96 : decode cX4_spread 96 = .ok (.if_icmp .ge 46, 3) := by decide +kernel
theorem dX4_spread_99 : decode cX4_spread 99 = .ok (.iconst 0, 1) := by decide +kernel
theorem dX4_spread_100 : decode cX4_spread 100 = .ok (.istore_n 3, 1) := by decide +kernel
theorem dX4_spread_101 : decode cX4_spread 101 = .ok (.iload_n 3, 1) := by decide +kernel
theorem dX4_spread_102 : decode cX4_spread 102 = .ok (.bipush 16, 2) := by decide +kernel
theorem dX4_spread_104 : decode cX4_spread 104 = .ok (.if_icmp .ge 32, 3) := by decide +kernel
theorem dX4_spread_107 : decode cX4_spread 107 = .ok (.aload_n 0, 1) := by decide +kernel
theorem dX4_spread_108 : decode cX4_spread 108 = .ok (.getfield 22, 3) := by decide +kernel
theorem dX4_spread_111 : decode cX4_spread 111 = .ok (.iload_n 1, 1) := by decide +kernel
theorem dX4_spread_112 : decode cX4_spread 112 = .ok (.iload_n 2, 1) := by decide +kernel
theorem dX4_spread_113 : decode cX4_spread 113 = .ok (.iload_n 3, 1) := by decide +kernel
theorem dX4_spread_114 : decode cX4_spread 114 = .ok (.invokestatic 49, 3) := by decide +kernel
theorem dX4_spread_117 : decode cX4_spread 117 = .ok (.laload, 1) := by decide +kernel
theorem dX4_spread_118 : decode cX4_spread 118 = .ok (.lconst 0, 1) := by decide +kernel
theorem dX4_spread_119 : decode cX4_spread 119 = .ok (.lcmp, 1) := by decide +kernel
theorem dX4_spread_120 : decode cX4_spread 120 = .ok (.ifCond .le 10, 3) := by decide +kernel
theorem dX4_spread_123 : decode cX4_spread 123 = .ok (.aload_n 0, 1) := by decide +kernel
theorem dX4_spread_124 : decode cX4_spread 124 = .ok (.iload_n 1, 1) := by decide +kernel
theorem dX4_spread_125 : decode cX4_spread 125 = .ok (.iload_n 2, 1) := by decide +kernel
theorem dX4_spread_126 : decode cX4_spread 126 = .ok (.iload_n 3, 1) := by decide +kernel
theorem dX4_spread_127 : decode cX4_spread 127 = .ok (.invokevirtual 84, 3) := by decide +kernel
theorem dX4_spread_130 : decode cX4_spread 130 = .ok (.iinc 3 1, 3) := by decide +kernel
theorem dX4_spread_133 : decode cX4_spread 133 = .ok (.goto (-32), 3) := by decide +kernel
theorem dX4_spread_136 : decode cX4_spread 136 = .ok (.iinc 2 1, 3) := by decide +kernel
theorem dX4_spread_139 : decode cX4_spread 139 = .ok (.goto (-45), 3) := by decide +kernel
theorem dX4_spread_142 : decode cX4_spread 142 = .ok (.iinc 1 1, 3) := by decide +kernel
theorem dX4_spread_145 : decode cX4_spread 145 = .ok (.goto (-64), 3) := by decide +kernel
theorem dX4_spread_148 : decode cX4_spread 148 = .ok (.return_, 1) := by decide +kernel
theorem dX4_situation_0 : decode cX4_situation 0 = .ok (.iload_n 0, 1) := by decide +kernel
theorem dX4_situation_1 : decode cX4_situation 1 = .ok (.iconst 4, 1) := by decide +kernel
theorem dX4_situation_2 : decode cX4_situation 2 = .ok (.imul, 1) := by decide +kernel
theorem dX4_situation_3 : decode cX4_situation 3 = .ok (.iload_n 1, 1) := by decide +kernel
theorem dX4_situation_4 : decode cX4_situation 4 = .ok (.iadd, 1) := by decide +kernel
theorem dX4_situation_5 : decode cX4_situation 5 = .ok (.bipush 16, 2) := by decide +kernel
theorem dX4_situation_7 : decode cX4_situation 7 = .ok (.imul, 1) := by decide +kernel
theorem dX4_situation_8 : decode cX4_situation 8 = .ok (.iload_n 2, 1) := by decide +kernel
theorem dX4_situation_9 : decode cX4_situation 9 = .ok (.iadd, 1) := by decide +kernel
theorem dX4_situation_10 : decode cX4_situation 10 = .ok (.ireturn, 1) := by decide +kernel
theorem dX4_situationNext_0 : decode cX4_situationNext 0 = .ok (.iload_n 1, 1) := by decide +kernel
theorem dX4_situationNext_1 : decode cX4_situationNext 1 = .ok (.iconst 1, 1) := by decide +kernel
theorem dX4_situationNext_2 : decode cX4_situationNext 2 = .ok (.iadd, 1) := by decide +kernel
theorem dX4_situationNext_3 : decode cX4_situationNext 3 = .ok (.aload_n 0, 1) := by decide +kernel
theorem dX4_situationNext_4 : decode cX4_situationNext 4 = .ok (.getfield 32, 3) := by decide +kernel
theorem dX4_situationNext_7 : decode cX4_situationNext 7 = .ok (.iload_n 2, 1) := by decide +kernel
theorem dX4_situationNext_8 : decode cX4_situationNext 8 = .ok (.iload_n 3, 1) := by decide +kernel
theorem dX4_situationNext_9 : decode cX4_situationNext 9 = .ok (.invokevirtual 87, 3) := by decide +kernel
theorem dX4_situationNext_12 : decode cX4_situationNext 12 = .ok (.iload_n 3, 1) := by decide +kernel
theorem dX4_situationNext_13 : decode cX4_situationNext 13 = .ok (.invokestatic 49, 3) := by decide +kernel
theorem dX4_situationNext_16 : decode cX4_situationNext 16 = .ok (.ireturn, 1) := by decide +kernel
theorem dX4_without_0 : decode cX4_without 0 = .ok (.iload_n 1, 1) := by decide +kernel
theorem dX4_without_1 : decode cX4_without 1 = .ok (.bipush (-2), 2) := by decide +kernel
theorem dX4_without_3 : decode cX4_without 3 = .ok (.if_icmp .ne 7, 3) := by decide +kernel
theorem dX4_without_6 : decode cX4_without 6 = .ok (.iload_n 0, 1) := by decide +kernel
theorem dX4_without_7 : decode cX4_without 7 = .ok (.goto 10, 3) := by decide +kernel
theorem dX4_without_10 : decode cX4_without 10 = .ok (.iload_n 0, 1) := by decide +kernel
theorem dX4_without_11 : decode cX4_without 11 = .ok (.iconst 1, 1) := by decide +kernel
theorem dX4_without_12 : decode cX4_without 12 = .ok (.iload_n 1, 1) := by decide +kernel
theorem dX4_without_13 : decode cX4_without 13 = .ok (.ishl, 1) := by decide +kernel
theorem dX4_without_14 : decode cX4_without 14 = .ok (.iconst (-1), 1) := by decide +kernel
theorem dX4_without_15 : decode cX4_without 15 = .ok (.ixor, 1) := by decide +kernel
theorem dX4_without_16 : decode cX4_without 16 = .ok (.iand, 1) := by decide +kernel
theorem dX4_without_17 : decode cX4_without 17 = .ok (.ireturn, 1) := by decide +kernel
theorem dX4_numberPlace_0 : decode cX4_numberPlace 0 = .ok (.iload_n 0, 1) := by decide +kernel
theorem dX4_numberPlace_1 : decode cX4_numberPlace 1 = .ok (.iconst 5, 1) := by decide +kernel
theorem dX4_numberPlace_2 : decode cX4_numberPlace 2 = .ok (.imul, 1) := by decide +kernel
theorem dX4_numberPlace_3 : decode cX4_numberPlace 3 = .ok (.iload_n 1, 1) := by decide +kernel
theorem dX4_numberPlace_4 : decode cX4_numberPlace 4 = .ok (.iadd, 1) := by decide +kernel
theorem dX4_numberPlace_5 : decode cX4_numberPlace 5 = .ok (.iconst 4, 1) := by decide +kernel
theorem dX4_numberPlace_6 : decode cX4_numberPlace 6 = .ok (.imul, 1) := by decide +kernel
theorem dX4_numberPlace_7 : decode cX4_numberPlace 7 = .ok (.iload_n 2, 1) := by decide +kernel
theorem dX4_numberPlace_8 : decode cX4_numberPlace 8 = .ok (.iadd, 1) := by decide +kernel
theorem dX4_numberPlace_9 : decode cX4_numberPlace 9 = .ok (.iconst 4, 1) := by decide +kernel
theorem dX4_numberPlace_10 : decode cX4_numberPlace 10 = .ok (.imul, 1) := by decide +kernel
theorem dX4_numberPlace_11 : decode cX4_numberPlace 11 = .ok (.iload_n 3, 1) := by decide +kernel
theorem dX4_numberPlace_12 : decode cX4_numberPlace 12 = .ok (.iadd, 1) := by decide +kernel
theorem dX4_numberPlace_13 : decode cX4_numberPlace 13 = .ok (.ireturn, 1) := by decide +kernel
theorem dX4_findNumbers_0 : decode cX4_findNumbers 0 = .ok (.iconst 0, 1) := by decide +kernel
theorem dX4_findNumbers_1 : decode cX4_findNumbers 1 = .ok (.istore_n 1, 1) := by decide +kernel
theorem dX4_findNumbers_2 : decode cX4_findNumbers 2 = .ok (.iload_n 1, 1) := by decide +kernel
theorem dX4_findNumbers_3 : decode cX4_findNumbers 3 = .ok (.bipush 9, 2) := by decide +kernel
theorem dX4_findNumbers_5 : decode cX4_findNumbers 5 = .ok (.if_icmp .ge 121, 3) := by decide +kernel
theorem dX4_findNumbers_8 : decode cX4_findNumbers 8 = .ok (.iconst 2, 1) := by decide +kernel
theorem dX4_findNumbers_9 : decode cX4_findNumbers 9 = .ok (.istore_n 2, 1) := by decide +kernel
theorem dX4_findNumbers_10 : decode cX4_findNumbers 10 = .ok (.iload_n 2, 1) := by decide +kernel
theorem dX4_findNumbers_11 : decode cX4_findNumbers 11 = .ok (.aload_n 0, 1) := by decide +kernel
theorem dX4_findNumbers_12 : decode cX4_findNumbers 12 = .ok (.getfield 32, 3) := by decide +kernel
theorem dX4_findNumbers_15 : decode cX4_findNumbers 15 = .ok (.getfield 70, 3) := by decide +kernel
theorem dX4_findNumbers_18 : decode cX4_findNumbers 18 = .ok (.if_icmp .gt 102, 3) := by decide +kernel
theorem dX4_findNumbers_21 : decode cX4_findNumbers 21 = .ok (.iconst 0, 1) := by decide +kernel
theorem dX4_findNumbers_22 : decode cX4_findNumbers 22 = .ok (.istore_n 3, 1) := by decide +kernel
theorem dX4_findNumbers_23 : decode cX4_findNumbers 23 = .ok (.iload_n 3, 1) := by decide +kernel
theorem dX4_findNumbers_24 : decode cX4_findNumbers 24 = .ok (.aload_n 0, 1) := by decide +kernel
theorem dX4_findNumbers_25 : decode cX4_findNumbers 25 = .ok (.getfield 32, 3) := by decide +kernel
theorem dX4_findNumbers_28 : decode cX4_findNumbers 28 = .ok (.getfield 70, 3) := by decide +kernel
theorem dX4_findNumbers_31 : decode cX4_findNumbers 31 = .ok (.if_icmp .ge 83, 3) := by decide +kernel
theorem dX4_findNumbers_34 : decode cX4_findNumbers 34 = .ok (.aload_n 0, 1) := by decide +kernel
theorem dX4_findNumbers_35 : decode cX4_findNumbers 35 = .ok (.getfield 32, 3) := by decide +kernel
theorem dX4_findNumbers_38 : decode cX4_findNumbers 38 = .ok (.getfield 91, 3) := by decide +kernel
theorem dX4_findNumbers_41 : decode cX4_findNumbers 41 = .ok (.iload_n 3, 1) := by decide +kernel
theorem dX4_findNumbers_42 : decode cX4_findNumbers 42 = .ok (.iaload, 1) := by decide +kernel
theorem dX4_findNumbers_43 : decode cX4_findNumbers 43 = .ok (.istore 4, 2) := by decide +kernel
theorem dX4_findNumbers_45 : decode cX4_findNumbers 45 = .ok (.iconst 0, 1) := by decide +kernel
theorem dX4_findNumbers_46 : decode cX4_findNumbers 46 = .ok (.istore 5, 2) := by decide +kernel
theorem dX4_findNumbers_48 : decode cX4_findNumbers 48 = .ok (.iload 5, 2) := by decide +kernel
theorem dX4_findNumbers_50 : decode cX4_findNumbers 50 = .ok (.aload_n 0, 1) := by decide +kernel
theorem dX4_findNumbers_51 : decode cX4_findNumbers 51 = .ok (.getfield 32, 3) := by decide +kernel
theorem dX4_findNumbers_54 : decode cX4_findNumbers 54 = .ok (.getfield 70, 3) := by decide +kernel
theorem dX4_findNumbers_57 : decode cX4_findNumbers 57 = .ok (.if_icmp .ge 51, 3) := by decide +kernel
theorem dX4_findNumbers_60 : decode cX4_findNumbers 60 = .ok (.aload_n 0, 1) := by decide +kernel
theorem dX4_findNumbers_61 : decode cX4_findNumbers 61 = .ok (.getfield 25, 3) := by decide +kernel
theorem dX4_findNumbers_64 : decode cX4_findNumbers 64 = .ok (.iload_n 1, 1) := by decide +kernel
theorem dX4_findNumbers_65 : decode cX4_findNumbers 65 = .ok (.iload_n 2, 1) := by decide +kernel
theorem dX4_findNumbers_66 : decode cX4_findNumbers 66 = .ok (.iload_n 3, 1) := by decide +kernel
theorem dX4_findNumbers_67 : decode cX4_findNumbers 67 = .ok (.iload 5, 2) := by decide +kernel
theorem dX4_findNumbers_69 : decode cX4_findNumbers 69 = .ok (.invokestatic 59, 3) := by decide +kernel
theorem dX4_findNumbers_72 : decode cX4_findNumbers 72 = .ok (.aload_n 0, 1) := by decide +kernel
theorem dX4_findNumbers_73 : decode cX4_findNumbers 73 = .ok (.getfield 36, 3) := by decide +kernel
theorem dX4_findNumbers_76 : decode cX4_findNumbers 76 = .ok (.invokevirtual 94, 3) := by decide +kernel
theorem dX4_findNumbers_79 : decode cX4_findNumbers 79 = .ok (.ifCond .eq 20, 3) := by decide +kernel
theorem dX4_findNumbers_82 : decode cX4_findNumbers 82 = .ok (.aload_n 0, 1) := by decide +kernel
theorem dX4_findNumbers_83 : decode cX4_findNumbers 83 = .ok (.getfield 36, 3) := by decide +kernel
theorem dX4_findNumbers_86 : decode cX4_findNumbers 86 = .ok (.iload 4, 2) := by decide +kernel
theorem dX4_findNumbers_88 : decode cX4_findNumbers 88 = .ok (.iload_n 3, 1) := by decide +kernel
theorem dX4_findNumbers_89 : decode cX4_findNumbers 89 = .ok (.iload 5, 2) := by decide +kernel
theorem dX4_findNumbers_91 : decode cX4_findNumbers 91 = .ok (.iload_n 2, 1) := by decide +kernel
theorem dX4_findNumbers_92 : decode cX4_findNumbers 92 = .ok (.iload_n 1, 1) := by decide +kernel
theorem dX4_findNumbers_93 : decode cX4_findNumbers 93 = .ok (.invokevirtual 100, 3) := by decide +kernel
theorem dX4_findNumbers_96 : decode cX4_findNumbers 96 = .ok (.goto 5, 3) := by decide +kernel
theorem dX4_findNumbers_99 : decode cX4_findNumbers 99 = .ok (.iload 4, 2) := by decide +kernel
theorem dX4_findNumbers_101 : decode cX4_findNumbers 101 = .ok (.iastore, 1) := by decide +kernel
theorem dX4_findNumbers_102 : decode cX4_findNumbers 102 = .ok (.iinc 5 1, 3) := by decide +kernel
theorem dX4_findNumbers_105 : decode cX4_findNumbers 105 = .ok (.goto (-57), 3) := by decide +kernel
theorem dX4_findNumbers_108 : decode cX4_findNumbers 108 = .ok (.iinc 3 1, 3) := by decide +kernel
theorem dX4_findNumbers_111 : decode cX4_findNumbers 111 = .ok (.goto (-88), 3) := by decide +kernel
theorem dX4_findNumbers_114 : decode cX4_findNumbers 114 = .ok (.iinc 2 1, 3) := by decide +kernel
theorem dX4_findNumbers_117 : decode cX4_findNumbers 117 = .ok (.goto (-107), 3) := by decide +kernel
theorem dX4_findNumbers_120 : decode cX4_findNumbers 120 = .ok (.iinc 1 1, 3) := by decide +kernel
theorem dX4_findNumbers_123 : decode cX4_findNumbers 123 = .ok (.goto (-121), 3) := by decide +kernel
theorem dX4_findNumbers_126 : decode cX4_findNumbers 126 = .ok (.aload_n 0, 1) := by decide +kernel
theorem dX4_findNumbers_127 : decode cX4_findNumbers 127 = .ok (.iconst 1, 1) := by decide +kernel
theorem dX4_findNumbers_128 : decode cX4_findNumbers 128 = .ok (.putfield 28, 3) := by decide +kernel
theorem dX4_findNumbers_131 : decode cX4_findNumbers 131 = .ok (.return_, 1) := by decide +kernel
theorem dX4_solveAt_0 : decode cX4_solveAt 0 = .ok (.iload_n 1, 1) := by decide +kernel
theorem dX4_solveAt_1 : decode cX4_solveAt 1 = .ok (.iload_n 2, 1) := by decide +kernel
theorem dX4_solveAt_2 : decode cX4_solveAt 2 = .ok (.iload_n 3, 1) := by decide +kernel
theorem dX4_solveAt_3 : decode cX4_solveAt 3 = .ok (.invokestatic 49, 3) := by decide +kernel
theorem dX4_solveAt_6 : decode cX4_solveAt 6 = .ok (.istore 4, 2) := by decide +kernel
theorem dX4_solveAt_8 : decode cX4_solveAt 8 = .ok (.aload_n 0, 1) := by decide +kernel
theorem dX4_solveAt_9 : decode cX4_solveAt 9 = .ok (.getfield 32, 3) := by decide +kernel
theorem dX4_solveAt_12 : decode cX4_solveAt 12 = .ok (.iload_n 3, 1) := by decide +kernel
theorem dX4_solveAt_13 : decode cX4_solveAt 13 = .ok (.iload_n 1, 1) := by decide +kernel
theorem dX4_solveAt_14 : decode cX4_solveAt 14 = .ok (.invokevirtual 104, 3) := by decide +kernel
theorem dX4_solveAt_17 : decode cX4_solveAt 17 = .ok (.ifCond .eq 90, 3) := by decide +kernel
theorem dX4_solveAt_20 : decode cX4_solveAt 20 = .ok (.aload_n 0, 1) := by decide +kernel
theorem dX4_solveAt_21 : decode cX4_solveAt 21 = .ok (.getfield 18, 3) := by decide +kernel
theorem dX4_solveAt_24 : decode cX4_solveAt 24 = .ok (.iload 4, 2) := by decide +kernel
theorem dX4_solveAt_26 : decode cX4_solveAt 26 = .ok (.bipush (-2), 2) := by decide +kernel
theorem dX4_solveAt_28 : decode cX4_solveAt 28 = .ok (.iastore, 1) := by decide +kernel
theorem dX4_solveAt_29 : decode cX4_solveAt 29 = .ok (.aload_n 0, 1) := by decide +kernel
theorem dX4_solveAt_30 : decode cX4_solveAt 30 = .ok (.getfield 32, 3) := by decide +kernel
theorem dX4_solveAt_33 : decode cX4_solveAt 33 = .ok (.getfield 108, 3) := by decide +kernel
theorem dX4_solveAt_36 : decode cX4_solveAt 36 = .ok (.iload_n 3, 1) := by decide +kernel
theorem dX4_solveAt_37 : decode cX4_solveAt 37 = .ok (.invokestatic 53, 3) := by decide +kernel
theorem dX4_solveAt_40 : decode cX4_solveAt 40 = .ok (.iaload, 1) := by decide +kernel
theorem dX4_solveAt_41 : decode cX4_solveAt 41 = .ok (.i2l, 1) := by decide +kernel
theorem dX4_solveAt_42 : decode cX4_solveAt 42 = .ok (.getstatic 40, 3) := by decide +kernel
theorem dX4_solveAt_45 : decode cX4_solveAt 45 = .ok (.aload_n 0, 1) := by decide +kernel
theorem dX4_solveAt_46 : decode cX4_solveAt 46 = .ok (.getfield 32, 3) := by decide +kernel
theorem dX4_solveAt_49 : decode cX4_solveAt 49 = .ok (.getfield 43, 3) := by decide +kernel
theorem dX4_solveAt_52 : decode cX4_solveAt 52 = .ok (.iload_n 1, 1) := by decide +kernel
theorem dX4_solveAt_53 : decode cX4_solveAt 53 = .ok (.isub, 1) := by decide +kernel
theorem dX4_solveAt_54 : decode cX4_solveAt 54 = .ok (.laload, 1) := by decide +kernel
theorem dX4_solveAt_55 : decode cX4_solveAt 55 = .ok (.lmul, 1) := by decide +kernel
theorem dX4_solveAt_56 : decode cX4_solveAt 56 = .ok (.lstore 5, 2) := by decide +kernel
theorem dX4_solveAt_58 : decode cX4_solveAt 58 = .ok (.iconst 0, 1) := by decide +kernel
theorem dX4_solveAt_59 : decode cX4_solveAt 59 = .ok (.istore 7, 2) := by decide +kernel
theorem dX4_solveAt_61 : decode cX4_solveAt 61 = .ok (.iload 7, 2) := by decide +kernel
theorem dX4_solveAt_63 : decode cX4_solveAt 63 = .ok (.aload_n 0, 1) := by decide +kernel
theorem dX4_solveAt_64 : decode cX4_solveAt 64 = .ok (.getfield 32, 3) := by decide +kernel
theorem dX4_solveAt_67 : decode cX4_solveAt 67 = .ok (.getfield 70, 3) := by decide +kernel
theorem dX4_solveAt_70 : decode cX4_solveAt 70 = .ok (.if_icmp .ge 36, 3) := by decide +kernel
theorem dX4_solveAt_73 : decode cX4_solveAt 73 = .ok (.aload_n 0, 1) := by decide +kernel
theorem dX4_solveAt_74 : decode cX4_solveAt 74 = .ok (.getfield 15, 3) := by decide +kernel
theorem dX4_solveAt_77 : decode cX4_solveAt 77 = .ok (.iload 4, 2) := by decide +kernel
theorem dX4_solveAt_79 : decode cX4_solveAt 79 = .ok (.iconst 4, 1) := by decide +kernel
theorem dX4_solveAt_80 : decode cX4_solveAt 80 = .ok (.imul, 1) := by decide +kernel
theorem dX4_solveAt_81 : decode cX4_solveAt 81 = .ok (.iload 7, 2) := by decide +kernel
theorem dX4_solveAt_83 : decode cX4_solveAt 83 = .ok (.iadd, 1) := by decide +kernel
theorem dX4_solveAt_84 : decode cX4_solveAt 84 = .ok (.iload_n 3, 1) := by decide +kernel
theorem dX4_solveAt_85 : decode cX4_solveAt 85 = .ok (.iload 7, 2) := by decide +kernel
theorem dX4_solveAt_87 : decode cX4_solveAt 87 = .ok (.ishr, 1) := by decide +kernel
theorem dX4_solveAt_88 : decode cX4_solveAt 88 = .ok (.iconst 1, 1) := by decide +kernel
theorem dX4_solveAt_89 : decode cX4_solveAt 89 = .ok (.iand, 1) := by decide +kernel
theorem dX4_solveAt_90 : decode cX4_solveAt 90 = .ok (.ifCond .eq 8, 3) := by decide +kernel
theorem dX4_solveAt_93 : decode cX4_solveAt 93 = .ok (.lload 5, 2) := by decide +kernel
theorem dX4_solveAt_95 : decode cX4_solveAt 95 = .ok (.goto 4, 3) := by decide +kernel
theorem dX4_solveAt_98 : decode cX4_solveAt 98 = .ok (.lconst 0, 1) := by decide +kernel
theorem dX4_solveAt_99 : decode cX4_solveAt 99 = .ok (.lastore, 1) := by decide +kernel
theorem dX4_solveAt_100 : decode cX4_solveAt 100 = .ok (.iinc 7 1, 3) := by decide +kernel
theorem dX4_solveAt_103 : decode cX4_solveAt 103 = .ok (.goto (-42), 3) := by decide +kernel
theorem dX4_solveAt_106 : decode cX4_solveAt 106 = .ok (.return_, 1) := by decide +kernel
theorem dX4_solveAt_107 : decode cX4_solveAt 107 = .ok (.aload_n 0, 1) := by decide +kernel
theorem dX4_solveAt_108 : decode cX4_solveAt 108 = .ok (.getfield 32, 3) := by decide +kernel
theorem dX4_solveAt_111 : decode cX4_solveAt 111 = .ok (.getfield 111, 3) := by decide +kernel
theorem dX4_solveAt_114 : decode cX4_solveAt 114 = .ok (.iload_n 2, 1) := by decide +kernel
theorem dX4_solveAt_115 : decode cX4_solveAt 115 = .ok (.iaload, 1) := by decide +kernel
theorem dX4_solveAt_116 : decode cX4_solveAt 116 = .ok (.iconst 5, 1) := by decide +kernel
theorem dX4_solveAt_117 : decode cX4_solveAt 117 = .ok (.if_icmp .ne 13, 3) := by decide +kernel
theorem dX4_solveAt_120 : decode cX4_solveAt 120 = .ok (.aload_n 0, 1) := by decide +kernel
theorem dX4_solveAt_121 : decode cX4_solveAt 121 = .ok (.iload_n 1, 1) := by decide +kernel
theorem dX4_solveAt_122 : decode cX4_solveAt 122 = .ok (.iload_n 2, 1) := by decide +kernel
theorem dX4_solveAt_123 : decode cX4_solveAt 123 = .ok (.iload_n 3, 1) := by decide +kernel
theorem dX4_solveAt_124 : decode cX4_solveAt 124 = .ok (.invokevirtual 114, 3) := by decide +kernel
theorem dX4_solveAt_127 : decode cX4_solveAt 127 = .ok (.goto 12, 3) := by decide +kernel
theorem dX4_solveAt_130 : decode cX4_solveAt 130 = .ok (.aload_n 0, 1) := by decide +kernel
theorem dX4_solveAt_131 : decode cX4_solveAt 131 = .ok (.getfield 32, 3) := by decide +kernel
theorem dX4_solveAt_134 : decode cX4_solveAt 134 = .ok (.iload_n 2, 1) := by decide +kernel
theorem dX4_solveAt_135 : decode cX4_solveAt 135 = .ok (.iload_n 3, 1) := by decide +kernel
theorem dX4_solveAt_136 : decode cX4_solveAt 136 = .ok (.invokevirtual 117, 3) := by decide +kernel
theorem dX4_solveAt_139 : decode cX4_solveAt 139 = .ok (.istore 5, 2) := by decide +kernel
theorem dX4_solveAt_141 : decode cX4_solveAt 141 = .ok (.aload_n 0, 1) := by decide +kernel
theorem dX4_solveAt_142 : decode cX4_solveAt 142 = .ok (.getfield 18, 3) := by decide +kernel
theorem dX4_solveAt_145 : decode cX4_solveAt 145 = .ok (.iload 4, 2) := by decide +kernel
theorem dX4_solveAt_147 : decode cX4_solveAt 147 = .ok (.iload 5, 2) := by decide +kernel
theorem dX4_solveAt_149 : decode cX4_solveAt 149 = .ok (.iastore, 1) := by decide +kernel
theorem dX4_solveAt_150 : decode cX4_solveAt 150 = .ok (.aload_n 0, 1) := by decide +kernel
theorem dX4_solveAt_151 : decode cX4_solveAt 151 = .ok (.iload_n 1, 1) := by decide +kernel
theorem dX4_solveAt_152 : decode cX4_solveAt 152 = .ok (.iload_n 2, 1) := by decide +kernel
theorem dX4_solveAt_153 : decode cX4_solveAt 153 = .ok (.iload 5, 2) := by decide +kernel
theorem dX4_solveAt_155 : decode cX4_solveAt 155 = .ok (.iload_n 3, 1) := by decide +kernel
theorem dX4_solveAt_156 : decode cX4_solveAt 156 = .ok (.invokevirtual 120, 3) := by decide +kernel
theorem dX4_solveAt_159 : decode cX4_solveAt 159 = .ok (.istore 6, 2) := by decide +kernel
theorem dX4_solveAt_161 : decode cX4_solveAt 161 = .ok (.aload_n 0, 1) := by decide +kernel
theorem dX4_solveAt_162 : decode cX4_solveAt 162 = .ok (.iload_n 1, 1) := by decide +kernel
theorem dX4_solveAt_163 : decode cX4_solveAt 163 = .ok (.iload_n 2, 1) := by decide +kernel
theorem dX4_solveAt_164 : decode cX4_solveAt 164 = .ok (.iload_n 3, 1) := by decide +kernel
theorem dX4_solveAt_165 : decode cX4_solveAt 165 = .ok (.invokevirtual 123, 3) := by decide +kernel
theorem dX4_solveAt_168 : decode cX4_solveAt 168 = .ok (.istore 7, 2) := by decide +kernel
theorem dX4_solveAt_170 : decode cX4_solveAt 170 = .ok (.aload_n 0, 1) := by decide +kernel
theorem dX4_solveAt_171 : decode cX4_solveAt 171 = .ok (.iload_n 1, 1) := by decide +kernel
theorem dX4_solveAt_172 : decode cX4_solveAt 172 = .ok (.iload_n 2, 1) := by decide +kernel
theorem dX4_solveAt_173 : decode cX4_solveAt 173 = .ok (.iload_n 3, 1) := by decide +kernel
theorem dX4_solveAt_174 : decode cX4_solveAt 174 = .ok (.iload 5, 2) := by decide +kernel
theorem dX4_solveAt_176 : decode cX4_solveAt 176 = .ok (.invokestatic 126, 3) := by decide +kernel
theorem dX4_solveAt_179 : decode cX4_solveAt 179 = .ok (.invokevirtual 123, 3) := by decide +kernel
theorem dX4_solveAt_182 : decode cX4_solveAt 182 = .ok (.istore 8, 2) := by decide +kernel
theorem dX4_solveAt_184 : decode cX4_solveAt 184 = .ok (.iconst 0, 1) := by decide +kernel
theorem dX4_solveAt_185 : decode cX4_solveAt 185 = .ok (.istore 9, 2) := by decide +kernel
theorem dX4_solveAt_187 : decode cX4_solveAt 187 = .ok (.iload 9, 2) := by decide +kernel
theorem dX4_solveAt_189 : decode cX4_solveAt 189 = .ok (.aload_n 0, 1) := by decide +kernel
theorem dX4_solveAt_190 : decode cX4_solveAt 190 = .ok (.getfield 32, 3) := by decide +kernel
theorem dX4_solveAt_193 : decode cX4_solveAt 193 = .ok (.getfield 70, 3) := by decide +kernel
theorem dX4_solveAt_196 : decode cX4_solveAt 196 = .ok (.if_icmp .ge 33, 3) := by decide +kernel
theorem dX4_solveAt_199 : decode cX4_solveAt 199 = .ok (.aload_n 0, 1) := by decide +kernel
theorem dX4_solveAt_200 : decode cX4_solveAt 200 = .ok (.getfield 15, 3) := by decide +kernel
theorem dX4_solveAt_203 : decode cX4_solveAt 203 = .ok (.iload 4, 2) := by decide +kernel
theorem dX4_solveAt_205 : decode cX4_solveAt 205 = .ok (.iconst 4, 1) := by decide +kernel
theorem dX4_solveAt_206 : decode cX4_solveAt 206 = .ok (.imul, 1) := by decide +kernel
theorem dX4_solveAt_207 : decode cX4_solveAt 207 = .ok (.iload 9, 2) := by decide +kernel
theorem dX4_solveAt_209 : decode cX4_solveAt 209 = .ok (.iadd, 1) := by decide +kernel
theorem dX4_solveAt_210 : decode cX4_solveAt 210 = .ok (.aload_n 0, 1) := by decide +kernel
theorem dX4_solveAt_211 : decode cX4_solveAt 211 = .ok (.iload 6, 2) := by decide +kernel
theorem dX4_solveAt_213 : decode cX4_solveAt 213 = .ok (.iload 8, 2) := by decide +kernel
theorem dX4_solveAt_215 : decode cX4_solveAt 215 = .ok (.iload 7, 2) := by decide +kernel
theorem dX4_solveAt_217 : decode cX4_solveAt 217 = .ok (.iload 9, 2) := by decide +kernel
theorem dX4_solveAt_219 : decode cX4_solveAt 219 = .ok (.invokevirtual 129, 3) := by decide +kernel
theorem dX4_solveAt_222 : decode cX4_solveAt 222 = .ok (.lastore, 1) := by decide +kernel
theorem dX4_solveAt_223 : decode cX4_solveAt 223 = .ok (.iinc 9 1, 3) := by decide +kernel
theorem dX4_solveAt_226 : decode cX4_solveAt 226 = .ok (.goto (-39), 3) := by decide +kernel
theorem dX4_solveAt_229 : decode cX4_solveAt 229 = .ok (.return_, 1) := by decide +kernel
theorem dX4_bestAim_0 : decode cX4_bestAim 0 = .ok (.aload_n 0, 1) := by decide +kernel
theorem dX4_bestAim_1 : decode cX4_bestAim 1 = .ok (.iload_n 1, 1) := by decide +kernel
theorem dX4_bestAim_2 : decode cX4_bestAim 2 = .ok (.iload_n 2, 1) := by decide +kernel
theorem dX4_bestAim_3 : decode cX4_bestAim 3 = .ok (.iload_n 3, 1) := by decide +kernel
theorem dX4_bestAim_4 : decode cX4_bestAim 4 = .ok (.invokevirtual 123, 3) := by decide +kernel
theorem dX4_bestAim_7 : decode cX4_bestAim 7 = .ok (.istore 4, 2) := by decide +kernel
theorem dX4_bestAim_9 : decode cX4_bestAim 9 = .ok (.bipush (-2), 2) := by decide +kernel
theorem dX4_bestAim_11 : decode cX4_bestAim 11 = .ok (.istore 5, 2) := by decide +kernel
theorem dX4_bestAim_13 : decode cX4_bestAim 13 = .ok (.aload_n 0, 1) := by decide +kernel
theorem dX4_bestAim_14 : decode cX4_bestAim 14 = .ok (.iconst 0, 1) := by decide +kernel
theorem dX4_bestAim_15 : decode cX4_bestAim 15 = .ok (.iload 4, 2) := by decide +kernel
theorem dX4_bestAim_17 : decode cX4_bestAim 17 = .ok (.iload 4, 2) := by decide +kernel
theorem dX4_bestAim_19 : decode cX4_bestAim 19 = .ok (.iload_n 2, 1) := by decide +kernel
theorem dX4_bestAim_20 : decode cX4_bestAim 20 = .ok (.invokevirtual 129, 3) := by decide +kernel
theorem dX4_bestAim_23 : decode cX4_bestAim 23 = .ok (.lstore 6, 2) := by decide +kernel
theorem dX4_bestAim_25 : decode cX4_bestAim 25 = .ok (.iconst 0, 1) := by decide +kernel
theorem dX4_bestAim_26 : decode cX4_bestAim 26 = .ok (.istore 8, 2) := by decide +kernel
theorem dX4_bestAim_28 : decode cX4_bestAim 28 = .ok (.iload 8, 2) := by decide +kernel
theorem dX4_bestAim_30 : decode cX4_bestAim 30 = .ok (.aload_n 0, 1) := by decide +kernel
theorem dX4_bestAim_31 : decode cX4_bestAim 31 = .ok (.getfield 32, 3) := by decide +kernel
theorem dX4_bestAim_34 : decode cX4_bestAim 34 = .ok (.getfield 70, 3) := by decide +kernel
theorem dX4_bestAim_37 : decode cX4_bestAim 37 = .ok (.if_icmp .ge 74, 3) := by decide +kernel
theorem dX4_bestAim_40 : decode cX4_bestAim 40 = .ok (.iload 8, 2) := by decide +kernel
theorem dX4_bestAim_42 : decode cX4_bestAim 42 = .ok (.iload_n 2, 1) := by decide +kernel
theorem dX4_bestAim_43 : decode cX4_bestAim 43 = .ok (.if_icmp .eq 62, 3) := by decide +kernel
theorem dX4_bestAim_46 : decode cX4_bestAim 46 = .ok (.iload_n 3, 1) := by decide +kernel
theorem dX4_bestAim_47 : decode cX4_bestAim 47 = .ok (.iload 8, 2) := by decide +kernel
theorem dX4_bestAim_49 : decode cX4_bestAim 49 = .ok (.ishr, 1) := by decide +kernel
theorem dX4_bestAim_50 : decode cX4_bestAim 50 = .ok (.iconst 1, 1) := by decide +kernel
theorem dX4_bestAim_51 : decode cX4_bestAim 51 = .ok (.iand, 1) := by decide +kernel
theorem dX4_bestAim_52 : decode cX4_bestAim 52 = .ok (.ifCond .eq 53, 3) := by decide +kernel
theorem dX4_bestAim_55 : decode cX4_bestAim 55 = .ok (.aload_n 0, 1) := by decide +kernel
theorem dX4_bestAim_56 : decode cX4_bestAim 56 = .ok (.iload_n 1, 1) := by decide +kernel
theorem dX4_bestAim_57 : decode cX4_bestAim 57 = .ok (.iload_n 2, 1) := by decide +kernel
theorem dX4_bestAim_58 : decode cX4_bestAim 58 = .ok (.iload_n 3, 1) := by decide +kernel
theorem dX4_bestAim_59 : decode cX4_bestAim 59 = .ok (.iload 8, 2) := by decide +kernel
theorem dX4_bestAim_61 : decode cX4_bestAim 61 = .ok (.invokestatic 126, 3) := by decide +kernel
theorem dX4_bestAim_64 : decode cX4_bestAim 64 = .ok (.invokevirtual 123, 3) := by decide +kernel
theorem dX4_bestAim_67 : decode cX4_bestAim 67 = .ok (.istore 9, 2) := by decide +kernel
theorem dX4_bestAim_69 : decode cX4_bestAim 69 = .ok (.aload_n 0, 1) := by decide +kernel
theorem dX4_bestAim_70 : decode cX4_bestAim 70 = .ok (.aload_n 0, 1) := by decide +kernel
theorem dX4_bestAim_71 : decode cX4_bestAim 71 = .ok (.iload_n 1, 1) := by decide +kernel
theorem dX4_bestAim_72 : decode cX4_bestAim 72 = .ok (.iload_n 2, 1) := by decide +kernel
theorem dX4_bestAim_73 : decode cX4_bestAim 73 = .ok (.iload 8, 2) := by decide +kernel
theorem dX4_bestAim_75 : decode cX4_bestAim 75 = .ok (.iload_n 3, 1) := by decide +kernel
theorem dX4_bestAim_76 : decode cX4_bestAim 76 = .ok (.invokevirtual 120, 3) := by decide +kernel
theorem dX4_bestAim_79 : decode cX4_bestAim 79 = .ok (.iload 9, 2) := by decide +kernel
theorem dX4_bestAim_81 : decode cX4_bestAim 81 = .ok (.iload 4, 2) := by decide +kernel
theorem dX4_bestAim_83 : decode cX4_bestAim 83 = .ok (.iload_n 2, 1) := by decide +kernel
theorem dX4_bestAim_84 : decode cX4_bestAim 84 = .ok (.invokevirtual 129, 3) := by decide +kernel
theorem dX4_bestAim_87 : decode cX4_bestAim 87 = .ok (.lstore 10, 2) := by decide +kernel
theorem dX4_bestAim_89 : decode cX4_bestAim 89 = .ok (.lload 10, 2) := by decide +kernel
theorem dX4_bestAim_91 : decode cX4_bestAim 91 = .ok (.lload 6, 2) := by decide +kernel
theorem dX4_bestAim_93 : decode cX4_bestAim 93 = .ok (.lcmp, 1) := by decide +kernel
theorem dX4_bestAim_94 : decode cX4_bestAim 94 = .ok (.ifCond .le 11, 3) := by decide +kernel
theorem dX4_bestAim_97 : decode cX4_bestAim 97 = .ok (.lload 10, 2) := by decide +kernel
theorem dX4_bestAim_99 : decode cX4_bestAim 99 = .ok (.lstore 6, 2) := by decide +kernel
theorem dX4_bestAim_101 : decode cX4_bestAim 101 = .ok (.iload 8, 2) := by decide +kernel
theorem dX4_bestAim_103 : decode cX4_bestAim 103 = .ok (.istore 5, 2) := by decide +kernel
theorem dX4_bestAim_105 : decode cX4_bestAim 105 = .ok (.iinc 8 1, 3) := by decide +kernel
theorem dX4_bestAim_108 : decode cX4_bestAim 108 = .ok (.goto (-80), 3) := by decide +kernel
theorem dX4_bestAim_111 : decode cX4_bestAim 111 = .ok (.iload 5, 2) := by decide +kernel
theorem dX4_bestAim_113 : decode cX4_bestAim 113 = .ok (.ireturn, 1) := by decide +kernel
theorem dX4_mixed_0 : decode cX4_mixed 0 = .ok (.iload_n 1, 1) := by decide +kernel
theorem dX4_mixed_1 : decode cX4_mixed 1 = .ok (.i2l, 1) := by decide +kernel
theorem dX4_mixed_2 : decode cX4_mixed 2 = .ok (.aload_n 0, 1) := by decide +kernel
theorem dX4_mixed_3 : decode cX4_mixed 3 = .ok (.getfield 15, 3) := by decide +kernel
theorem dX4_mixed_6 : decode cX4_mixed 6 = .ok (.iload_n 2, 1) := by decide +kernel
theorem dX4_mixed_7 : decode cX4_mixed 7 = .ok (.iconst 4, 1) := by decide +kernel
theorem dX4_mixed_8 : decode cX4_mixed 8 = .ok (.imul, 1) := by decide +kernel
theorem dX4_mixed_9 : decode cX4_mixed 9 = .ok (.iload 4, 2) := by decide +kernel
theorem dX4_mixed_11 : decode cX4_mixed 11 = .ok (.iadd, 1) := by decide +kernel
theorem dX4_mixed_12 : decode cX4_mixed 12 = .ok (.laload, 1) := by decide +kernel
theorem dX4_mixed_13 : decode cX4_mixed 13 = .ok (.lmul, 1) := by decide +kernel
theorem dX4_mixed_14 : decode cX4_mixed 14 = .ok (.bipush 12, 2) := by decide +kernel
theorem dX4_mixed_16 : decode cX4_mixed 16 = .ok (.iload_n 1, 1) := by decide +kernel
theorem dX4_mixed_17 : decode cX4_mixed 17 = .ok (.isub, 1) := by decide +kernel
theorem dX4_mixed_18 : decode cX4_mixed 18 = .ok (.i2l, 1) := by decide +kernel
theorem dX4_mixed_19 : decode cX4_mixed 19 = .ok (.aload_n 0, 1) := by decide +kernel
theorem dX4_mixed_20 : decode cX4_mixed 20 = .ok (.getfield 15, 3) := by decide +kernel
theorem dX4_mixed_23 : decode cX4_mixed 23 = .ok (.iload_n 3, 1) := by decide +kernel
theorem dX4_mixed_24 : decode cX4_mixed 24 = .ok (.iconst 4, 1) := by decide +kernel
theorem dX4_mixed_25 : decode cX4_mixed 25 = .ok (.imul, 1) := by decide +kernel
theorem dX4_mixed_26 : decode cX4_mixed 26 = .ok (.iload 4, 2) := by decide +kernel
theorem dX4_mixed_28 : decode cX4_mixed 28 = .ok (.iadd, 1) := by decide +kernel
theorem dX4_mixed_29 : decode cX4_mixed 29 = .ok (.laload, 1) := by decide +kernel
theorem dX4_mixed_30 : decode cX4_mixed 30 = .ok (.lmul, 1) := by decide +kernel
theorem dX4_mixed_31 : decode cX4_mixed 31 = .ok (.ladd, 1) := by decide +kernel
theorem dX4_mixed_32 : decode cX4_mixed 32 = .ok (.lreturn, 1) := by decide +kernel
theorem dX4_spreadFrom_0 : decode cX4_spreadFrom 0 = .ok (.aload_n 0, 1) := by decide +kernel
theorem dX4_spreadFrom_1 : decode cX4_spreadFrom 1 = .ok (.getfield 22, 3) := by decide +kernel
theorem dX4_spreadFrom_4 : decode cX4_spreadFrom 4 = .ok (.iload_n 1, 1) := by decide +kernel
theorem dX4_spreadFrom_5 : decode cX4_spreadFrom 5 = .ok (.iload_n 2, 1) := by decide +kernel
theorem dX4_spreadFrom_6 : decode cX4_spreadFrom 6 = .ok (.iload_n 3, 1) := by decide +kernel
theorem dX4_spreadFrom_7 : decode cX4_spreadFrom 7 = .ok (.invokestatic 49, 3) := by decide +kernel
theorem dX4_spreadFrom_10 : decode cX4_spreadFrom 10 = .ok (.laload, 1) := by decide +kernel
theorem dX4_spreadFrom_11 : decode cX4_spreadFrom 11 = .ok (.lstore 4, 2) := by decide +kernel
theorem dX4_spreadFrom_13 : decode cX4_spreadFrom 13 = .ok (.aload_n 0, 1) := by decide +kernel
theorem dX4_spreadFrom_14 : decode cX4_spreadFrom 14 = .ok (.getfield 32, 3) := by decide +kernel
theorem dX4_spreadFrom_17 : decode cX4_spreadFrom 17 = .ok (.iload_n 3, 1) := by decide +kernel
theorem dX4_spreadFrom_18 : decode cX4_spreadFrom 18 = .ok (.iload_n 1, 1) := by decide +kernel
theorem dX4_spreadFrom_19 : decode cX4_spreadFrom 19 = .ok (.invokevirtual 104, 3) := by decide +kernel
theorem dX4_spreadFrom_22 : decode cX4_spreadFrom 22 = .ok (.ifCond .eq 47, 3) := by decide +kernel
theorem dX4_spreadFrom_25 : decode cX4_spreadFrom 25 = .ok (.lload 4, 2) := by decide +kernel
theorem dX4_spreadFrom_27 : decode cX4_spreadFrom 27 = .ok (.getstatic 40, 3) := by decide +kernel
theorem dX4_spreadFrom_30 : decode cX4_spreadFrom 30 = .ok (.aload_n 0, 1) := by decide +kernel
theorem dX4_spreadFrom_31 : decode cX4_spreadFrom 31 = .ok (.getfield 32, 3) := by decide +kernel
theorem dX4_spreadFrom_34 : decode cX4_spreadFrom 34 = .ok (.getfield 43, 3) := by decide +kernel
theorem dX4_spreadFrom_37 : decode cX4_spreadFrom 37 = .ok (.iload_n 1, 1) := by decide +kernel
theorem dX4_spreadFrom_38 : decode cX4_spreadFrom 38 = .ok (.isub, 1) := by decide +kernel
theorem dX4_spreadFrom_39 : decode cX4_spreadFrom 39 = .ok (.laload, 1) := by decide +kernel
theorem dX4_spreadFrom_40 : decode cX4_spreadFrom 40 = .ok (.lmul, 1) := by decide +kernel
theorem dX4_spreadFrom_41 : decode cX4_spreadFrom 41 = .ok (.lstore 6, 2) := by decide +kernel
theorem dX4_spreadFrom_43 : decode cX4_spreadFrom 43 = .ok (.aload_n 0, 1) := by decide +kernel
theorem dX4_spreadFrom_44 : decode cX4_spreadFrom 44 = .ok (.getfield 9, 3) := by decide +kernel
theorem dX4_spreadFrom_47 : decode cX4_spreadFrom 47 = .ok (.iload_n 3, 1) := by decide +kernel
theorem dX4_spreadFrom_48 : decode cX4_spreadFrom 48 = .ok (.dup2, 1) := by decide +kernel
theorem dX4_spreadFrom_49 : decode cX4_spreadFrom 49 = .ok (.laload, 1) := by decide +kernel
theorem dX4_spreadFrom_50 : decode cX4_spreadFrom 50 = .ok (.lload 6, 2) := by decide +kernel
theorem dX4_spreadFrom_52 : decode cX4_spreadFrom 52 = .ok (.ladd, 1) := by decide +kernel
theorem dX4_spreadFrom_53 : decode cX4_spreadFrom 53 = .ok (.lastore, 1) := by decide +kernel
theorem dX4_spreadFrom_54 : decode cX4_spreadFrom 54 = .ok (.aload_n 0, 1) := by decide +kernel
theorem dX4_spreadFrom_55 : decode cX4_spreadFrom 55 = .ok (.dup, 1) := by decide +kernel
theorem dX4_spreadFrom_56 : decode cX4_spreadFrom 56 = .ok (.getfield 77, 3) := by decide +kernel
theorem dX4_spreadFrom_59 : decode cX4_spreadFrom 59 = .ok (.iload_n 1, 1) := by decide +kernel
theorem dX4_spreadFrom_60 : decode cX4_spreadFrom 60 = .ok (.i2l, 1) := by decide +kernel
theorem dX4_spreadFrom_61 : decode cX4_spreadFrom 61 = .ok (.lload 6, 2) := by decide +kernel
theorem dX4_spreadFrom_63 : decode cX4_spreadFrom 63 = .ok (.lmul, 1) := by decide +kernel
theorem dX4_spreadFrom_64 : decode cX4_spreadFrom 64 = .ok (.ladd, 1) := by decide +kernel
theorem dX4_spreadFrom_65 : decode cX4_spreadFrom 65 = .ok (.putfield 77, 3) := by decide +kernel
theorem dX4_spreadFrom_68 : decode cX4_spreadFrom 68 = .ok (.return_, 1) := by decide +kernel
theorem dX4_spreadFrom_69 : decode cX4_spreadFrom 69 = .ok (.aload_n 0, 1) := by decide +kernel
theorem dX4_spreadFrom_70 : decode cX4_spreadFrom 70 = .ok (.iload_n 1, 1) := by decide +kernel
theorem dX4_spreadFrom_71 : decode cX4_spreadFrom 71 = .ok (.iload_n 2, 1) := by decide +kernel
theorem dX4_spreadFrom_72 : decode cX4_spreadFrom 72 = .ok (.iload_n 3, 1) := by decide +kernel
theorem dX4_spreadFrom_73 : decode cX4_spreadFrom 73 = .ok (.invokevirtual 133, 3) := by decide +kernel
theorem dX4_spreadFrom_76 : decode cX4_spreadFrom 76 = .ok (.istore 6, 2) := by decide +kernel
theorem dX4_spreadFrom_78 : decode cX4_spreadFrom 78 = .ok (.aload_n 0, 1) := by decide +kernel
theorem dX4_spreadFrom_79 : decode cX4_spreadFrom 79 = .ok (.iload_n 1, 1) := by decide +kernel
theorem dX4_spreadFrom_80 : decode cX4_spreadFrom 80 = .ok (.iload_n 2, 1) := by decide +kernel
theorem dX4_spreadFrom_81 : decode cX4_spreadFrom 81 = .ok (.iload 6, 2) := by decide +kernel
theorem dX4_spreadFrom_83 : decode cX4_spreadFrom 83 = .ok (.iload_n 3, 1) := by decide +kernel
theorem dX4_spreadFrom_84 : decode cX4_spreadFrom 84 = .ok (.invokevirtual 120, 3) := by decide +kernel
theorem dX4_spreadFrom_87 : decode cX4_spreadFrom 87 = .ok (.istore 7, 2) := by decide +kernel
theorem dX4_spreadFrom_89 : decode cX4_spreadFrom 89 = .ok (.aload_n 0, 1) := by decide +kernel
theorem dX4_spreadFrom_90 : decode cX4_spreadFrom 90 = .ok (.getfield 22, 3) := by decide +kernel
theorem dX4_spreadFrom_93 : decode cX4_spreadFrom 93 = .ok (.aload_n 0, 1) := by decide +kernel
theorem dX4_spreadFrom_94 : decode cX4_spreadFrom 94 = .ok (.iload_n 1, 1) := by decide +kernel
theorem dX4_spreadFrom_95 : decode cX4_spreadFrom 95 = .ok (.iload_n 2, 1) := by decide +kernel
theorem dX4_spreadFrom_96 : decode cX4_spreadFrom 96 = .ok (.iload_n 3, 1) := by decide +kernel
theorem dX4_spreadFrom_97 : decode cX4_spreadFrom 97 = .ok (.invokevirtual 123, 3) := by decide +kernel
theorem dX4_spreadFrom_100 : decode cX4_spreadFrom 100 = .ok (.dup2, 1) := by decide +kernel
theorem dX4_spreadFrom_101 : decode cX4_spreadFrom 101 = .ok (.laload, 1) := by decide +kernel
theorem dX4_spreadFrom_102 : decode cX4_spreadFrom 102 = .ok (.bipush 12, 2) := by decide +kernel
theorem dX4_spreadFrom_104 : decode cX4_spreadFrom 104 = .ok (.iload 7, 2) := by decide +kernel
theorem dX4_spreadFrom_106 : decode cX4_spreadFrom 106 = .ok (.isub, 1) := by decide +kernel
theorem dX4_spreadFrom_107 : decode cX4_spreadFrom 107 = .ok (.i2l, 1) := by decide +kernel
theorem dX4_spreadFrom_108 : decode cX4_spreadFrom 108 = .ok (.lload 4, 2) := by decide +kernel
theorem dX4_spreadFrom_110 : decode cX4_spreadFrom 110 = .ok (.lmul, 1) := by decide +kernel
theorem dX4_spreadFrom_111 : decode cX4_spreadFrom 111 = .ok (.ladd, 1) := by decide +kernel
theorem dX4_spreadFrom_112 : decode cX4_spreadFrom 112 = .ok (.lastore, 1) := by decide +kernel
theorem dX4_spreadFrom_113 : decode cX4_spreadFrom 113 = .ok (.aload_n 0, 1) := by decide +kernel
theorem dX4_spreadFrom_114 : decode cX4_spreadFrom 114 = .ok (.getfield 22, 3) := by decide +kernel
theorem dX4_spreadFrom_117 : decode cX4_spreadFrom 117 = .ok (.aload_n 0, 1) := by decide +kernel
theorem dX4_spreadFrom_118 : decode cX4_spreadFrom 118 = .ok (.iload_n 1, 1) := by decide +kernel
theorem dX4_spreadFrom_119 : decode cX4_spreadFrom 119 = .ok (.iload_n 2, 1) := by decide +kernel
theorem dX4_spreadFrom_120 : decode cX4_spreadFrom 120 = .ok (.iload_n 3, 1) := by decide +kernel
theorem dX4_spreadFrom_121 : decode cX4_spreadFrom 121 = .ok (.iload 6, 2) := by decide +kernel
theorem dX4_spreadFrom_123 : decode cX4_spreadFrom 123 = .ok (.invokestatic 126, 3) := by decide +kernel
theorem dX4_spreadFrom_126 : decode cX4_spreadFrom 126 = .ok (.invokevirtual 123, 3) := by decide +kernel
theorem dX4_spreadFrom_129 : decode cX4_spreadFrom 129 = .ok (.dup2, 1) := by decide +kernel
theorem dX4_spreadFrom_130 : decode cX4_spreadFrom 130 = .ok (.laload, 1) := by decide +kernel
theorem dX4_spreadFrom_131 : decode cX4_spreadFrom 131 = .ok (.iload 7, 2) := by decide +kernel
theorem dX4_spreadFrom_133 : decode cX4_spreadFrom 133 = .ok (.i2l, 1) := by decide +kernel
theorem dX4_spreadFrom_134 : decode cX4_spreadFrom 134 = .ok (.lload 4, 2) := by decide +kernel
theorem dX4_spreadFrom_136 : decode cX4_spreadFrom 136 = .ok (.lmul, 1) := by decide +kernel
theorem dX4_spreadFrom_137 : decode cX4_spreadFrom 137 = .ok (.ladd, 1) := by decide +kernel
theorem dX4_spreadFrom_138 : decode cX4_spreadFrom 138 = .ok (.lastore, 1) := by decide +kernel
theorem dX4_spreadFrom_139 : decode cX4_spreadFrom 139 = .ok (.return_, 1) := by decide +kernel
theorem dX8_init_0 : decode cX8_init 0 = .ok (.aload_n 0, 1) := by decide +kernel
theorem dX8_init_1 : decode cX8_init 1 = .ok (.invokespecial 1, 3) := by decide +kernel
theorem dX8_init_4 : decode cX8_init 4 = .ok (.aload_n 0, 1) := by decide +kernel
theorem dX8_init_5 : decode cX8_init 5 = .ok (.new 7, 3) := by decide +kernel
theorem dX8_init_8 : decode cX8_init 8 = .ok (.dup, 1) := by decide +kernel
theorem dX8_init_9 : decode cX8_init 9 = .ok (.invokespecial 9, 3) := by decide +kernel
theorem dX8_init_12 : decode cX8_init 12 = .ok (.putfield 10, 3) := by decide +kernel
theorem dX8_init_15 : decode cX8_init 15 = .ok (.aload_n 0, 1) := by decide +kernel
theorem dX8_init_16 : decode cX8_init 16 = .ok (.new 16, 3) := by decide +kernel
theorem dX8_init_19 : decode cX8_init 19 = .ok (.dup, 1) := by decide +kernel
theorem dX8_init_20 : decode cX8_init 20 = .ok (.invokespecial 18, 3) := by decide +kernel
theorem dX8_init_23 : decode cX8_init 23 = .ok (.putfield 19, 3) := by decide +kernel
theorem dX8_init_26 : decode cX8_init 26 = .ok (.aload_n 0, 1) := by decide +kernel
theorem dX8_init_27 : decode cX8_init 27 = .ok (.new 23, 3) := by decide +kernel
theorem dX8_init_30 : decode cX8_init 30 = .ok (.dup, 1) := by decide +kernel
theorem dX8_init_31 : decode cX8_init 31 = .ok (.aload_n 0, 1) := by decide +kernel
theorem dX8_init_32 : decode cX8_init 32 = .ok (.getfield 10, 3) := by decide +kernel
theorem dX8_init_35 : decode cX8_init 35 = .ok (.aload_n 0, 1) := by decide +kernel
theorem dX8_init_36 : decode cX8_init 36 = .ok (.getfield 19, 3) := by decide +kernel
theorem dX8_init_39 : decode cX8_init 39 = .ok (.invokespecial 25, 3) := by decide +kernel
theorem dX8_init_42 : decode cX8_init 42 = .ok (.putfield 28, 3) := by decide +kernel
theorem dX8_init_45 : decode cX8_init 45 = .ok (.aload_n 0, 1) := by decide +kernel
theorem dX8_init_46 : decode cX8_init 46 = .ok (.new 32, 3) := by decide +kernel
theorem dX8_init_49 : decode cX8_init 49 = .ok (.dup, 1) := by decide +kernel
theorem dX8_init_50 : decode cX8_init 50 = .ok (.aload_n 0, 1) := by decide +kernel
theorem dX8_init_51 : decode cX8_init 51 = .ok (.getfield 10, 3) := by decide +kernel
theorem dX8_init_54 : decode cX8_init 54 = .ok (.invokespecial 34, 3) := by decide +kernel
theorem dX8_init_57 : decode cX8_init 57 = .ok (.putfield 37, 3) := by decide +kernel
theorem dX8_init_60 : decode cX8_init 60 = .ok (.aload_n 0, 1) := by decide +kernel
theorem dX8_init_61 : decode cX8_init 61 = .ok (.new 41, 3) := by decide +kernel
theorem dX8_init_64 : decode cX8_init 64 = .ok (.dup, 1) := by decide +kernel
theorem dX8_init_65 : decode cX8_init 65 = .ok (.aload_n 0, 1) := by decide +kernel
theorem dX8_init_66 : decode cX8_init 66 = .ok (.getfield 10, 3) := by decide +kernel
theorem dX8_init_69 : decode cX8_init 69 = .ok (.aload_n 0, 1) := by decide +kernel
theorem dX8_init_70 : decode cX8_init 70 = .ok (.getfield 28, 3) := by decide +kernel
theorem dX8_init_73 : decode cX8_init 73 = .ok (.invokespecial 43, 3) := by decide +kernel
theorem dX8_init_76 : decode cX8_init 76 = .ok (.putfield 46, 3) := by decide +kernel
theorem dX8_init_79 : decode cX8_init 79 = .ok (.aload_n 0, 1) := by decide +kernel
theorem dX8_init_80 : decode cX8_init 80 = .ok (.new 50, 3) := by decide +kernel
theorem dX8_init_83 : decode cX8_init 83 = .ok (.dup, 1) := by decide +kernel
theorem dX8_init_84 : decode cX8_init 84 = .ok (.invokespecial 52, 3) := by decide +kernel
theorem dX8_init_87 : decode cX8_init 87 = .ok (.putfield 53, 3) := by decide +kernel
theorem dX8_init_90 : decode cX8_init 90 = .ok (.aload_n 0, 1) := by decide +kernel
theorem dX8_init_91 : decode cX8_init 91 = .ok (.new 57, 3) := by decide +kernel
theorem dX8_init_94 : decode cX8_init 94 = .ok (.dup, 1) := by decide +kernel
theorem dX8_init_95 : decode cX8_init 95 = .ok (.invokespecial 59, 3) := by decide +kernel
theorem dX8_init_98 : decode cX8_init 98 = .ok (.putfield 60, 3) := by decide +kernel
theorem dX8_init_101 : decode cX8_init 101 = .ok (.aload_n 0, 1) := by decide +kernel
theorem dX8_init_102 : decode cX8_init 102 = .ok (.bipush 6, 2) := by decide +kernel
theorem dX8_init_104 : decode cX8_init 104 = .ok (.anewarray 64, 3) := by decide +kernel
theorem dX8_init_107 : decode cX8_init 107 = .ok (.putfield 66, 3) := by decide +kernel
theorem dX8_init_110 : decode cX8_init 110 = .ok (.iconst 0, 1) := by decide +kernel
theorem dX8_init_111 : decode cX8_init 111 = .ok (.istore_n 1, 1) := by decide +kernel
theorem dX8_init_112 : decode cX8_init 112 = .ok (.iload_n 1, 1) := by decide +kernel
theorem dX8_init_113 : decode cX8_init 113 = .ok (.bipush 6, 2) := by decide +kernel
theorem dX8_init_115 : decode cX8_init 115 = .ok (.if_icmp .ge 22, 3) := by decide +kernel
theorem dX8_init_118 : decode cX8_init 118 = .ok (.aload_n 0, 1) := by decide +kernel
theorem dX8_init_119 : decode cX8_init 119 = .ok (.getfield 66, 3) := by decide +kernel
theorem dX8_init_122 : decode cX8_init 122 = .ok (.iload_n 1, 1) := by decide +kernel
theorem dX8_init_123 : decode cX8_init 123 = .ok (.new 64, 3) := by decide +kernel
theorem dX8_init_126 : decode cX8_init 126 = .ok (.dup, 1) := by decide +kernel
theorem dX8_init_127 : decode cX8_init 127 = .ok (.invokespecial 70, 3) := by decide +kernel
theorem dX8_init_130 : decode cX8_init 130 = .ok (.aastore, 1) := by decide +kernel
theorem dX8_init_131 : decode cX8_init 131 = .ok (.iinc 1 1, 3) := by decide +kernel
theorem dX8_init_134 : decode cX8_init 134 = .ok (.goto (-22), 3) := by decide +kernel
theorem dX8_init_137 : decode cX8_init 137 = .ok (.aload_n 0, 1) := by decide +kernel
theorem dX8_init_138 : decode cX8_init 138 = .ok (.iconst 4, 1) := by decide +kernel
theorem dX8_init_139 : decode cX8_init 139 = .ok (.newarray .int, 2) := by decide +kernel
theorem dX8_init_141 : decode cX8_init 141 = .ok (.putfield 71, 3) := by decide +kernel
theorem dX8_init_144 : decode cX8_init 144 = .ok (.return_, 1) := by decide +kernel
theorem dX8_player_0 : decode cX8_player 0 = .ok (.iload_n 1, 1) := by decide +kernel
theorem dX8_player_1 : decode cX8_player 1 = .ok (.bipush 12, 2) := by decide +kernel
theorem dX8_player_3 : decode cX8_player 3 = .ok (.invokestatic 75, 3) := by decide +kernel
theorem dX8_player_6 : decode cX8_player 6 = .ok (.ifCond .eq 11, 3) := by decide +kernel
theorem dX8_player_9 : decode cX8_player 9 = .ok (.iload_n 2, 1) := by decide +kernel
theorem dX8_player_10 : decode cX8_player 10 = .ok (.iconst 5, 1) := by decide +kernel
theorem dX8_player_11 : decode cX8_player 11 = .ok (.invokestatic 75, 3) := by decide +kernel
theorem dX8_player_14 : decode cX8_player 14 = .ok (.ifCond .ne 5, 3) := by decide +kernel
theorem dX8_player_17 : decode cX8_player 17 = .ok (.iconst (-1), 1) := by decide +kernel
theorem dX8_player_18 : decode cX8_player 18 = .ok (.ireturn, 1) := by decide +kernel
theorem dX8_player_19 : decode cX8_player 19 = .ok (.aload_n 0, 1) := by decide +kernel
theorem dX8_player_20 : decode cX8_player 20 = .ok (.getfield 10, 3) := by decide +kernel
theorem dX8_player_23 : decode cX8_player 23 = .ok (.getfield 79, 3) := by decide +kernel
theorem dX8_player_26 : decode cX8_player 26 = .ok (.iconst 4, 1) := by decide +kernel
theorem dX8_player_27 : decode cX8_player 27 = .ok (.if_icmp .lt 8, 3) := by decide +kernel
theorem dX8_player_30 : decode cX8_player 30 = .ok (.bipush (-3), 2) := by decide +kernel
theorem dX8_player_32 : decode cX8_player 32 = .ok (.goto 9, 3) := by decide +kernel
theorem dX8_player_35 : decode cX8_player 35 = .ok (.aload_n 0, 1) := by decide +kernel
theorem dX8_player_36 : decode cX8_player 36 = .ok (.iload_n 1, 1) := by decide +kernel
theorem dX8_player_37 : decode cX8_player 37 = .ok (.iload_n 2, 1) := by decide +kernel
theorem dX8_player_38 : decode cX8_player 38 = .ok (.invokevirtual 83, 3) := by decide +kernel
theorem dX8_player_41 : decode cX8_player 41 = .ok (.ireturn, 1) := by decide +kernel
theorem dX8_players_0 : decode cX8_players 0 = .ok (.iload_n 1, 1) := by decide +kernel
theorem dX8_players_1 : decode cX8_players 1 = .ok (.iconst 5, 1) := by decide +kernel
theorem dX8_players_2 : decode cX8_players 2 = .ok (.invokestatic 75, 3) := by decide +kernel
theorem dX8_players_5 : decode cX8_players 5 = .ok (.ifCond .eq 13, 3) := by decide +kernel
theorem dX8_players_8 : decode cX8_players 8 = .ok (.iload_n 3, 1) := by decide +kernel
theorem dX8_players_9 : decode cX8_players 9 = .ok (.iconst 1, 1) := by decide +kernel
theorem dX8_players_10 : decode cX8_players 10 = .ok (.if_icmp .lt 8, 3) := by decide +kernel
theorem dX8_players_13 : decode cX8_players 13 = .ok (.iload_n 3, 1) := by decide +kernel
theorem dX8_players_14 : decode cX8_players 14 = .ok (.iconst 4, 1) := by decide +kernel
theorem dX8_players_15 : decode cX8_players 15 = .ok (.if_icmp .le 5, 3) := by decide +kernel
theorem dX8_players_18 : decode cX8_players 18 = .ok (.iconst (-1), 1) := by decide +kernel
theorem dX8_players_19 : decode cX8_players 19 = .ok (.ireturn, 1) := by decide +kernel
theorem dX8_players_20 : decode cX8_players 20 = .ok (.aload_n 0, 1) := by decide +kernel
theorem dX8_players_21 : decode cX8_players 21 = .ok (.getfield 66, 3) := by decide +kernel
theorem dX8_players_24 : decode cX8_players 24 = .ok (.iload_n 1, 1) := by decide +kernel
theorem dX8_players_25 : decode cX8_players 25 = .ok (.aaload, 1) := by decide +kernel
theorem dX8_players_26 : decode cX8_players 26 = .ok (.astore 4, 2) := by decide +kernel
theorem dX8_players_28 : decode cX8_players 28 = .ok (.aload 4, 2) := by decide +kernel
theorem dX8_players_30 : decode cX8_players 30 = .ok (.getfield 87, 3) := by decide +kernel
theorem dX8_players_33 : decode cX8_players 33 = .ok (.bipush (-2), 2) := by decide +kernel
theorem dX8_players_35 : decode cX8_players 35 = .ok (.if_icmp .eq 14, 3) := by decide +kernel
theorem dX8_players_38 : decode cX8_players 38 = .ok (.aload 4, 2) := by decide +kernel
theorem dX8_players_40 : decode cX8_players 40 = .ok (.getfield 87, 3) := by decide +kernel
theorem dX8_players_43 : decode cX8_players 43 = .ok (.ifCond .eq 6, 3) := by decide +kernel
theorem dX8_players_46 : decode cX8_players 46 = .ok (.bipush (-12), 2) := by decide +kernel
theorem dX8_players_48 : decode cX8_players 48 = .ok (.ireturn, 1) := by decide +kernel
theorem dX8_players_49 : decode cX8_players 49 = .ok (.aload 4, 2) := by decide +kernel
theorem dX8_players_51 : decode cX8_players 51 = .ok (.getfield 87, 3) := by decide +kernel
theorem dX8_players_54 : decode cX8_players 54 = .ok (.ifCond .ne 17, 3) := by decide +kernel
theorem dX8_players_57 : decode cX8_players 57 = .ok (.iload_n 2, 1) := by decide +kernel
theorem dX8_players_58 : decode cX8_players 58 = .ok (.ifCond .lt 13, 3) := by decide +kernel
theorem dX8_players_61 : decode cX8_players 61 = .ok (.aload 4, 2) := by decide +kernel
theorem dX8_players_63 : decode cX8_players 63 = .ok (.getfield 90, 3) := by decide +kernel
theorem dX8_players_66 : decode cX8_players 66 = .ok (.iload_n 2, 1) := by decide +kernel
theorem dX8_players_67 : decode cX8_players 67 = .ok (.isub, 1) := by decide +kernel
theorem dX8_players_68 : decode cX8_players 68 = .ok (.goto 4, 3) := by decide +kernel
theorem dX8_players_71 : decode cX8_players 71 = .ok (.iconst 0, 1) := by decide +kernel
theorem dX8_players_72 : decode cX8_players 72 = .ok (.istore 5, 2) := by decide +kernel
theorem dX8_players_74 : decode cX8_players 74 = .ok (.iconst 0, 1) := by decide +kernel
theorem dX8_players_75 : decode cX8_players 75 = .ok (.istore 6, 2) := by decide +kernel
theorem dX8_players_77 : decode cX8_players 77 = .ok (.iload 6, 2) := by decide +kernel
theorem dX8_players_79 : decode cX8_players 79 = .ok (.iload_n 3, 1) := by decide +kernel
theorem dX8_players_80 : decode cX8_players 80 = .ok (.if_icmp .ge 107, 3) := by decide +kernel
theorem dX8_players_83 : decode cX8_players 83 = .ok (.iconst 2, 1) := by decide +kernel
theorem dX8_players_84 : decode cX8_players 84 = .ok (.iload 6, 2) := by decide +kernel
theorem dX8_players_86 : decode cX8_players 86 = .ok (.imul, 1) := by decide +kernel
theorem dX8_players_87 : decode cX8_players 87 = .ok (.iconst 1, 1) := by decide +kernel
theorem dX8_players_88 : decode cX8_players 88 = .ok (.iadd, 1) := by decide +kernel
theorem dX8_players_89 : decode cX8_players 89 = .ok (.iload 5, 2) := by decide +kernel
theorem dX8_players_91 : decode cX8_players 91 = .ok (.if_icmp .ge 96, 3) := by decide +kernel
theorem dX8_players_94 : decode cX8_players 94 = .ok (.aload_n 0, 1) := by decide +kernel
theorem dX8_players_95 : decode cX8_players 95 = .ok (.getfield 10, 3) := by decide +kernel
theorem dX8_players_98 : decode cX8_players 98 = .ok (.getfield 79, 3) := by decide +kernel
theorem dX8_players_101 : decode cX8_players 101 = .ok (.iconst 4, 1) := by decide +kernel
theorem dX8_players_102 : decode cX8_players 102 = .ok (.if_icmp .ge 85, 3) := by decide +kernel
theorem dX8_players_105 : decode cX8_players 105 = .ok (.aload 4, 2) := by decide +kernel
theorem dX8_players_107 : decode cX8_players 107 = .ok (.getfield 93, 3) := by decide +kernel
theorem dX8_players_110 : decode cX8_players 110 = .ok (.iload_n 2, 1) := by decide +kernel
theorem dX8_players_111 : decode cX8_players 111 = .ok (.iconst 2, 1) := by decide +kernel
theorem dX8_players_112 : decode cX8_players 112 = .ok (.iload 6, 2) := by decide +kernel
theorem dX8_players_114 : decode cX8_players 114 = .ok (.imul, 1) := by decide +kernel
theorem dX8_players_115 : decode cX8_players 115 = .ok (.iadd, 1) := by decide +kernel
theorem dX8_players_116 : decode cX8_players 116 = .ok (.laload, 1) := by decide +kernel
theorem dX8_players_117 : decode cX8_players 117 = .ok (.lstore 7, 2) := by decide +kernel
theorem dX8_players_119 : decode cX8_players 119 = .ok (.aload 4, 2) := by decide +kernel
theorem dX8_players_121 : decode cX8_players 121 = .ok (.getfield 93, 3) := by decide +kernel
theorem dX8_players_124 : decode cX8_players 124 = .ok (.iload_n 2, 1) := by decide +kernel
theorem dX8_players_125 : decode cX8_players 125 = .ok (.iconst 2, 1) := by decide +kernel
theorem dX8_players_126 : decode cX8_players 126 = .ok (.iload 6, 2) := by decide +kernel
theorem dX8_players_128 : decode cX8_players 128 = .ok (.imul, 1) := by decide +kernel
theorem dX8_players_129 : decode cX8_players 129 = .ok (.iadd, 1) := by decide +kernel
theorem dX8_players_130 : decode cX8_players 130 = .ok (.iconst 1, 1) := by decide +kernel
theorem dX8_players_131 : decode cX8_players 131 = .ok (.iadd, 1) := by decide +kernel
theorem dX8_players_132 : decode cX8_players 132 = .ok (.laload, 1) := by decide +kernel
theorem dX8_players_133 : decode cX8_players 133 = .ok (.lstore 9, 2) := by decide +kernel
theorem dX8_players_135 : decode cX8_players 135 = .ok (.lload 7, 2) := by decide +kernel
theorem dX8_players_137 : decode cX8_players 137 = .ok (.lconst 0, 1) := by decide +kernel
theorem dX8_players_138 : decode cX8_players 138 = .ok (.lcmp, 1) := by decide +kernel
theorem dX8_players_139 : decode cX8_players 139 = .ok (.ifCond .lt 48, 3) := by decide +kernel
theorem dX8_players_142 : decode cX8_players 142 = .ok (.lload 7, 2) := by decide +kernel
theorem dX8_players_144 : decode cX8_players 144 = .ok (.ldc2_w 97, 3) := by decide +kernel
theorem dX8_players_147 : decode cX8_players 147 = .ok (.lcmp, 1) := by decide +kernel
theorem dX8_players_148 : decode cX8_players 148 = .ok (.ifCond .gt 39, 3) := by decide +kernel
theorem dX8_players_151 : decode cX8_players 151 = .ok (.lload 9, 2) := by decide +kernel
theorem dX8_players_153 : decode cX8_players 153 = .ok (.lconst 0, 1) := by decide +kernel
theorem dX8_players_154 : decode cX8_players 154 = .ok (.lcmp, 1) := by decide +kernel
theorem dX8_players_155 : decode cX8_players 155 = .ok (.ifCond .lt 32, 3) := by decide +kernel
theorem dX8_players_158 : decode cX8_players 158 = .ok (.lload 9, 2) := by decide +kernel
theorem dX8_players_160 : decode cX8_players 160 = .ok (.ldc2_w 99, 3) := by decide +kernel
theorem dX8_players_163 : decode cX8_players 163 = .ok (.lcmp, 1) := by decide +kernel
theorem dX8_players_164 : decode cX8_players 164 = .ok (.ifCond .lt 6, 3) := by decide +kernel
theorem dX8_players_167 : decode cX8_players 167 = .ok (.goto 20, 3) := by decide +kernel
theorem dX8_players_170 : decode cX8_players 170 = .ok (.aload_n 0, 1) := by decide +kernel
theorem dX8_players_171 : decode cX8_players 171 = .ok (.lload 7, 2) := by decide +kernel
theorem dX8_players_173 : decode cX8_players 173 = .ok (.l2i, 1) := by decide +kernel
theorem dX8_players_174 : decode cX8_players 174 = .ok (.lload 9, 2) := by decide +kernel
theorem dX8_players_176 : decode cX8_players 176 = .ok (.l2i, 1) := by decide +kernel
theorem dX8_players_177 : decode cX8_players 177 = .ok (.invokevirtual 83, 3) := by decide +kernel
theorem dX8_players_180 : decode cX8_players 180 = .ok (.pop, 1) := by decide +kernel
theorem dX8_players_181 : decode cX8_players 181 = .ok (.iinc 6 1, 3) := by decide +kernel
theorem dX8_players_184 : decode cX8_players 184 = .ok (.goto (-107), 3) := by decide +kernel
theorem dX8_players_187 : decode cX8_players 187 = .ok (.iload 6, 2) := by decide +kernel
theorem dX8_players_189 : decode cX8_players 189 = .ok (.ireturn, 1) := by decide +kernel
theorem dX8_mend_0 : decode cX8_mend 0 = .ok (.aload_n 0, 1) := by decide +kernel
theorem dX8_mend_1 : decode cX8_mend 1 = .ok (.getfield 10, 3) := by decide +kernel
theorem dX8_mend_4 : decode cX8_mend 4 = .ok (.iload_n 1, 1) := by decide +kernel
theorem dX8_mend_5 : decode cX8_mend 5 = .ok (.invokevirtual 101, 3) := by decide +kernel
theorem dX8_mend_8 : decode cX8_mend 8 = .ok (.ifCond .eq 22, 3) := by decide +kernel
theorem dX8_mend_11 : decode cX8_mend 11 = .ok (.iload_n 2, 1) := by decide +kernel
theorem dX8_mend_12 : decode cX8_mend 12 = .ok (.iconst 2, 1) := by decide +kernel
theorem dX8_mend_13 : decode cX8_mend 13 = .ok (.invokestatic 75, 3) := by decide +kernel
theorem dX8_mend_16 : decode cX8_mend 16 = .ok (.ifCond .eq 14, 3) := by decide +kernel
theorem dX8_mend_19 : decode cX8_mend 19 = .ok (.iload_n 3, 1) := by decide +kernel
theorem dX8_mend_20 : decode cX8_mend 20 = .ok (.iload_n 2, 1) := by decide +kernel
theorem dX8_mend_21 : decode cX8_mend 21 = .ok (.invokestatic 105, 3) := by decide +kernel
theorem dX8_mend_24 : decode cX8_mend 24 = .ok (.invokestatic 75, 3) := by decide +kernel
theorem dX8_mend_27 : decode cX8_mend 27 = .ok (.ifCond .ne 5, 3) := by decide +kernel
theorem dX8_mend_30 : decode cX8_mend 30 = .ok (.iconst (-1), 1) := by decide +kernel
theorem dX8_mend_31 : decode cX8_mend 31 = .ok (.ireturn, 1) := by decide +kernel
theorem dX8_mend_32 : decode cX8_mend 32 = .ok (.aload_n 0, 1) := by decide +kernel
theorem dX8_mend_33 : decode cX8_mend 33 = .ok (.getfield 10, 3) := by decide +kernel
theorem dX8_mend_36 : decode cX8_mend 36 = .ok (.iload_n 1, 1) := by decide +kernel
theorem dX8_mend_37 : decode cX8_mend 37 = .ok (.iload_n 2, 1) := by decide +kernel
theorem dX8_mend_38 : decode cX8_mend 38 = .ok (.invokevirtual 109, 3) := by decide +kernel
theorem dX8_mend_41 : decode cX8_mend 41 = .ok (.istore 4, 2) := by decide +kernel
theorem dX8_mend_43 : decode cX8_mend 43 = .ok (.iload 4, 2) := by decide +kernel
theorem dX8_mend_45 : decode cX8_mend 45 = .ok (.iload_n 3, 1) := by decide +kernel
theorem dX8_mend_46 : decode cX8_mend 46 = .ok (.if_icmp .eq 22, 3) := by decide +kernel
theorem dX8_mend_49 : decode cX8_mend 49 = .ok (.aload_n 0, 1) := by decide +kernel
theorem dX8_mend_50 : decode cX8_mend 50 = .ok (.getfield 53, 3) := by decide +kernel
theorem dX8_mend_53 : decode cX8_mend 53 = .ok (.iload_n 1, 1) := by decide +kernel
theorem dX8_mend_54 : decode cX8_mend 54 = .ok (.iload_n 2, 1) := by decide +kernel
theorem dX8_mend_55 : decode cX8_mend 55 = .ok (.iload 4, 2) := by decide +kernel
theorem dX8_mend_57 : decode cX8_mend 57 = .ok (.iload_n 3, 1) := by decide +kernel
theorem dX8_mend_58 : decode cX8_mend 58 = .ok (.invokevirtual 112, 3) := by decide +kernel
theorem dX8_mend_61 : decode cX8_mend 61 = .ok (.aload_n 0, 1) := by decide +kernel
theorem dX8_mend_62 : decode cX8_mend 62 = .ok (.iload_n 1, 1) := by decide +kernel
theorem dX8_mend_63 : decode cX8_mend 63 = .ok (.iload_n 2, 1) := by decide +kernel
theorem dX8_mend_64 : decode cX8_mend 64 = .ok (.iload_n 3, 1) := by decide +kernel
theorem dX8_mend_65 : decode cX8_mend 65 = .ok (.invokevirtual 116, 3) := by decide +kernel
theorem dX8_mend_68 : decode cX8_mend 68 = .ok (.iload 4, 2) := by decide +kernel
theorem dX8_mend_70 : decode cX8_mend 70 = .ok (.ireturn, 1) := by decide +kernel
theorem dX8_order_0 : decode cX8_order 0 = .ok (.aload_n 0, 1) := by decide +kernel
theorem dX8_order_1 : decode cX8_order 1 = .ok (.getfield 10, 3) := by decide +kernel
theorem dX8_order_4 : decode cX8_order 4 = .ok (.iload_n 1, 1) := by decide +kernel
theorem dX8_order_5 : decode cX8_order 5 = .ok (.invokevirtual 120, 3) := by decide +kernel
theorem dX8_order_8 : decode cX8_order 8 = .ok (.ifCond .ne 5, 3) := by decide +kernel
theorem dX8_order_11 : decode cX8_order 11 = .ok (.iconst (-1), 1) := by decide +kernel
theorem dX8_order_12 : decode cX8_order 12 = .ok (.ireturn, 1) := by decide +kernel
theorem dX8_order_13 : decode cX8_order 13 = .ok (.aload_n 0, 1) := by decide +kernel
theorem dX8_order_14 : decode cX8_order 14 = .ok (.getfield 37, 3) := by decide +kernel
theorem dX8_order_17 : decode cX8_order 17 = .ok (.invokevirtual 123, 3) := by decide +kernel
theorem dX8_order_20 : decode cX8_order 20 = .ok (.iconst 1, 1) := by decide +kernel
theorem dX8_order_21 : decode cX8_order 21 = .ok (.ireturn, 1) := by decide +kernel
theorem dX8_bell_0 : decode cX8_bell 0 = .ok (.iload_n 1, 1) := by decide +kernel
theorem dX8_bell_1 : decode cX8_bell 1 = .ok (.bipush 9, 2) := by decide +kernel
theorem dX8_bell_3 : decode cX8_bell 3 = .ok (.invokestatic 75, 3) := by decide +kernel
theorem dX8_bell_6 : decode cX8_bell 6 = .ok (.ifCond .ne 5, 3) := by decide +kernel
theorem dX8_bell_9 : decode cX8_bell 9 = .ok (.iconst (-1), 1) := by decide +kernel
theorem dX8_bell_10 : decode cX8_bell 10 = .ok (.ireturn, 1) := by decide +kernel
theorem dX8_bell_11 : decode cX8_bell 11 = .ok (.aload_n 0, 1) := by decide +kernel
theorem dX8_bell_12 : decode cX8_bell 12 = .ok (.getfield 10, 3) := by decide +kernel
theorem dX8_bell_15 : decode cX8_bell 15 = .ok (.getfield 126, 3) := by decide +kernel
theorem dX8_bell_18 : decode cX8_bell 18 = .ok (.istore_n 2, 1) := by decide +kernel
theorem dX8_bell_19 : decode cX8_bell 19 = .ok (.aload_n 0, 1) := by decide +kernel
theorem dX8_bell_20 : decode cX8_bell 20 = .ok (.getfield 10, 3) := by decide +kernel
theorem dX8_bell_23 : decode cX8_bell 23 = .ok (.iload_n 1, 1) := by decide +kernel
theorem dX8_bell_24 : decode cX8_bell 24 = .ok (.putfield 126, 3) := by decide +kernel
theorem dX8_bell_27 : decode cX8_bell 27 = .ok (.aload_n 0, 1) := by decide +kernel
theorem dX8_bell_28 : decode cX8_bell 28 = .ok (.getfield 37, 3) := by decide +kernel
theorem dX8_bell_31 : decode cX8_bell 31 = .ok (.invokevirtual 123, 3) := by decide +kernel
theorem dX8_bell_34 : decode cX8_bell 34 = .ok (.iload_n 2, 1) := by decide +kernel
theorem dX8_bell_35 : decode cX8_bell 35 = .ok (.ireturn, 1) := by decide +kernel
theorem dX8_prize_0 : decode cX8_prize 0 = .ok (.iload_n 1, 1) := by decide +kernel
theorem dX8_prize_1 : decode cX8_prize 1 = .ok (.iconst 1, 1) := by decide +kernel
theorem dX8_prize_2 : decode cX8_prize 2 = .ok (.if_icmp .lt 17, 3) := by decide +kernel
theorem dX8_prize_5 : decode cX8_prize 5 = .ok (.iload_n 1, 1) := by decide +kernel
theorem dX8_prize_6 : decode cX8_prize 6 = .ok (.iconst 4, 1) := by decide +kernel
theorem dX8_prize_7 : decode cX8_prize 7 = .ok (.if_icmp .gt 12, 3) := by decide +kernel
theorem dX8_prize_10 : decode cX8_prize 10 = .ok (.iload_n 2, 1) := by decide +kernel
theorem dX8_prize_11 : decode cX8_prize 11 = .ok (.bipush 9, 2) := by decide +kernel
theorem dX8_prize_13 : decode cX8_prize 13 = .ok (.invokestatic 75, 3) := by decide +kernel
theorem dX8_prize_16 : decode cX8_prize 16 = .ok (.ifCond .ne 5, 3) := by decide +kernel
theorem dX8_prize_19 : decode cX8_prize 19 = .ok (.iconst (-1), 1) := by decide +kernel
theorem dX8_prize_20 : decode cX8_prize 20 = .ok (.ireturn, 1) := by decide +kernel
theorem dX8_prize_21 : decode cX8_prize 21 = .ok (.aload_n 0, 1) := by decide +kernel
theorem dX8_prize_22 : decode cX8_prize 22 = .ok (.getfield 10, 3) := by decide +kernel
theorem dX8_prize_25 : decode cX8_prize 25 = .ok (.getfield 129, 3) := by decide +kernel
theorem dX8_prize_28 : decode cX8_prize 28 = .ok (.iload_n 1, 1) := by decide +kernel
theorem dX8_prize_29 : decode cX8_prize 29 = .ok (.iaload, 1) := by decide +kernel
theorem dX8_prize_30 : decode cX8_prize 30 = .ok (.istore_n 3, 1) := by decide +kernel
theorem dX8_prize_31 : decode cX8_prize 31 = .ok (.aload_n 0, 1) := by decide +kernel
theorem dX8_prize_32 : decode cX8_prize 32 = .ok (.getfield 10, 3) := by decide +kernel
theorem dX8_prize_35 : decode cX8_prize 35 = .ok (.getfield 129, 3) := by decide +kernel
theorem dX8_prize_38 : decode cX8_prize 38 = .ok (.iload_n 1, 1) := by decide +kernel
theorem dX8_prize_39 : decode cX8_prize 39 = .ok (.iload_n 2, 1) := by decide +kernel
theorem dX8_prize_40 : decode cX8_prize 40 = .ok (.iastore, 1) := by decide +kernel
theorem dX8_prize_41 : decode cX8_prize 41 = .ok (.iload_n 3, 1) := by decide +kernel
theorem dX8_prize_42 : decode cX8_prize 42 = .ok (.ireturn, 1) := by decide +kernel
theorem dX8_of_0 : decode cX8_of 0 = .ok (.aload_n 0, 1) := by decide +kernel
theorem dX8_of_1 : decode cX8_of 1 = .ok (.getfield 10, 3) := by decide +kernel
theorem dX8_of_4 : decode cX8_of 4 = .ok (.iload_n 1, 1) := by decide +kernel
theorem dX8_of_5 : decode cX8_of 5 = .ok (.invokevirtual 101, 3) := by decide +kernel
theorem dX8_of_8 : decode cX8_of 8 = .ok (.ifCond .eq 11, 3) := by decide +kernel
theorem dX8_of_11 : decode cX8_of 11 = .ok (.iload_n 2, 1) := by decide +kernel
theorem dX8_of_12 : decode cX8_of 12 = .ok (.iconst 4, 1) := by decide +kernel
theorem dX8_of_13 : decode cX8_of 13 = .ok (.invokestatic 75, 3) := by decide +kernel
theorem dX8_of_16 : decode cX8_of 16 = .ok (.ifCond .ne 5, 3) := by decide +kernel
theorem dX8_of_19 : decode cX8_of 19 = .ok (.iconst (-1), 1) := by decide +kernel
theorem dX8_of_20 : decode cX8_of 20 = .ok (.ireturn, 1) := by decide +kernel
theorem dX8_of_21 : decode cX8_of 21 = .ok (.iload_n 2, 1) := by decide +kernel
theorem dX8_of_22 : decode cX8_of 22 = .ok (.iconst 4, 1) := by decide +kernel
theorem dX8_of_23 : decode cX8_of 23 = .ok (.if_icmp .ne 15, 3) := by decide +kernel
theorem dX8_of_26 : decode cX8_of 26 = .ok (.aload_n 0, 1) := by decide +kernel
theorem dX8_of_27 : decode cX8_of 27 = .ok (.getfield 37, 3) := by decide +kernel
theorem dX8_of_30 : decode cX8_of 30 = .ok (.getfield 132, 3) := by decide +kernel
theorem dX8_of_33 : decode cX8_of 33 = .ok (.iload_n 1, 1) := by decide +kernel
theorem dX8_of_34 : decode cX8_of 34 = .ok (.ishr, 1) := by decide +kernel
theorem dX8_of_35 : decode cX8_of 35 = .ok (.iconst 1, 1) := by decide +kernel
theorem dX8_of_36 : decode cX8_of 36 = .ok (.iand, 1) := by decide +kernel
theorem dX8_of_37 : decode cX8_of 37 = .ok (.ireturn, 1) := by decide +kernel
theorem dX8_of_38 : decode cX8_of 38 = .ok (.iload_n 2, 1) := by decide +kernel
theorem dX8_of_39 : decode cX8_of 39 = .ok (.iconst 3, 1) := by decide +kernel
theorem dX8_of_40 : decode cX8_of 40 = .ok (.if_icmp .ne 15, 3) := by decide +kernel
theorem dX8_of_43 : decode cX8_of 43 = .ok (.aload_n 0, 1) := by decide +kernel
theorem dX8_of_44 : decode cX8_of 44 = .ok (.getfield 10, 3) := by decide +kernel
theorem dX8_of_47 : decode cX8_of 47 = .ok (.getfield 135, 3) := by decide +kernel
theorem dX8_of_50 : decode cX8_of 50 = .ok (.iload_n 1, 1) := by decide +kernel
theorem dX8_of_51 : decode cX8_of 51 = .ok (.iaload, 1) := by decide +kernel
theorem dX8_of_52 : decode cX8_of 52 = .ok (.goto 12, 3) := by decide +kernel
theorem dX8_of_55 : decode cX8_of 55 = .ok (.aload_n 0, 1) := by decide +kernel
theorem dX8_of_56 : decode cX8_of 56 = .ok (.getfield 10, 3) := by decide +kernel
theorem dX8_of_59 : decode cX8_of 59 = .ok (.iload_n 1, 1) := by decide +kernel
theorem dX8_of_60 : decode cX8_of 60 = .ok (.iload_n 2, 1) := by decide +kernel
theorem dX8_of_61 : decode cX8_of 61 = .ok (.invokevirtual 109, 3) := by decide +kernel
theorem dX8_of_64 : decode cX8_of 64 = .ok (.ireturn, 1) := by decide +kernel
theorem dX8_feed_0 : decode cX8_feed 0 = .ok (.iload_n 1, 1) := by decide +kernel
theorem dX8_feed_1 : decode cX8_feed 1 = .ok (.sipush 255, 3) := by decide +kernel
theorem dX8_feed_4 : decode cX8_feed 4 = .ok (.invokestatic 75, 3) := by decide +kernel
theorem dX8_feed_7 : decode cX8_feed 7 = .ok (.ifCond .eq 14, 3) := by decide +kernel
theorem dX8_feed_10 : decode cX8_feed 10 = .ok (.aload_n 0, 1) := by decide +kernel
theorem dX8_feed_11 : decode cX8_feed 11 = .ok (.getfield 19, 3) := by decide +kernel
theorem dX8_feed_14 : decode cX8_feed 14 = .ok (.iload_n 1, 1) := by decide +kernel
theorem dX8_feed_15 : decode cX8_feed 15 = .ok (.invokevirtual 138, 3) := by decide +kernel
theorem dX8_feed_18 : decode cX8_feed 18 = .ok (.goto 4, 3) := by decide +kernel
theorem dX8_feed_21 : decode cX8_feed 21 = .ok (.iconst (-1), 1) := by decide +kernel
theorem dX8_feed_22 : decode cX8_feed 22 = .ok (.ireturn, 1) := by decide +kernel
theorem dX8_law_0 : decode cX8_law 0 = .ok (.aload_n 0, 1) := by decide +kernel
theorem dX8_law_1 : decode cX8_law 1 = .ok (.getfield 19, 3) := by decide +kernel
theorem dX8_law_4 : decode cX8_law 4 = .ok (.invokevirtual 141, 3) := by decide +kernel
theorem dX8_law_7 : decode cX8_law 7 = .ok (.istore_n 1, 1) := by decide +kernel
theorem dX8_law_8 : decode cX8_law 8 = .ok (.iload_n 1, 1) := by decide +kernel
theorem dX8_law_9 : decode cX8_law 9 = .ok (.iconst (-1), 1) := by decide +kernel
theorem dX8_law_10 : decode cX8_law 10 = .ok (.if_icmp .eq 8, 3) := by decide +kernel
theorem dX8_law_13 : decode cX8_law 13 = .ok (.bipush (-100), 2) := by decide +kernel
theorem dX8_law_15 : decode cX8_law 15 = .ok (.iload_n 1, 1) := by decide +kernel
theorem dX8_law_16 : decode cX8_law 16 = .ok (.isub, 1) := by decide +kernel
theorem dX8_law_17 : decode cX8_law 17 = .ok (.ireturn, 1) := by decide +kernel
theorem dX8_law_18 : decode cX8_law 18 = .ok (.aload_n 0, 1) := by decide +kernel
theorem dX8_law_19 : decode cX8_law 19 = .ok (.getfield 28, 3) := by decide +kernel
theorem dX8_law_22 : decode cX8_law 22 = .ok (.invokevirtual 145, 3) := by decide +kernel
theorem dX8_law_25 : decode cX8_law 25 = .ok (.iconst 1, 1) := by decide +kernel
theorem dX8_law_26 : decode cX8_law 26 = .ok (.ireturn, 1) := by decide +kernel
theorem dX8_worth_0 : decode cX8_worth 0 = .ok (.aload_n 0, 1) := by decide +kernel
theorem dX8_worth_1 : decode cX8_worth 1 = .ok (.getfield 10, 3) := by decide +kernel
theorem dX8_worth_4 : decode cX8_worth 4 = .ok (.iload_n 1, 1) := by decide +kernel
theorem dX8_worth_5 : decode cX8_worth 5 = .ok (.invokevirtual 101, 3) := by decide +kernel
theorem dX8_worth_8 : decode cX8_worth 8 = .ok (.ifCond .eq 19, 3) := by decide +kernel
theorem dX8_worth_11 : decode cX8_worth 11 = .ok (.iload_n 2, 1) := by decide +kernel
theorem dX8_worth_12 : decode cX8_worth 12 = .ok (.iconst 2, 1) := by decide +kernel
theorem dX8_worth_13 : decode cX8_worth 13 = .ok (.invokestatic 75, 3) := by decide +kernel
theorem dX8_worth_16 : decode cX8_worth 16 = .ok (.ifCond .eq 11, 3) := by decide +kernel
theorem dX8_worth_19 : decode cX8_worth 19 = .ok (.iload_n 3, 1) := by decide +kernel
theorem dX8_worth_20 : decode cX8_worth 20 = .ok (.iconst 1, 1) := by decide +kernel
theorem dX8_worth_21 : decode cX8_worth 21 = .ok (.invokestatic 75, 3) := by decide +kernel
theorem dX8_worth_24 : decode cX8_worth 24 = .ok (.ifCond .ne 7, 3) := by decide +kernel
theorem dX8_worth_27 : decode cX8_worth 27 = .ok (.ldc2_w 150, 3) := by decide +kernel
theorem dX8_worth_30 : decode cX8_worth 30 = .ok (.lreturn, 1) := by decide +kernel
theorem dX8_worth_31 : decode cX8_worth 31 = .ok (.aload_n 0, 1) := by decide +kernel
theorem dX8_worth_32 : decode cX8_worth 32 = .ok (.getfield 28, 3) := by decide +kernel
theorem dX8_worth_35 : decode cX8_worth 35 = .ok (.invokevirtual 152, 3) := by decide +kernel
theorem dX8_worth_38 : decode cX8_worth 38 = .ok (.iload_n 2, 1) := by decide +kernel
theorem dX8_worth_39 : decode cX8_worth 39 = .ok (.ifCond .ne 20, 3) := by decide +kernel
theorem dX8_worth_42 : decode cX8_worth 42 = .ok (.aload_n 0, 1) := by decide +kernel
theorem dX8_worth_43 : decode cX8_worth 43 = .ok (.iload_n 1, 1) := by decide +kernel
theorem dX8_worth_44 : decode cX8_worth 44 = .ok (.invokevirtual 155, 3) := by decide +kernel
theorem dX8_worth_47 : decode cX8_worth 47 = .ok (.aload_n 0, 1) := by decide +kernel
theorem dX8_worth_48 : decode cX8_worth 48 = .ok (.getfield 28, 3) := by decide +kernel
theorem dX8_worth_51 : decode cX8_worth 51 = .ok (.invokevirtual 159, 3) := by decide +kernel
theorem dX8_worth_54 : decode cX8_worth 54 = .ok (.iload_n 3, 1) := by decide +kernel
theorem dX8_worth_55 : decode cX8_worth 55 = .ok (.invokestatic 163, 3) := by decide +kernel
theorem dX8_worth_58 : decode cX8_worth 58 = .ok (.lreturn, 1) := by decide +kernel
theorem dX8_worth_59 : decode cX8_worth 59 = .ok (.aload_n 0, 1) := by decide +kernel
theorem dX8_worth_60 : decode cX8_worth 60 = .ok (.getfield 28, 3) := by decide +kernel
theorem dX8_worth_63 : decode cX8_worth 63 = .ok (.invokevirtual 167, 3) := by decide +kernel
theorem dX8_worth_66 : decode cX8_worth 66 = .ok (.iload_n 2, 1) := by decide +kernel
theorem dX8_worth_67 : decode cX8_worth 67 = .ok (.iconst 1, 1) := by decide +kernel
theorem dX8_worth_68 : decode cX8_worth 68 = .ok (.if_icmp .ne 14, 3) := by decide +kernel
theorem dX8_worth_71 : decode cX8_worth 71 = .ok (.aload_n 0, 1) := by decide +kernel
theorem dX8_worth_72 : decode cX8_worth 72 = .ok (.getfield 28, 3) := by decide +kernel
theorem dX8_worth_75 : decode cX8_worth 75 = .ok (.iload_n 1, 1) := by decide +kernel
theorem dX8_worth_76 : decode cX8_worth 76 = .ok (.invokevirtual 170, 3) := by decide +kernel
theorem dX8_worth_79 : decode cX8_worth 79 = .ok (.goto 14, 3) := by decide +kernel
theorem dX8_worth_82 : decode cX8_worth 82 = .ok (.aload_n 0, 1) := by decide +kernel
theorem dX8_worth_83 : decode cX8_worth 83 = .ok (.getfield 28, 3) := by decide +kernel
theorem dX8_worth_86 : decode cX8_worth 86 = .ok (.getfield 173, 3) := by decide +kernel
theorem dX8_worth_89 : decode cX8_worth 89 = .ok (.iconst 1, 1) := by decide +kernel
theorem dX8_worth_90 : decode cX8_worth 90 = .ok (.iload_n 1, 1) := by decide +kernel
theorem dX8_worth_91 : decode cX8_worth 91 = .ok (.ishl, 1) := by decide +kernel
theorem dX8_worth_92 : decode cX8_worth 92 = .ok (.laload, 1) := by decide +kernel
theorem dX8_worth_93 : decode cX8_worth 93 = .ok (.lstore 4, 2) := by decide +kernel
theorem dX8_worth_95 : decode cX8_worth 95 = .ok (.lload 4, 2) := by decide +kernel
theorem dX8_worth_97 : decode cX8_worth 97 = .ok (.aload_n 0, 1) := by decide +kernel
theorem dX8_worth_98 : decode cX8_worth 98 = .ok (.getfield 28, 3) := by decide +kernel
theorem dX8_worth_101 : decode cX8_worth 101 = .ok (.invokevirtual 159, 3) := by decide +kernel
theorem dX8_worth_104 : decode cX8_worth 104 = .ok (.iload_n 3, 1) := by decide +kernel
theorem dX8_worth_105 : decode cX8_worth 105 = .ok (.invokestatic 163, 3) := by decide +kernel
theorem dX8_worth_108 : decode cX8_worth 108 = .ok (.lreturn, 1) := by decide +kernel
theorem dX8_just_0 : decode cX8_just 0 = .ok (.iload_n 1, 1) := by decide +kernel
theorem dX8_just_1 : decode cX8_just 1 = .ok (.iconst (-1), 1) := by decide +kernel
theorem dX8_just_2 : decode cX8_just 2 = .ok (.if_icmp .lt 22, 3) := by decide +kernel
theorem dX8_just_5 : decode cX8_just 5 = .ok (.iload_n 1, 1) := by decide +kernel
theorem dX8_just_6 : decode cX8_just 6 = .ok (.aload_n 0, 1) := by decide +kernel
theorem dX8_just_7 : decode cX8_just 7 = .ok (.getfield 10, 3) := by decide +kernel
theorem dX8_just_10 : decode cX8_just 10 = .ok (.invokevirtual 176, 3) := by decide +kernel
theorem dX8_just_13 : decode cX8_just 13 = .ok (.if_icmp .gt 11, 3) := by decide +kernel
theorem dX8_just_16 : decode cX8_just 16 = .ok (.iload_n 2, 1) := by decide +kernel
theorem dX8_just_17 : decode cX8_just 17 = .ok (.iconst 1, 1) := by decide +kernel
theorem dX8_just_18 : decode cX8_just 18 = .ok (.invokestatic 75, 3) := by decide +kernel
theorem dX8_just_21 : decode cX8_just 21 = .ok (.ifCond .ne 7, 3) := by decide +kernel
theorem dX8_just_24 : decode cX8_just 24 = .ok (.ldc2_w 150, 3) := by decide +kernel
theorem dX8_just_27 : decode cX8_just 27 = .ok (.lreturn, 1) := by decide +kernel
theorem dX8_just_28 : decode cX8_just 28 = .ok (.aload_n 0, 1) := by decide +kernel
theorem dX8_just_29 : decode cX8_just 29 = .ok (.getfield 28, 3) := by decide +kernel
theorem dX8_just_32 : decode cX8_just 32 = .ok (.invokevirtual 152, 3) := by decide +kernel
theorem dX8_just_35 : decode cX8_just 35 = .ok (.aload_n 0, 1) := by decide +kernel
theorem dX8_just_36 : decode cX8_just 36 = .ok (.getfield 28, 3) := by decide +kernel
theorem dX8_just_39 : decode cX8_just 39 = .ok (.invokevirtual 167, 3) := by decide +kernel
theorem dX8_just_42 : decode cX8_just 42 = .ok (.iload_n 1, 1) := by decide +kernel
theorem dX8_just_43 : decode cX8_just 43 = .ok (.iconst (-1), 1) := by decide +kernel
theorem dX8_just_44 : decode cX8_just 44 = .ok (.if_icmp .ne 13, 3) := by decide +kernel
theorem dX8_just_47 : decode cX8_just 47 = .ok (.aload_n 0, 1) := by decide +kernel
theorem dX8_just_48 : decode cX8_just 48 = .ok (.getfield 28, 3) := by decide +kernel
theorem dX8_just_51 : decode cX8_just 51 = .ok (.getfield 179, 3) := by decide +kernel
theorem dX8_just_54 : decode cX8_just 54 = .ok (.goto 12, 3) := by decide +kernel
theorem dX8_just_57 : decode cX8_just 57 = .ok (.aload_n 0, 1) := by decide +kernel
theorem dX8_just_58 : decode cX8_just 58 = .ok (.getfield 28, 3) := by decide +kernel
theorem dX8_just_61 : decode cX8_just 61 = .ok (.getfield 173, 3) := by decide +kernel
theorem dX8_just_64 : decode cX8_just 64 = .ok (.iload_n 1, 1) := by decide +kernel
theorem dX8_just_65 : decode cX8_just 65 = .ok (.laload, 1) := by decide +kernel
theorem dX8_just_66 : decode cX8_just 66 = .ok (.aload_n 0, 1) := by decide +kernel
theorem dX8_just_67 : decode cX8_just 67 = .ok (.getfield 28, 3) := by decide +kernel
theorem dX8_just_70 : decode cX8_just 70 = .ok (.invokevirtual 159, 3) := by decide +kernel
theorem dX8_just_73 : decode cX8_just 73 = .ok (.iload_n 2, 1) := by decide +kernel
theorem dX8_just_74 : decode cX8_just 74 = .ok (.invokestatic 163, 3) := by decide +kernel
theorem dX8_just_77 : decode cX8_just 77 = .ok (.lreturn, 1) := by decide +kernel
theorem dX8_aims_0 : decode cX8_aims 0 = .ok (.aload_n 0, 1) := by decide +kernel
theorem dX8_aims_1 : decode cX8_aims 1 = .ok (.getfield 10, 3) := by decide +kernel
theorem dX8_aims_4 : decode cX8_aims 4 = .ok (.iload_n 1, 1) := by decide +kernel
theorem dX8_aims_5 : decode cX8_aims 5 = .ok (.invokevirtual 101, 3) := by decide +kernel
theorem dX8_aims_8 : decode cX8_aims 8 = .ok (.ifCond .eq 33, 3) := by decide +kernel
theorem dX8_aims_11 : decode cX8_aims 11 = .ok (.iload_n 2, 1) := by decide +kernel
theorem dX8_aims_12 : decode cX8_aims 12 = .ok (.aload_n 0, 1) := by decide +kernel
theorem dX8_aims_13 : decode cX8_aims 13 = .ok (.getfield 10, 3) := by decide +kernel
theorem dX8_aims_16 : decode cX8_aims 16 = .ok (.invokevirtual 176, 3) := by decide +kernel
theorem dX8_aims_19 : decode cX8_aims 19 = .ok (.invokestatic 75, 3) := by decide +kernel
theorem dX8_aims_22 : decode cX8_aims 22 = .ok (.ifCond .eq 19, 3) := by decide +kernel
theorem dX8_aims_25 : decode cX8_aims 25 = .ok (.iload_n 3, 1) := by decide +kernel
theorem dX8_aims_26 : decode cX8_aims 26 = .ok (.aload_n 0, 1) := by decide +kernel
theorem dX8_aims_27 : decode cX8_aims 27 = .ok (.getfield 10, 3) := by decide +kernel
theorem dX8_aims_30 : decode cX8_aims 30 = .ok (.getfield 126, 3) := by decide +kernel
theorem dX8_aims_33 : decode cX8_aims 33 = .ok (.iconst 1, 1) := by decide +kernel
theorem dX8_aims_34 : decode cX8_aims 34 = .ok (.isub, 1) := by decide +kernel
theorem dX8_aims_35 : decode cX8_aims 35 = .ok (.invokestatic 75, 3) := by decide +kernel
theorem dX8_aims_38 : decode cX8_aims 38 = .ok (.ifCond .ne 5, 3) := by decide +kernel
theorem dX8_aims_41 : decode cX8_aims 41 = .ok (.iconst (-1), 1) := by decide +kernel
theorem dX8_aims_42 : decode cX8_aims 42 = .ok (.ireturn, 1) := by decide +kernel
theorem dX8_aims_43 : decode cX8_aims 43 = .ok (.iload_n 2, 1) := by decide +kernel
theorem dX8_aims_44 : decode cX8_aims 44 = .ok (.iload_n 1, 1) := by decide +kernel
theorem dX8_aims_45 : decode cX8_aims 45 = .ok (.ishr, 1) := by decide +kernel
theorem dX8_aims_46 : decode cX8_aims 46 = .ok (.iconst 1, 1) := by decide +kernel
theorem dX8_aims_47 : decode cX8_aims 47 = .ok (.iand, 1) := by decide +kernel
theorem dX8_aims_48 : decode cX8_aims 48 = .ok (.ifCond .ne 5, 3) := by decide +kernel
theorem dX8_aims_51 : decode cX8_aims 51 = .ok (.iconst (-1), 1) := by decide +kernel
theorem dX8_aims_52 : decode cX8_aims 52 = .ok (.ireturn, 1) := by decide +kernel
theorem dX8_aims_53 : decode cX8_aims 53 = .ok (.aload_n 0, 1) := by decide +kernel
theorem dX8_aims_54 : decode cX8_aims 54 = .ok (.getfield 28, 3) := by decide +kernel
theorem dX8_aims_57 : decode cX8_aims 57 = .ok (.invokevirtual 152, 3) := by decide +kernel
theorem dX8_aims_60 : decode cX8_aims 60 = .ok (.aload_n 0, 1) := by decide +kernel
theorem dX8_aims_61 : decode cX8_aims 61 = .ok (.getfield 28, 3) := by decide +kernel
theorem dX8_aims_64 : decode cX8_aims 64 = .ok (.iload_n 3, 1) := by decide +kernel
theorem dX8_aims_65 : decode cX8_aims 65 = .ok (.iload_n 1, 1) := by decide +kernel
theorem dX8_aims_66 : decode cX8_aims 66 = .ok (.iload_n 2, 1) := by decide +kernel
theorem dX8_aims_67 : decode cX8_aims 67 = .ok (.invokevirtual 183, 3) := by decide +kernel
theorem dX8_aims_70 : decode cX8_aims 70 = .ok (.ireturn, 1) := by decide +kernel
theorem dX8_begin_0 : decode cX8_begin 0 = .ok (.aload_n 0, 1) := by decide +kernel
theorem dX8_begin_1 : decode cX8_begin 1 = .ok (.getfield 10, 3) := by decide +kernel
theorem dX8_begin_4 : decode cX8_begin 4 = .ok (.iload_n 1, 1) := by decide +kernel
theorem dX8_begin_5 : decode cX8_begin 5 = .ok (.invokevirtual 101, 3) := by decide +kernel
theorem dX8_begin_8 : decode cX8_begin 8 = .ok (.ifCond .ne 5, 3) := by decide +kernel
theorem dX8_begin_11 : decode cX8_begin 11 = .ok (.iconst (-1), 1) := by decide +kernel
theorem dX8_begin_12 : decode cX8_begin 12 = .ok (.ireturn, 1) := by decide +kernel
theorem dX8_begin_13 : decode cX8_begin 13 = .ok (.aload_n 0, 1) := by decide +kernel
theorem dX8_begin_14 : decode cX8_begin 14 = .ok (.getfield 28, 3) := by decide +kernel
theorem dX8_begin_17 : decode cX8_begin 17 = .ok (.invokevirtual 152, 3) := by decide +kernel
theorem dX8_begin_20 : decode cX8_begin 20 = .ok (.iconst 0, 1) := by decide +kernel
theorem dX8_begin_21 : decode cX8_begin 21 = .ok (.istore_n 2, 1) := by decide +kernel
theorem dX8_begin_22 : decode cX8_begin 22 = .ok (.iconst 1, 1) := by decide +kernel
theorem dX8_begin_23 : decode cX8_begin 23 = .ok (.istore_n 3, 1) := by decide +kernel
theorem dX8_begin_24 : decode cX8_begin 24 = .ok (.iload_n 3, 1) := by decide +kernel
theorem dX8_begin_25 : decode cX8_begin 25 = .ok (.aload_n 0, 1) := by decide +kernel
theorem dX8_begin_26 : decode cX8_begin 26 = .ok (.getfield 10, 3) := by decide +kernel
theorem dX8_begin_29 : decode cX8_begin 29 = .ok (.getfield 79, 3) := by decide +kernel
theorem dX8_begin_32 : decode cX8_begin 32 = .ok (.if_icmp .ge 27, 3) := by decide +kernel
theorem dX8_begin_35 : decode cX8_begin 35 = .ok (.aload_n 0, 1) := by decide +kernel
theorem dX8_begin_36 : decode cX8_begin 36 = .ok (.iload_n 3, 1) := by decide +kernel
theorem dX8_begin_37 : decode cX8_begin 37 = .ok (.iload_n 1, 1) := by decide +kernel
theorem dX8_begin_38 : decode cX8_begin 38 = .ok (.invokevirtual 187, 3) := by decide +kernel
theorem dX8_begin_41 : decode cX8_begin 41 = .ok (.aload_n 0, 1) := by decide +kernel
theorem dX8_begin_42 : decode cX8_begin 42 = .ok (.iload_n 2, 1) := by decide +kernel
theorem dX8_begin_43 : decode cX8_begin 43 = .ok (.iload_n 1, 1) := by decide +kernel
theorem dX8_begin_44 : decode cX8_begin 44 = .ok (.invokevirtual 187, 3) := by decide +kernel
theorem dX8_begin_47 : decode cX8_begin 47 = .ok (.lcmp, 1) := by decide +kernel
theorem dX8_begin_48 : decode cX8_begin 48 = .ok (.ifCond .le 5, 3) := by decide +kernel
theorem dX8_begin_51 : decode cX8_begin 51 = .ok (.iload_n 3, 1) := by decide +kernel
theorem dX8_begin_52 : decode cX8_begin 52 = .ok (.istore_n 2, 1) := by decide +kernel
theorem dX8_begin_53 : decode cX8_begin 53 = .ok (.iinc 3 1, 3) := by decide +kernel
theorem dX8_begin_56 : decode cX8_begin 56 = .ok (.goto (-32), 3) := by decide +kernel
theorem dX8_begin_59 : decode cX8_begin 59 = .ok (.iload_n 2, 1) := by decide +kernel
theorem dX8_begin_60 : decode cX8_begin 60 = .ok (.ireturn, 1) := by decide +kernel
theorem dX8_fair_0 : decode cX8_fair 0 = .ok (.aload_n 0, 1) := by decide +kernel
theorem dX8_fair_1 : decode cX8_fair 1 = .ok (.getfield 10, 3) := by decide +kernel
theorem dX8_fair_4 : decode cX8_fair 4 = .ok (.getfield 79, 3) := by decide +kernel
theorem dX8_fair_7 : decode cX8_fair 7 = .ok (.ifCond .ne 6, 3) := by decide +kernel
theorem dX8_fair_10 : decode cX8_fair 10 = .ok (.bipush (-5), 2) := by decide +kernel
theorem dX8_fair_12 : decode cX8_fair 12 = .ok (.ireturn, 1) := by decide +kernel
theorem dX8_fair_13 : decode cX8_fair 13 = .ok (.aload_n 0, 1) := by decide +kernel
theorem dX8_fair_14 : decode cX8_fair 14 = .ok (.getfield 28, 3) := by decide +kernel
theorem dX8_fair_17 : decode cX8_fair 17 = .ok (.invokevirtual 152, 3) := by decide +kernel
theorem dX8_fair_20 : decode cX8_fair 20 = .ok (.iconst 0, 1) := by decide +kernel
theorem dX8_fair_21 : decode cX8_fair 21 = .ok (.istore_n 1, 1) := by decide +kernel
theorem dX8_fair_22 : decode cX8_fair 22 = .ok (.iconst 1, 1) := by decide +kernel
theorem dX8_fair_23 : decode cX8_fair 23 = .ok (.istore_n 2, 1) := by decide +kernel
theorem dX8_fair_24 : decode cX8_fair 24 = .ok (.iload_n 2, 1) := by decide +kernel
theorem dX8_fair_25 : decode cX8_fair 25 = .ok (.aload_n 0, 1) := by decide +kernel
theorem dX8_fair_26 : decode cX8_fair 26 = .ok (.getfield 10, 3) := by decide +kernel
theorem dX8_fair_29 : decode cX8_fair 29 = .ok (.getfield 79, 3) := by decide +kernel
theorem dX8_fair_32 : decode cX8_fair 32 = .ok (.if_icmp .ge 25, 3) := by decide +kernel
theorem dX8_fair_35 : decode cX8_fair 35 = .ok (.aload_n 0, 1) := by decide +kernel
theorem dX8_fair_36 : decode cX8_fair 36 = .ok (.iload_n 2, 1) := by decide +kernel
theorem dX8_fair_37 : decode cX8_fair 37 = .ok (.invokevirtual 191, 3) := by decide +kernel
theorem dX8_fair_40 : decode cX8_fair 40 = .ok (.aload_n 0, 1) := by decide +kernel
theorem dX8_fair_41 : decode cX8_fair 41 = .ok (.iload_n 1, 1) := by decide +kernel
theorem dX8_fair_42 : decode cX8_fair 42 = .ok (.invokevirtual 191, 3) := by decide +kernel
theorem dX8_fair_45 : decode cX8_fair 45 = .ok (.lcmp, 1) := by decide +kernel
theorem dX8_fair_46 : decode cX8_fair 46 = .ok (.ifCond .ge 5, 3) := by decide +kernel
theorem dX8_fair_49 : decode cX8_fair 49 = .ok (.iload_n 2, 1) := by decide +kernel
theorem dX8_fair_50 : decode cX8_fair 50 = .ok (.istore_n 1, 1) := by decide +kernel
theorem dX8_fair_51 : decode cX8_fair 51 = .ok (.iinc 2 1, 3) := by decide +kernel
theorem dX8_fair_54 : decode cX8_fair 54 = .ok (.goto (-30), 3) := by decide +kernel
theorem dX8_fair_57 : decode cX8_fair 57 = .ok (.iload_n 1, 1) := by decide +kernel
theorem dX8_fair_58 : decode cX8_fair 58 = .ok (.ireturn, 1) := by decide +kernel
theorem dX8_would_0 : decode cX8_would 0 = .ok (.aload_n 0, 1) := by decide +kernel
theorem dX8_would_1 : decode cX8_would 1 = .ok (.getfield 10, 3) := by decide +kernel
theorem dX8_would_4 : decode cX8_would 4 = .ok (.iload_n 1, 1) := by decide +kernel
theorem dX8_would_5 : decode cX8_would 5 = .ok (.invokevirtual 101, 3) := by decide +kernel
theorem dX8_would_8 : decode cX8_would 8 = .ok (.ifCond .eq 11, 3) := by decide +kernel
theorem dX8_would_11 : decode cX8_would 11 = .ok (.aload_n 0, 1) := by decide +kernel
theorem dX8_would_12 : decode cX8_would 12 = .ok (.iload_n 1, 1) := by decide +kernel
theorem dX8_would_13 : decode cX8_would 13 = .ok (.invokevirtual 194, 3) := by decide +kernel
theorem dX8_would_16 : decode cX8_would 16 = .ok (.goto 4, 3) := by decide +kernel
theorem dX8_would_19 : decode cX8_would 19 = .ok (.iconst (-1), 1) := by decide +kernel
theorem dX8_would_20 : decode cX8_would 20 = .ok (.ireturn, 1) := by decide +kernel
theorem dX8_rest_0 : decode cX8_rest 0 = .ok (.aload_n 0, 1) := by decide +kernel
theorem dX8_rest_1 : decode cX8_rest 1 = .ok (.invokevirtual 197, 3) := by decide +kernel
theorem dX8_rest_4 : decode cX8_rest 4 = .ok (.istore_n 1, 1) := by decide +kernel
theorem dX8_rest_5 : decode cX8_rest 5 = .ok (.iload_n 1, 1) := by decide +kernel
theorem dX8_rest_6 : decode cX8_rest 6 = .ok (.bipush (-2), 2) := by decide +kernel
theorem dX8_rest_8 : decode cX8_rest 8 = .ok (.if_icmp .ne 8, 3) := by decide +kernel
theorem dX8_rest_11 : decode cX8_rest 11 = .ok (.bipush (-2), 2) := by decide +kernel
theorem dX8_rest_13 : decode cX8_rest 13 = .ok (.goto 7, 3) := by decide +kernel
theorem dX8_rest_16 : decode cX8_rest 16 = .ok (.iload_n 1, 1) := by decide +kernel
theorem dX8_rest_17 : decode cX8_rest 17 = .ok (.bipush 6, 2) := by decide +kernel
theorem dX8_rest_19 : decode cX8_rest 19 = .ok (.idiv, 1) := by decide +kernel
theorem dX8_rest_20 : decode cX8_rest 20 = .ok (.ireturn, 1) := by decide +kernel
theorem dX8_settle_0 : decode cX8_settle 0 = .ok (.iload_n 1, 1) := by decide +kernel
theorem dX8_settle_1 : decode cX8_settle 1 = .ok (.iconst (-1), 1) := by decide +kernel
theorem dX8_settle_2 : decode cX8_settle 2 = .ok (.if_icmp .eq 16, 3) := by decide +kernel
theorem dX8_settle_5 : decode cX8_settle 5 = .ok (.aload_n 0, 1) := by decide +kernel
theorem dX8_settle_6 : decode cX8_settle 6 = .ok (.getfield 10, 3) := by decide +kernel
theorem dX8_settle_9 : decode cX8_settle 9 = .ok (.iload_n 1, 1) := by decide +kernel
theorem dX8_settle_10 : decode cX8_settle 10 = .ok (.invokevirtual 101, 3) := by decide +kernel
theorem dX8_settle_13 : decode cX8_settle 13 = .ok (.ifCond .ne 5, 3) := by decide +kernel
theorem dX8_settle_16 : decode cX8_settle 16 = .ok (.iconst (-1), 1) := by decide +kernel
theorem dX8_settle_17 : decode cX8_settle 17 = .ok (.ireturn, 1) := by decide +kernel
theorem dX8_settle_18 : decode cX8_settle 18 = .ok (.aload_n 0, 1) := by decide +kernel
theorem dX8_settle_19 : decode cX8_settle 19 = .ok (.getfield 10, 3) := by decide +kernel
theorem dX8_settle_22 : decode cX8_settle 22 = .ok (.getfield 200, 3) := by decide +kernel
theorem dX8_settle_25 : decode cX8_settle 25 = .ok (.iconst 0, 1) := by decide +kernel
theorem dX8_settle_26 : decode cX8_settle 26 = .ok (.aload_n 0, 1) := by decide +kernel
theorem dX8_settle_27 : decode cX8_settle 27 = .ok (.getfield 71, 3) := by decide +kernel
theorem dX8_settle_30 : decode cX8_settle 30 = .ok (.iconst 0, 1) := by decide +kernel
theorem dX8_settle_31 : decode cX8_settle 31 = .ok (.iconst 4, 1) := by decide +kernel
theorem dX8_settle_32 : decode cX8_settle 32 = .ok (.invokestatic 203, 3) := by decide +kernel
theorem dX8_settle_35 : decode cX8_settle 35 = .ok (.iconst 0, 1) := by decide +kernel
theorem dX8_settle_36 : decode cX8_settle 36 = .ok (.istore_n 2, 1) := by decide +kernel
theorem dX8_settle_37 : decode cX8_settle 37 = .ok (.aload_n 0, 1) := by decide +kernel
theorem dX8_settle_38 : decode cX8_settle 38 = .ok (.invokevirtual 197, 3) := by decide +kernel
theorem dX8_settle_41 : decode cX8_settle 41 = .ok (.istore_n 3, 1) := by decide +kernel
theorem dX8_settle_42 : decode cX8_settle 42 = .ok (.iload_n 3, 1) := by decide +kernel
theorem dX8_settle_43 : decode cX8_settle 43 = .ok (.bipush (-2), 2) := by decide +kernel
theorem dX8_settle_45 : decode cX8_settle 45 = .ok (.if_icmp .eq 36, 3) := by decide +kernel
theorem dX8_settle_48 : decode cX8_settle 48 = .ok (.iload_n 2, 1) := by decide +kernel
theorem dX8_settle_49 : decode cX8_settle 49 = .ok (.bipush 8, 2) := by decide +kernel
theorem dX8_settle_51 : decode cX8_settle 51 = .ok (.if_icmp .ge 30, 3) := by decide +kernel
theorem dX8_settle_54 : decode cX8_settle 54 = .ok (.aload_n 0, 1) := by decide +kernel
theorem dX8_settle_55 : decode cX8_settle 55 = .ok (.getfield 10, 3) := by decide +kernel
theorem dX8_settle_58 : decode cX8_settle 58 = .ok (.getfield 200, 3) := by decide +kernel
theorem dX8_settle_61 : decode cX8_settle 61 = .ok (.iload_n 3, 1) := by decide +kernel
theorem dX8_settle_62 : decode cX8_settle 62 = .ok (.bipush 6, 2) := by decide +kernel
theorem dX8_settle_64 : decode cX8_settle 64 = .ok (.idiv, 1) := by decide +kernel
theorem dX8_settle_65 : decode cX8_settle 65 = .ok (.iload_n 3, 1) := by decide +kernel
theorem dX8_settle_66 : decode cX8_settle 66 = .ok (.bipush 6, 2) := by decide +kernel
theorem dX8_settle_68 : decode cX8_settle 68 = .ok (.irem, 1) := by decide +kernel
theorem dX8_settle_69 : decode cX8_settle 69 = .ok (.iastore, 1) := by decide +kernel
theorem dX8_settle_70 : decode cX8_settle 70 = .ok (.iinc 2 1, 3) := by decide +kernel
theorem dX8_settle_73 : decode cX8_settle 73 = .ok (.aload_n 0, 1) := by decide +kernel
theorem dX8_settle_74 : decode cX8_settle 74 = .ok (.invokevirtual 197, 3) := by decide +kernel
theorem dX8_settle_77 : decode cX8_settle 77 = .ok (.istore_n 3, 1) := by decide +kernel
theorem dX8_settle_78 : decode cX8_settle 78 = .ok (.goto (-36), 3) := by decide +kernel
theorem dX8_settle_81 : decode cX8_settle 81 = .ok (.iload_n 3, 1) := by decide +kernel
theorem dX8_settle_82 : decode cX8_settle 82 = .ok (.bipush (-2), 2) := by decide +kernel
theorem dX8_settle_84 : decode cX8_settle 84 = .ok (.if_icmp .eq 8, 3) := by decide +kernel
theorem dX8_settle_87 : decode cX8_settle 87 = .ok (.bipush (-2), 2) := by decide +kernel
theorem dX8_settle_89 : decode cX8_settle 89 = .ok (.goto 21, 3) := by decide +kernel
theorem dX8_settle_92 : decode cX8_settle 92 = .ok (.iload_n 1, 1) := by decide +kernel
theorem dX8_settle_93 : decode cX8_settle 93 = .ok (.iconst (-1), 1) := by decide +kernel
theorem dX8_settle_94 : decode cX8_settle 94 = .ok (.if_icmp .ne 7, 3) := by decide +kernel
theorem dX8_settle_97 : decode cX8_settle 97 = .ok (.iload_n 2, 1) := by decide +kernel
theorem dX8_settle_98 : decode cX8_settle 98 = .ok (.goto 12, 3) := by decide +kernel
theorem dX8_settle_101 : decode cX8_settle 101 = .ok (.aload_n 0, 1) := by decide +kernel
theorem dX8_settle_102 : decode cX8_settle 102 = .ok (.getfield 10, 3) := by decide +kernel
theorem dX8_settle_105 : decode cX8_settle 105 = .ok (.getfield 200, 3) := by decide +kernel
theorem dX8_settle_108 : decode cX8_settle 108 = .ok (.iload_n 1, 1) := by decide +kernel
theorem dX8_settle_109 : decode cX8_settle 109 = .ok (.iaload, 1) := by decide +kernel
theorem dX8_settle_110 : decode cX8_settle 110 = .ok (.istore 4, 2) := by decide +kernel
theorem dX8_settle_112 : decode cX8_settle 112 = .ok (.aload_n 0, 1) := by decide +kernel
theorem dX8_settle_113 : decode cX8_settle 113 = .ok (.getfield 71, 3) := by decide +kernel
theorem dX8_settle_116 : decode cX8_settle 116 = .ok (.iconst 0, 1) := by decide +kernel
theorem dX8_settle_117 : decode cX8_settle 117 = .ok (.aload_n 0, 1) := by decide +kernel
theorem dX8_settle_118 : decode cX8_settle 118 = .ok (.getfield 10, 3) := by decide +kernel
theorem dX8_settle_121 : decode cX8_settle 121 = .ok (.getfield 200, 3) := by decide +kernel
theorem dX8_settle_124 : decode cX8_settle 124 = .ok (.iconst 0, 1) := by decide +kernel
theorem dX8_settle_125 : decode cX8_settle 125 = .ok (.iconst 4, 1) := by decide +kernel
theorem dX8_settle_126 : decode cX8_settle 126 = .ok (.invokestatic 203, 3) := by decide +kernel
theorem dX8_settle_129 : decode cX8_settle 129 = .ok (.iload 4, 2) := by decide +kernel
theorem dX8_settle_131 : decode cX8_settle 131 = .ok (.ireturn, 1) := by decide +kernel
theorem dX8_even_0 : decode cX8_even 0 = .ok (.aload_n 0, 1) := by decide +kernel
theorem dX8_even_1 : decode cX8_even 1 = .ok (.getfield 10, 3) := by decide +kernel
theorem dX8_even_4 : decode cX8_even 4 = .ok (.iload_n 1, 1) := by decide +kernel
theorem dX8_even_5 : decode cX8_even 5 = .ok (.invokevirtual 101, 3) := by decide +kernel
theorem dX8_even_8 : decode cX8_even 8 = .ok (.ifCond .ne 5, 3) := by decide +kernel
theorem dX8_even_11 : decode cX8_even 11 = .ok (.iconst (-1), 1) := by decide +kernel
theorem dX8_even_12 : decode cX8_even 12 = .ok (.ireturn, 1) := by decide +kernel
theorem dX8_even_13 : decode cX8_even 13 = .ok (.aload_n 0, 1) := by decide +kernel
theorem dX8_even_14 : decode cX8_even 14 = .ok (.getfield 10, 3) := by decide +kernel
theorem dX8_even_17 : decode cX8_even 17 = .ok (.getfield 209, 3) := by decide +kernel
theorem dX8_even_20 : decode cX8_even 20 = .ok (.iload_n 1, 1) := by decide +kernel
theorem dX8_even_21 : decode cX8_even 21 = .ok (.iaload, 1) := by decide +kernel
theorem dX8_even_22 : decode cX8_even 22 = .ok (.istore_n 2, 1) := by decide +kernel
theorem dX8_even_23 : decode cX8_even 23 = .ok (.iconst 0, 1) := by decide +kernel
theorem dX8_even_24 : decode cX8_even 24 = .ok (.istore_n 3, 1) := by decide +kernel
theorem dX8_even_25 : decode cX8_even 25 = .ok (.ldc2_w 212, 3) := by decide +kernel
theorem dX8_even_28 : decode cX8_even 28 = .ok (.lstore 4, 2) := by decide +kernel
theorem dX8_even_30 : decode cX8_even 30 = .ok (.iconst 0, 1) := by decide +kernel
theorem dX8_even_31 : decode cX8_even 31 = .ok (.istore 6, 2) := by decide +kernel
theorem dX8_even_33 : decode cX8_even 33 = .ok (.iload 6, 2) := by decide +kernel
theorem dX8_even_35 : decode cX8_even 35 = .ok (.bipush 12, 2) := by decide +kernel
theorem dX8_even_37 : decode cX8_even 37 = .ok (.if_icmp .gt 46, 3) := by decide +kernel
theorem dX8_even_40 : decode cX8_even 40 = .ok (.aload_n 0, 1) := by decide +kernel
theorem dX8_even_41 : decode cX8_even 41 = .ok (.iload_n 1, 1) := by decide +kernel
theorem dX8_even_42 : decode cX8_even 42 = .ok (.iconst 0, 1) := by decide +kernel
theorem dX8_even_43 : decode cX8_even 43 = .ok (.iload 6, 2) := by decide +kernel
theorem dX8_even_45 : decode cX8_even 45 = .ok (.invokevirtual 116, 3) := by decide +kernel
theorem dX8_even_48 : decode cX8_even 48 = .ok (.aload_n 0, 1) := by decide +kernel
theorem dX8_even_49 : decode cX8_even 49 = .ok (.getfield 28, 3) := by decide +kernel
theorem dX8_even_52 : decode cX8_even 52 = .ok (.invokevirtual 152, 3) := by decide +kernel
theorem dX8_even_55 : decode cX8_even 55 = .ok (.aload_n 0, 1) := by decide +kernel
theorem dX8_even_56 : decode cX8_even 56 = .ok (.iload_n 1, 1) := by decide +kernel
theorem dX8_even_57 : decode cX8_even 57 = .ok (.invokevirtual 214, 3) := by decide +kernel
theorem dX8_even_60 : decode cX8_even 60 = .ok (.lstore 7, 2) := by decide +kernel
theorem dX8_even_62 : decode cX8_even 62 = .ok (.lload 7, 2) := by decide +kernel
theorem dX8_even_64 : decode cX8_even 64 = .ok (.lload 4, 2) := by decide +kernel
theorem dX8_even_66 : decode cX8_even 66 = .ok (.lcmp, 1) := by decide +kernel
theorem dX8_even_67 : decode cX8_even 67 = .ok (.ifCond .ge 10, 3) := by decide +kernel
theorem dX8_even_70 : decode cX8_even 70 = .ok (.lload 7, 2) := by decide +kernel
theorem dX8_even_72 : decode cX8_even 72 = .ok (.lstore 4, 2) := by decide +kernel
theorem dX8_even_74 : decode cX8_even 74 = .ok (.iload 6, 2) := by decide +kernel
theorem dX8_even_76 : decode cX8_even 76 = .ok (.istore_n 3, 1) := by decide +kernel
theorem dX8_even_77 : decode cX8_even 77 = .ok (.iinc 6 1, 3) := by decide +kernel
theorem dX8_even_80 : decode cX8_even 80 = .ok (.goto (-47), 3) := by decide +kernel
theorem dX8_even_83 : decode cX8_even 83 = .ok (.aload_n 0, 1) := by decide +kernel
theorem dX8_even_84 : decode cX8_even 84 = .ok (.iload_n 1, 1) := by decide +kernel
theorem dX8_even_85 : decode cX8_even 85 = .ok (.iconst 0, 1) := by decide +kernel
theorem dX8_even_86 : decode cX8_even 86 = .ok (.iload_n 2, 1) := by decide +kernel
theorem dX8_even_87 : decode cX8_even 87 = .ok (.invokevirtual 116, 3) := by decide +kernel
theorem dX8_even_90 : decode cX8_even 90 = .ok (.iload_n 3, 1) := by decide +kernel
theorem dX8_even_91 : decode cX8_even 91 = .ok (.ireturn, 1) := by decide +kernel
theorem dX8_league_0 : decode cX8_league 0 = .ok (.iload_n 1, 1) := by decide +kernel
theorem dX8_league_1 : decode cX8_league 1 = .ok (.ifCond .ge 5, 3) := by decide +kernel
theorem dX8_league_4 : decode cX8_league 4 = .ok (.iconst (-1), 1) := by decide +kernel
theorem dX8_league_5 : decode cX8_league 5 = .ok (.ireturn, 1) := by decide +kernel
theorem dX8_league_6 : decode cX8_league 6 = .ok (.iload_n 1, 1) := by decide +kernel
theorem dX8_league_7 : decode cX8_league 7 = .ok (.bipush 10, 2) := by decide +kernel
theorem dX8_league_9 : decode cX8_league 9 = .ok (.idiv, 1) := by decide +kernel
theorem dX8_league_10 : decode cX8_league 10 = .ok (.istore_n 2, 1) := by decide +kernel
theorem dX8_league_11 : decode cX8_league 11 = .ok (.iload_n 1, 1) := by decide +kernel
theorem dX8_league_12 : decode cX8_league 12 = .ok (.bipush 10, 2) := by decide +kernel
theorem dX8_league_14 : decode cX8_league 14 = .ok (.irem, 1) := by decide +kernel
theorem dX8_league_15 : decode cX8_league 15 = .ok (.istore_n 3, 1) := by decide +kernel
theorem dX8_league_16 : decode cX8_league 16 = .ok (.iload_n 2, 1) := by decide +kernel
theorem dX8_league_17 : decode cX8_league 17 = .ok (.iload_n 3, 1) := by decide +kernel
theorem dX8_league_18 : decode cX8_league 18 = .ok (.if_icmp .eq 25, 3) := by decide +kernel
theorem dX8_league_21 : decode cX8_league 21 = .ok (.aload_n 0, 1) := by decide +kernel
theorem dX8_league_22 : decode cX8_league 22 = .ok (.getfield 10, 3) := by decide +kernel
theorem dX8_league_25 : decode cX8_league 25 = .ok (.iload_n 2, 1) := by decide +kernel
theorem dX8_league_26 : decode cX8_league 26 = .ok (.invokevirtual 101, 3) := by decide +kernel
theorem dX8_league_29 : decode cX8_league 29 = .ok (.ifCond .eq 14, 3) := by decide +kernel
theorem dX8_league_32 : decode cX8_league 32 = .ok (.aload_n 0, 1) := by decide +kernel
theorem dX8_league_33 : decode cX8_league 33 = .ok (.getfield 10, 3) := by decide +kernel
theorem dX8_league_36 : decode cX8_league 36 = .ok (.iload_n 3, 1) := by decide +kernel
theorem dX8_league_37 : decode cX8_league 37 = .ok (.invokevirtual 101, 3) := by decide +kernel
theorem dX8_league_40 : decode cX8_league 40 = .ok (.ifCond .ne 5, 3) := by decide +kernel
theorem dX8_league_43 : decode cX8_league 43 = .ok (.iconst (-1), 1) := by decide +kernel
theorem dX8_league_44 : decode cX8_league 44 = .ok (.ireturn, 1) := by decide +kernel
theorem dX8_league_45 : decode cX8_league 45 = .ok (.aload_n 0, 1) := by decide +kernel
theorem dX8_league_46 : decode cX8_league 46 = .ok (.getfield 28, 3) := by decide +kernel
theorem dX8_league_49 : decode cX8_league 49 = .ok (.invokevirtual 152, 3) := by decide +kernel
theorem dX8_league_52 : decode cX8_league 52 = .ok (.aload_n 0, 1) := by decide +kernel
theorem dX8_league_53 : decode cX8_league 53 = .ok (.iload_n 2, 1) := by decide +kernel
theorem dX8_league_54 : decode cX8_league 54 = .ok (.iload_n 3, 1) := by decide +kernel
theorem dX8_league_55 : decode cX8_league 55 = .ok (.invokevirtual 217, 3) := by decide +kernel
theorem dX8_league_58 : decode cX8_league 58 = .ok (.ireturn, 1) := by decide +kernel
theorem dX8_points_0 : decode cX8_points 0 = .ok (.aload_n 0, 1) := by decide +kernel
theorem dX8_points_1 : decode cX8_points 1 = .ok (.getfield 10, 3) := by decide +kernel
theorem dX8_points_4 : decode cX8_points 4 = .ok (.iload_n 1, 1) := by decide +kernel
theorem dX8_points_5 : decode cX8_points 5 = .ok (.invokevirtual 101, 3) := by decide +kernel
theorem dX8_points_8 : decode cX8_points 8 = .ok (.ifCond .ne 5, 3) := by decide +kernel
theorem dX8_points_11 : decode cX8_points 11 = .ok (.iconst (-1), 1) := by decide +kernel
theorem dX8_points_12 : decode cX8_points 12 = .ok (.ireturn, 1) := by decide +kernel
theorem dX8_points_13 : decode cX8_points 13 = .ok (.aload_n 0, 1) := by decide +kernel
theorem dX8_points_14 : decode cX8_points 14 = .ok (.getfield 28, 3) := by decide +kernel
theorem dX8_points_17 : decode cX8_points 17 = .ok (.invokevirtual 152, 3) := by decide +kernel
theorem dX8_points_20 : decode cX8_points 20 = .ok (.iconst 0, 1) := by decide +kernel
theorem dX8_points_21 : decode cX8_points 21 = .ok (.istore_n 2, 1) := by decide +kernel
theorem dX8_points_22 : decode cX8_points 22 = .ok (.iconst 0, 1) := by decide +kernel
theorem dX8_points_23 : decode cX8_points 23 = .ok (.istore_n 3, 1) := by decide +kernel
theorem dX8_points_24 : decode cX8_points 24 = .ok (.iload_n 3, 1) := by decide +kernel
theorem dX8_points_25 : decode cX8_points 25 = .ok (.aload_n 0, 1) := by decide +kernel
theorem dX8_points_26 : decode cX8_points 26 = .ok (.getfield 10, 3) := by decide +kernel
theorem dX8_points_29 : decode cX8_points 29 = .ok (.getfield 79, 3) := by decide +kernel
theorem dX8_points_32 : decode cX8_points 32 = .ok (.if_icmp .ge 45, 3) := by decide +kernel
theorem dX8_points_35 : decode cX8_points 35 = .ok (.iload_n 3, 1) := by decide +kernel
theorem dX8_points_36 : decode cX8_points 36 = .ok (.iload_n 1, 1) := by decide +kernel
theorem dX8_points_37 : decode cX8_points 37 = .ok (.if_icmp .eq 34, 3) := by decide +kernel
theorem dX8_points_40 : decode cX8_points 40 = .ok (.aload_n 0, 1) := by decide +kernel
theorem dX8_points_41 : decode cX8_points 41 = .ok (.iload_n 1, 1) := by decide +kernel
theorem dX8_points_42 : decode cX8_points 42 = .ok (.iload_n 3, 1) := by decide +kernel
theorem dX8_points_43 : decode cX8_points 43 = .ok (.invokevirtual 217, 3) := by decide +kernel
theorem dX8_points_46 : decode cX8_points 46 = .ok (.istore 4, 2) := by decide +kernel
theorem dX8_points_48 : decode cX8_points 48 = .ok (.iload_n 2, 1) := by decide +kernel
theorem dX8_points_49 : decode cX8_points 49 = .ok (.iload 4, 2) := by decide +kernel
theorem dX8_points_51 : decode cX8_points 51 = .ok (.iconst 1, 1) := by decide +kernel
theorem dX8_points_52 : decode cX8_points 52 = .ok (.if_icmp .ne 7, 3) := by decide +kernel
theorem dX8_points_55 : decode cX8_points 55 = .ok (.iconst 2, 1) := by decide +kernel
theorem dX8_points_56 : decode cX8_points 56 = .ok (.goto 13, 3) := by decide +kernel
theorem dX8_points_59 : decode cX8_points 59 = .ok (.iload 4, 2) := by decide +kernel
theorem dX8_points_61 : decode cX8_points 61 = .ok (.ifCond .ne 7, 3) := by decide +kernel
theorem dX8_points_64 : decode cX8_points 64 = .ok (.iconst 1, 1) := by decide +kernel
theorem dX8_points_65 : decode cX8_points 65 = .ok (.goto 4, 3) := by decide +kernel
theorem dX8_points_68 : decode cX8_points 68 = .ok (.iconst 0, 1) := by decide +kernel
theorem dX8_points_69 : decode cX8_points 69 = .ok (.iadd, 1) := by decide +kernel
theorem dX8_points_70 : decode cX8_points 70 = .ok (.istore_n 2, 1) := by decide +kernel
theorem dX8_points_71 : decode cX8_points 71 = .ok (.iinc 3 1, 3) := by decide +kernel
theorem dX8_points_74 : decode cX8_points 74 = .ok (.goto (-50), 3) := by decide +kernel
theorem dX8_points_77 : decode cX8_points 77 = .ok (.iload_n 2, 1) := by decide +kernel
theorem dX8_points_78 : decode cX8_points 78 = .ok (.ireturn, 1) := by decide +kernel
theorem dX8_judge_0 : decode cX8_judge 0 = .ok (.iload_n 1, 1) := by decide +kernel
theorem dX8_judge_1 : decode cX8_judge 1 = .ok (.iconst 5, 1) := by decide +kernel
theorem dX8_judge_2 : decode cX8_judge 2 = .ok (.invokestatic 75, 3) := by decide +kernel
theorem dX8_judge_5 : decode cX8_judge 5 = .ok (.ifCond .eq 11, 3) := by decide +kernel
theorem dX8_judge_8 : decode cX8_judge 8 = .ok (.iload_n 2, 1) := by decide +kernel
theorem dX8_judge_9 : decode cX8_judge 9 = .ok (.iconst 1, 1) := by decide +kernel
theorem dX8_judge_10 : decode cX8_judge 10 = .ok (.invokestatic 75, 3) := by decide +kernel
theorem dX8_judge_13 : decode cX8_judge 13 = .ok (.ifCond .ne 5, 3) := by decide +kernel
theorem dX8_judge_16 : decode cX8_judge 16 = .ok (.iconst (-1), 1) := by decide +kernel
theorem dX8_judge_17 : decode cX8_judge 17 = .ok (.ireturn, 1) := by decide +kernel
theorem dX8_judge_18 : decode cX8_judge 18 = .ok (.aload_n 0, 1) := by decide +kernel
theorem dX8_judge_19 : decode cX8_judge 19 = .ok (.getfield 66, 3) := by decide +kernel
theorem dX8_judge_22 : decode cX8_judge 22 = .ok (.iload_n 1, 1) := by decide +kernel
theorem dX8_judge_23 : decode cX8_judge 23 = .ok (.aaload, 1) := by decide +kernel
theorem dX8_judge_24 : decode cX8_judge 24 = .ok (.astore_n 3, 1) := by decide +kernel
theorem dX8_judge_25 : decode cX8_judge 25 = .ok (.aload_n 3, 1) := by decide +kernel
theorem dX8_judge_26 : decode cX8_judge 26 = .ok (.getfield 87, 3) := by decide +kernel
theorem dX8_judge_29 : decode cX8_judge 29 = .ok (.ifCond .eq 20, 3) := by decide +kernel
theorem dX8_judge_32 : decode cX8_judge 32 = .ok (.aload_n 3, 1) := by decide +kernel
theorem dX8_judge_33 : decode cX8_judge 33 = .ok (.getfield 87, 3) := by decide +kernel
theorem dX8_judge_36 : decode cX8_judge 36 = .ok (.bipush (-2), 2) := by decide +kernel
theorem dX8_judge_38 : decode cX8_judge 38 = .ok (.if_icmp .ne 8, 3) := by decide +kernel
theorem dX8_judge_41 : decode cX8_judge 41 = .ok (.bipush (-11), 2) := by decide +kernel
theorem dX8_judge_43 : decode cX8_judge 43 = .ok (.goto 5, 3) := by decide +kernel
theorem dX8_judge_46 : decode cX8_judge 46 = .ok (.bipush (-12), 2) := by decide +kernel
theorem dX8_judge_48 : decode cX8_judge 48 = .ok (.ireturn, 1) := by decide +kernel
theorem dX8_judge_49 : decode cX8_judge 49 = .ok (.aload_n 0, 1) := by decide +kernel
theorem dX8_judge_50 : decode cX8_judge 50 = .ok (.getfield 28, 3) := by decide +kernel
theorem dX8_judge_53 : decode cX8_judge 53 = .ok (.invokevirtual 152, 3) := by decide +kernel
theorem dX8_judge_56 : decode cX8_judge 56 = .ok (.aload_n 0, 1) := by decide +kernel
theorem dX8_judge_57 : decode cX8_judge 57 = .ok (.getfield 46, 3) := by decide +kernel
theorem dX8_judge_60 : decode cX8_judge 60 = .ok (.aload_n 3, 1) := by decide +kernel
theorem dX8_judge_61 : decode cX8_judge 61 = .ok (.invokevirtual 220, 3) := by decide +kernel
theorem dX8_judge_64 : decode cX8_judge 64 = .ok (.iload_n 2, 1) := by decide +kernel
theorem dX8_judge_65 : decode cX8_judge 65 = .ok (.ifCond .ne 13, 3) := by decide +kernel
theorem dX8_judge_68 : decode cX8_judge 68 = .ok (.aload_n 0, 1) := by decide +kernel
theorem dX8_judge_69 : decode cX8_judge 69 = .ok (.getfield 46, 3) := by decide +kernel
theorem dX8_judge_72 : decode cX8_judge 72 = .ok (.getfield 224, 3) := by decide +kernel
theorem dX8_judge_75 : decode cX8_judge 75 = .ok (.goto 10, 3) := by decide +kernel
theorem dX8_judge_78 : decode cX8_judge 78 = .ok (.aload_n 0, 1) := by decide +kernel
theorem dX8_judge_79 : decode cX8_judge 79 = .ok (.getfield 46, 3) := by decide +kernel
theorem dX8_judge_82 : decode cX8_judge 82 = .ok (.getfield 227, 3) := by decide +kernel
theorem dX8_judge_85 : decode cX8_judge 85 = .ok (.ireturn, 1) := by decide +kernel
theorem dX8_chance_0 : decode cX8_chance 0 = .ok (.iload_n 1, 1) := by decide +kernel
theorem dX8_chance_1 : decode cX8_chance 1 = .ok (.iconst 5, 1) := by decide +kernel
theorem dX8_chance_2 : decode cX8_chance 2 = .ok (.invokestatic 75, 3) := by decide +kernel
theorem dX8_chance_5 : decode cX8_chance 5 = .ok (.ifCond .eq 23, 3) := by decide +kernel
theorem dX8_chance_8 : decode cX8_chance 8 = .ok (.iload_n 2, 1) := by decide +kernel
theorem dX8_chance_9 : decode cX8_chance 9 = .ok (.iconst 1, 1) := by decide +kernel
theorem dX8_chance_10 : decode cX8_chance 10 = .ok (.invokestatic 75, 3) := by decide +kernel
theorem dX8_chance_13 : decode cX8_chance 13 = .ok (.ifCond .eq 15, 3) := by decide +kernel
theorem dX8_chance_16 : decode cX8_chance 16 = .ok (.aload_n 0, 1) := by decide +kernel
theorem dX8_chance_17 : decode cX8_chance 17 = .ok (.getfield 66, 3) := by decide +kernel
theorem dX8_chance_20 : decode cX8_chance 20 = .ok (.iload_n 1, 1) := by decide +kernel
theorem dX8_chance_21 : decode cX8_chance 21 = .ok (.aaload, 1) := by decide +kernel
theorem dX8_chance_22 : decode cX8_chance 22 = .ok (.getfield 87, 3) := by decide +kernel
theorem dX8_chance_25 : decode cX8_chance 25 = .ok (.ifCond .eq 7, 3) := by decide +kernel
theorem dX8_chance_28 : decode cX8_chance 28 = .ok (.ldc2_w 150, 3) := by decide +kernel
theorem dX8_chance_31 : decode cX8_chance 31 = .ok (.lreturn, 1) := by decide +kernel
theorem dX8_chance_32 : decode cX8_chance 32 = .ok (.aload_n 0, 1) := by decide +kernel
theorem dX8_chance_33 : decode cX8_chance 33 = .ok (.getfield 28, 3) := by decide +kernel
theorem dX8_chance_36 : decode cX8_chance 36 = .ok (.invokevirtual 152, 3) := by decide +kernel
theorem dX8_chance_39 : decode cX8_chance 39 = .ok (.aload_n 0, 1) := by decide +kernel
theorem dX8_chance_40 : decode cX8_chance 40 = .ok (.getfield 46, 3) := by decide +kernel
theorem dX8_chance_43 : decode cX8_chance 43 = .ok (.aload_n 0, 1) := by decide +kernel
theorem dX8_chance_44 : decode cX8_chance 44 = .ok (.getfield 66, 3) := by decide +kernel
theorem dX8_chance_47 : decode cX8_chance 47 = .ok (.iload_n 1, 1) := by decide +kernel
theorem dX8_chance_48 : decode cX8_chance 48 = .ok (.aaload, 1) := by decide +kernel
theorem dX8_chance_49 : decode cX8_chance 49 = .ok (.invokevirtual 220, 3) := by decide +kernel
theorem dX8_chance_52 : decode cX8_chance 52 = .ok (.aload_n 0, 1) := by decide +kernel
theorem dX8_chance_53 : decode cX8_chance 53 = .ok (.getfield 46, 3) := by decide +kernel
theorem dX8_chance_56 : decode cX8_chance 56 = .ok (.getfield 230, 3) := by decide +kernel
theorem dX8_chance_59 : decode cX8_chance 59 = .ok (.aload_n 0, 1) := by decide +kernel
theorem dX8_chance_60 : decode cX8_chance 60 = .ok (.getfield 46, 3) := by decide +kernel
theorem dX8_chance_63 : decode cX8_chance 63 = .ok (.getfield 233, 3) := by decide +kernel
theorem dX8_chance_66 : decode cX8_chance 66 = .ok (.iload_n 2, 1) := by decide +kernel
theorem dX8_chance_67 : decode cX8_chance 67 = .ok (.invokestatic 163, 3) := by decide +kernel
theorem dX8_chance_70 : decode cX8_chance 70 = .ok (.lreturn, 1) := by decide +kernel
theorem dX8_seen_0 : decode cX8_seen 0 = .ok (.iload_n 2, 1) := by decide +kernel
theorem dX8_seen_1 : decode cX8_seen 1 = .ok (.bipush 12, 2) := by decide +kernel
theorem dX8_seen_3 : decode cX8_seen 3 = .ok (.invokestatic 75, 3) := by decide +kernel
theorem dX8_seen_6 : decode cX8_seen 6 = .ok (.ifCond .eq 11, 3) := by decide +kernel
theorem dX8_seen_9 : decode cX8_seen 9 = .ok (.iload_n 1, 1) := by decide +kernel
theorem dX8_seen_10 : decode cX8_seen 10 = .ok (.iload_n 2, 1) := by decide +kernel
theorem dX8_seen_11 : decode cX8_seen 11 = .ok (.invokestatic 75, 3) := by decide +kernel
theorem dX8_seen_14 : decode cX8_seen 14 = .ok (.ifCond .ne 5, 3) := by decide +kernel
theorem dX8_seen_17 : decode cX8_seen 17 = .ok (.iconst (-1), 1) := by decide +kernel
theorem dX8_seen_18 : decode cX8_seen 18 = .ok (.ireturn, 1) := by decide +kernel
theorem dX8_seen_19 : decode cX8_seen 19 = .ok (.iconst 0, 1) := by decide +kernel
theorem dX8_seen_20 : decode cX8_seen 20 = .ok (.istore_n 3, 1) := by decide +kernel
theorem dX8_seen_21 : decode cX8_seen 21 = .ok (.ldc2_w 236, 3) := by decide +kernel
theorem dX8_seen_24 : decode cX8_seen 24 = .ok (.lstore 4, 2) := by decide +kernel
theorem dX8_seen_26 : decode cX8_seen 26 = .ok (.iconst 0, 1) := by decide +kernel
theorem dX8_seen_27 : decode cX8_seen 27 = .ok (.istore 6, 2) := by decide +kernel
theorem dX8_seen_29 : decode cX8_seen 29 = .ok (.iload 6, 2) := by decide +kernel
theorem dX8_seen_31 : decode cX8_seen 31 = .ok (.bipush 12, 2) := by decide +kernel
theorem dX8_seen_33 : decode cX8_seen 33 = .ok (.if_icmp .gt 44, 3) := by decide +kernel
theorem dX8_seen_36 : decode cX8_seen 36 = .ok (.iload 6, 2) := by decide +kernel
theorem dX8_seen_38 : decode cX8_seen 38 = .ok (.iload_n 1, 1) := by decide +kernel
theorem dX8_seen_39 : decode cX8_seen 39 = .ok (.invokestatic 238, 3) := by decide +kernel
theorem dX8_seen_42 : decode cX8_seen 42 = .ok (.bipush 12, 2) := by decide +kernel
theorem dX8_seen_44 : decode cX8_seen 44 = .ok (.iload 6, 2) := by decide +kernel
theorem dX8_seen_46 : decode cX8_seen 46 = .ok (.isub, 1) := by decide +kernel
theorem dX8_seen_47 : decode cX8_seen 47 = .ok (.iload_n 2, 1) := by decide +kernel
theorem dX8_seen_48 : decode cX8_seen 48 = .ok (.iload_n 1, 1) := by decide +kernel
theorem dX8_seen_49 : decode cX8_seen 49 = .ok (.isub, 1) := by decide +kernel
theorem dX8_seen_50 : decode cX8_seen 50 = .ok (.invokestatic 238, 3) := by decide +kernel
theorem dX8_seen_53 : decode cX8_seen 53 = .ok (.lmul, 1) := by decide +kernel
theorem dX8_seen_54 : decode cX8_seen 54 = .ok (.lstore 7, 2) := by decide +kernel
theorem dX8_seen_56 : decode cX8_seen 56 = .ok (.lload 7, 2) := by decide +kernel
theorem dX8_seen_58 : decode cX8_seen 58 = .ok (.lload 4, 2) := by decide +kernel
theorem dX8_seen_60 : decode cX8_seen 60 = .ok (.lcmp, 1) := by decide +kernel
theorem dX8_seen_61 : decode cX8_seen 61 = .ok (.ifCond .le 10, 3) := by decide +kernel
theorem dX8_seen_64 : decode cX8_seen 64 = .ok (.lload 7, 2) := by decide +kernel
theorem dX8_seen_66 : decode cX8_seen 66 = .ok (.lstore 4, 2) := by decide +kernel
theorem dX8_seen_68 : decode cX8_seen 68 = .ok (.iload 6, 2) := by decide +kernel
theorem dX8_seen_70 : decode cX8_seen 70 = .ok (.istore_n 3, 1) := by decide +kernel
theorem dX8_seen_71 : decode cX8_seen 71 = .ok (.iinc 6 1, 3) := by decide +kernel
theorem dX8_seen_74 : decode cX8_seen 74 = .ok (.goto (-45), 3) := by decide +kernel
theorem dX8_seen_77 : decode cX8_seen 77 = .ok (.iload_n 3, 1) := by decide +kernel
theorem dX8_seen_78 : decode cX8_seen 78 = .ok (.ireturn, 1) := by decide +kernel
theorem dX8_drawn_0 : decode cX8_drawn 0 = .ok (.iload_n 2, 1) := by decide +kernel
theorem dX8_drawn_1 : decode cX8_drawn 1 = .ok (.iconst 1, 1) := by decide +kernel
theorem dX8_drawn_2 : decode cX8_drawn 2 = .ok (.if_icmp .lt 20, 3) := by decide +kernel
theorem dX8_drawn_5 : decode cX8_drawn 5 = .ok (.iload_n 2, 1) := by decide +kernel
theorem dX8_drawn_6 : decode cX8_drawn 6 = .ok (.bipush 30, 2) := by decide +kernel
theorem dX8_drawn_8 : decode cX8_drawn 8 = .ok (.if_icmp .gt 14, 3) := by decide +kernel
theorem dX8_drawn_11 : decode cX8_drawn 11 = .ok (.aload_n 0, 1) := by decide +kernel
theorem dX8_drawn_12 : decode cX8_drawn 12 = .ok (.getfield 10, 3) := by decide +kernel
theorem dX8_drawn_15 : decode cX8_drawn 15 = .ok (.iload_n 3, 1) := by decide +kernel
theorem dX8_drawn_16 : decode cX8_drawn 16 = .ok (.invokevirtual 101, 3) := by decide +kernel
theorem dX8_drawn_19 : decode cX8_drawn 19 = .ok (.ifCond .ne 5, 3) := by decide +kernel
theorem dX8_drawn_22 : decode cX8_drawn 22 = .ok (.iconst (-1), 1) := by decide +kernel
theorem dX8_drawn_23 : decode cX8_drawn 23 = .ok (.ireturn, 1) := by decide +kernel
theorem dX8_drawn_24 : decode cX8_drawn 24 = .ok (.aload_n 0, 1) := by decide +kernel
theorem dX8_drawn_25 : decode cX8_drawn 25 = .ok (.getfield 28, 3) := by decide +kernel
theorem dX8_drawn_28 : decode cX8_drawn 28 = .ok (.invokevirtual 152, 3) := by decide +kernel
theorem dX8_drawn_31 : decode cX8_drawn 31 = .ok (.iload_n 1, 1) := by decide +kernel
theorem dX8_drawn_32 : decode cX8_drawn 32 = .ok (.istore 4, 2) := by decide +kernel
theorem dX8_drawn_34 : decode cX8_drawn 34 = .ok (.iconst 0, 1) := by decide +kernel
theorem dX8_drawn_35 : decode cX8_drawn 35 = .ok (.istore 5, 2) := by decide +kernel
theorem dX8_drawn_37 : decode cX8_drawn 37 = .ok (.iconst 0, 1) := by decide +kernel
theorem dX8_drawn_38 : decode cX8_drawn 38 = .ok (.istore 6, 2) := by decide +kernel
theorem dX8_drawn_40 : decode cX8_drawn 40 = .ok (.iload 6, 2) := by decide +kernel
theorem dX8_drawn_42 : decode cX8_drawn 42 = .ok (.iload_n 2, 1) := by decide +kernel
theorem dX8_drawn_43 : decode cX8_drawn 43 = .ok (.if_icmp .ge 158, 3) := by decide +kernel
theorem dX8_drawn_46 : decode cX8_drawn 46 = .ok (.aload_n 0, 1) := by decide +kernel
theorem dX8_drawn_47 : decode cX8_drawn 47 = .ok (.getfield 10, 3) := by decide +kernel
theorem dX8_drawn_50 : decode cX8_drawn 50 = .ok (.invokevirtual 176, 3) := by decide +kernel
theorem dX8_drawn_53 : decode cX8_drawn 53 = .ok (.istore 7, 2) := by decide +kernel
theorem dX8_drawn_55 : decode cX8_drawn 55 = .ok (.aload_n 0, 1) := by decide +kernel
theorem dX8_drawn_56 : decode cX8_drawn 56 = .ok (.getfield 10, 3) := by decide +kernel
theorem dX8_drawn_59 : decode cX8_drawn 59 = .ok (.iload 7, 2) := by decide +kernel
theorem dX8_drawn_61 : decode cX8_drawn 61 = .ok (.invokevirtual 241, 3) := by decide +kernel
theorem dX8_drawn_64 : decode cX8_drawn 64 = .ok (.istore 8, 2) := by decide +kernel
theorem dX8_drawn_66 : decode cX8_drawn 66 = .ok (.iconst 0, 1) := by decide +kernel
theorem dX8_drawn_67 : decode cX8_drawn 67 = .ok (.istore 9, 2) := by decide +kernel
theorem dX8_drawn_69 : decode cX8_drawn 69 = .ok (.iload 9, 2) := by decide +kernel
theorem dX8_drawn_71 : decode cX8_drawn 71 = .ok (.aload_n 0, 1) := by decide +kernel
theorem dX8_drawn_72 : decode cX8_drawn 72 = .ok (.getfield 10, 3) := by decide +kernel
theorem dX8_drawn_75 : decode cX8_drawn 75 = .ok (.getfield 126, 3) := by decide +kernel
theorem dX8_drawn_78 : decode cX8_drawn 78 = .ok (.if_icmp .ge 106, 3) := by decide +kernel
theorem dX8_drawn_81 : decode cX8_drawn 81 = .ok (.aload_n 0, 1) := by decide +kernel
theorem dX8_drawn_82 : decode cX8_drawn 82 = .ok (.getfield 10, 3) := by decide +kernel
theorem dX8_drawn_85 : decode cX8_drawn 85 = .ok (.iload 7, 2) := by decide +kernel
theorem dX8_drawn_87 : decode cX8_drawn 87 = .ok (.iload 9, 2) := by decide +kernel
theorem dX8_drawn_89 : decode cX8_drawn 89 = .ok (.invokevirtual 244, 3) := by decide +kernel
theorem dX8_drawn_92 : decode cX8_drawn 92 = .ok (.ifCond .ne 92, 3) := by decide +kernel
theorem dX8_drawn_95 : decode cX8_drawn 95 = .ok (.aload_n 0, 1) := by decide +kernel
theorem dX8_drawn_96 : decode cX8_drawn 96 = .ok (.getfield 28, 3) := by decide +kernel
theorem dX8_drawn_99 : decode cX8_drawn 99 = .ok (.iload 9, 2) := by decide +kernel
theorem dX8_drawn_101 : decode cX8_drawn 101 = .ok (.iload 8, 2) := by decide +kernel
theorem dX8_drawn_103 : decode cX8_drawn 103 = .ok (.iload 7, 2) := by decide +kernel
theorem dX8_drawn_105 : decode cX8_drawn 105 = .ok (.invokevirtual 183, 3) := by decide +kernel
theorem dX8_drawn_108 : decode cX8_drawn 108 = .ok (.istore 10, 2) := by decide +kernel
theorem dX8_drawn_110 : decode cX8_drawn 110 = .ok (.iload 10, 2) := by decide +kernel
theorem dX8_drawn_112 : decode cX8_drawn 112 = .ok (.bipush (-2), 2) := by decide +kernel
theorem dX8_drawn_114 : decode cX8_drawn 114 = .ok (.if_icmp .eq 51, 3) := by decide +kernel
theorem dX8_drawn_117 : decode cX8_drawn 117 = .ok (.iload 4, 2) := by decide +kernel
theorem dX8_drawn_119 : decode cX8_drawn 119 = .ok (.ldc 247, 2) := by decide +kernel
theorem dX8_drawn_121 : decode cX8_drawn 121 = .ok (.imul, 1) := by decide +kernel
theorem dX8_drawn_122 : decode cX8_drawn 122 = .ok (.sipush 12345, 3) := by decide +kernel
theorem dX8_drawn_125 : decode cX8_drawn 125 = .ok (.iadd, 1) := by decide +kernel
theorem dX8_drawn_126 : decode cX8_drawn 126 = .ok (.istore 4, 2) := by decide +kernel
theorem dX8_drawn_128 : decode cX8_drawn 128 = .ok (.iload 4, 2) := by decide +kernel
theorem dX8_drawn_130 : decode cX8_drawn 130 = .ok (.bipush 8, 2) := by decide +kernel
theorem dX8_drawn_132 : decode cX8_drawn 132 = .ok (.iushr, 1) := by decide +kernel
theorem dX8_drawn_133 : decode cX8_drawn 133 = .ok (.bipush 12, 2) := by decide +kernel
theorem dX8_drawn_135 : decode cX8_drawn 135 = .ok (.irem, 1) := by decide +kernel
theorem dX8_drawn_136 : decode cX8_drawn 136 = .ok (.aload_n 0, 1) := by decide +kernel
theorem dX8_drawn_137 : decode cX8_drawn 137 = .ok (.getfield 28, 3) := by decide +kernel
theorem dX8_drawn_140 : decode cX8_drawn 140 = .ok (.iload 9, 2) := by decide +kernel
theorem dX8_drawn_142 : decode cX8_drawn 142 = .ok (.iload 8, 2) := by decide +kernel
theorem dX8_drawn_144 : decode cX8_drawn 144 = .ok (.iload 10, 2) := by decide +kernel
theorem dX8_drawn_146 : decode cX8_drawn 146 = .ok (.iload 7, 2) := by decide +kernel
theorem dX8_drawn_148 : decode cX8_drawn 148 = .ok (.invokevirtual 248, 3) := by decide +kernel
theorem dX8_drawn_151 : decode cX8_drawn 151 = .ok (.if_icmp .ge 14, 3) := by decide +kernel
theorem dX8_drawn_154 : decode cX8_drawn 154 = .ok (.iload 7, 2) := by decide +kernel
theorem dX8_drawn_156 : decode cX8_drawn 156 = .ok (.iconst 1, 1) := by decide +kernel
theorem dX8_drawn_157 : decode cX8_drawn 157 = .ok (.iload 10, 2) := by decide +kernel
theorem dX8_drawn_159 : decode cX8_drawn 159 = .ok (.ishl, 1) := by decide +kernel
theorem dX8_drawn_160 : decode cX8_drawn 160 = .ok (.iconst (-1), 1) := by decide +kernel
theorem dX8_drawn_161 : decode cX8_drawn 161 = .ok (.ixor, 1) := by decide +kernel
theorem dX8_drawn_162 : decode cX8_drawn 162 = .ok (.iand, 1) := by decide +kernel
theorem dX8_drawn_163 : decode cX8_drawn 163 = .ok (.istore 7, 2) := by decide +kernel
theorem dX8_drawn_165 : decode cX8_drawn 165 = .ok (.aload_n 0, 1) := by decide +kernel
theorem dX8_drawn_166 : decode cX8_drawn 166 = .ok (.getfield 10, 3) := by decide +kernel
theorem dX8_drawn_169 : decode cX8_drawn 169 = .ok (.iload 8, 2) := by decide +kernel
theorem dX8_drawn_171 : decode cX8_drawn 171 = .ok (.iload 7, 2) := by decide +kernel
theorem dX8_drawn_173 : decode cX8_drawn 173 = .ok (.invokevirtual 252, 3) := by decide +kernel
theorem dX8_drawn_176 : decode cX8_drawn 176 = .ok (.istore 8, 2) := by decide +kernel
theorem dX8_drawn_178 : decode cX8_drawn 178 = .ok (.iinc 9 1, 3) := by decide +kernel
theorem dX8_drawn_181 : decode cX8_drawn 181 = .ok (.goto (-112), 3) := by decide +kernel
theorem dX8_drawn_184 : decode cX8_drawn 184 = .ok (.iload 5, 2) := by decide +kernel
theorem dX8_drawn_186 : decode cX8_drawn 186 = .ok (.iload 7, 2) := by decide +kernel
theorem dX8_drawn_188 : decode cX8_drawn 188 = .ok (.iload_n 3, 1) := by decide +kernel
theorem dX8_drawn_189 : decode cX8_drawn 189 = .ok (.ishr, 1) := by decide +kernel
theorem dX8_drawn_190 : decode cX8_drawn 190 = .ok (.iconst 1, 1) := by decide +kernel
theorem dX8_drawn_191 : decode cX8_drawn 191 = .ok (.iand, 1) := by decide +kernel
theorem dX8_drawn_192 : decode cX8_drawn 192 = .ok (.iadd, 1) := by decide +kernel
theorem dX8_drawn_193 : decode cX8_drawn 193 = .ok (.istore 5, 2) := by decide +kernel
theorem dX8_drawn_195 : decode cX8_drawn 195 = .ok (.iinc 6 1, 3) := by decide +kernel
theorem dX8_drawn_198 : decode cX8_drawn 198 = .ok (.goto (-158), 3) := by decide +kernel
theorem dX8_drawn_201 : decode cX8_drawn 201 = .ok (.iload 5, 2) := by decide +kernel
theorem dX8_drawn_203 : decode cX8_drawn 203 = .ok (.ireturn, 1) := by decide +kernel
theorem dX8_step_0 : decode cX8_step 0 = .ok (.iload_n 1, 1) := by decide +kernel
theorem dX8_step_1 : decode cX8_step 1 = .ok (.bipush 11, 2) := by decide +kernel
theorem dX8_step_3 : decode cX8_step 3 = .ok (.invokestatic 75, 3) := by decide +kernel
theorem dX8_step_6 : decode cX8_step 6 = .ok (.ifCond .ne 5, 3) := by decide +kernel
theorem dX8_step_9 : decode cX8_step 9 = .ok (.iconst (-1), 1) := by decide +kernel
theorem dX8_step_10 : decode cX8_step 10 = .ok (.ireturn, 1) := by decide +kernel
theorem dX8_step_11 : decode cX8_step 11 = .ok (.aload_n 0, 1) := by decide +kernel
theorem dX8_step_12 : decode cX8_step 12 = .ok (.getfield 10, 3) := by decide +kernel
theorem dX8_step_15 : decode cX8_step 15 = .ok (.aload_n 0, 1) := by decide +kernel
theorem dX8_step_16 : decode cX8_step 16 = .ok (.getfield 37, 3) := by decide +kernel
theorem dX8_step_19 : decode cX8_step 19 = .ok (.getfield 132, 3) := by decide +kernel
theorem dX8_step_22 : decode cX8_step 22 = .ok (.aload_n 0, 1) := by decide +kernel
theorem dX8_step_23 : decode cX8_step 23 = .ok (.getfield 37, 3) := by decide +kernel
theorem dX8_step_26 : decode cX8_step 26 = .ok (.getfield 255, 3) := by decide +kernel
theorem dX8_step_29 : decode cX8_step 29 = .ok (.invokevirtual 244, 3) := by decide +kernel
theorem dX8_step_32 : decode cX8_step 32 = .ok (.ifCond .eq 6, 3) := by decide +kernel
theorem dX8_step_35 : decode cX8_step 35 = .ok (.bipush (-5), 2) := by decide +kernel
theorem dX8_step_37 : decode cX8_step 37 = .ok (.ireturn, 1) := by decide +kernel
theorem dX8_step_38 : decode cX8_step 38 = .ok (.aload_n 0, 1) := by decide +kernel
theorem dX8_step_39 : decode cX8_step 39 = .ok (.getfield 28, 3) := by decide +kernel
theorem dX8_step_42 : decode cX8_step 42 = .ok (.invokevirtual 152, 3) := by decide +kernel
theorem dX8_step_45 : decode cX8_step 45 = .ok (.aload_n 0, 1) := by decide +kernel
theorem dX8_step_46 : decode cX8_step 46 = .ok (.getfield 37, 3) := by decide +kernel
theorem dX8_step_49 : decode cX8_step 49 = .ok (.getfield 258, 3) := by decide +kernel
theorem dX8_step_52 : decode cX8_step 52 = .ok (.istore_n 2, 1) := by decide +kernel
theorem dX8_step_53 : decode cX8_step 53 = .ok (.aload_n 0, 1) := by decide +kernel
theorem dX8_step_54 : decode cX8_step 54 = .ok (.getfield 28, 3) := by decide +kernel
theorem dX8_step_57 : decode cX8_step 57 = .ok (.aload_n 0, 1) := by decide +kernel
theorem dX8_step_58 : decode cX8_step 58 = .ok (.getfield 37, 3) := by decide +kernel
theorem dX8_step_61 : decode cX8_step 61 = .ok (.getfield 255, 3) := by decide +kernel
theorem dX8_step_64 : decode cX8_step 64 = .ok (.iload_n 2, 1) := by decide +kernel
theorem dX8_step_65 : decode cX8_step 65 = .ok (.aload_n 0, 1) := by decide +kernel
theorem dX8_step_66 : decode cX8_step 66 = .ok (.getfield 37, 3) := by decide +kernel
theorem dX8_step_69 : decode cX8_step 69 = .ok (.getfield 132, 3) := by decide +kernel
theorem dX8_step_72 : decode cX8_step 72 = .ok (.invokevirtual 183, 3) := by decide +kernel
theorem dX8_step_75 : decode cX8_step 75 = .ok (.istore_n 3, 1) := by decide +kernel
theorem dX8_step_76 : decode cX8_step 76 = .ok (.iload_n 3, 1) := by decide +kernel
theorem dX8_step_77 : decode cX8_step 77 = .ok (.bipush (-2), 2) := by decide +kernel
theorem dX8_step_79 : decode cX8_step 79 = .ok (.if_icmp .eq 34, 3) := by decide +kernel
theorem dX8_step_82 : decode cX8_step 82 = .ok (.iload_n 1, 1) := by decide +kernel
theorem dX8_step_83 : decode cX8_step 83 = .ok (.aload_n 0, 1) := by decide +kernel
theorem dX8_step_84 : decode cX8_step 84 = .ok (.getfield 28, 3) := by decide +kernel
theorem dX8_step_87 : decode cX8_step 87 = .ok (.aload_n 0, 1) := by decide +kernel
theorem dX8_step_88 : decode cX8_step 88 = .ok (.getfield 37, 3) := by decide +kernel
theorem dX8_step_91 : decode cX8_step 91 = .ok (.getfield 255, 3) := by decide +kernel
theorem dX8_step_94 : decode cX8_step 94 = .ok (.iload_n 2, 1) := by decide +kernel
theorem dX8_step_95 : decode cX8_step 95 = .ok (.iload_n 3, 1) := by decide +kernel
theorem dX8_step_96 : decode cX8_step 96 = .ok (.aload_n 0, 1) := by decide +kernel
theorem dX8_step_97 : decode cX8_step 97 = .ok (.getfield 37, 3) := by decide +kernel
theorem dX8_step_100 : decode cX8_step 100 = .ok (.getfield 132, 3) := by decide +kernel
theorem dX8_step_103 : decode cX8_step 103 = .ok (.invokevirtual 248, 3) := by decide +kernel
theorem dX8_step_106 : decode cX8_step 106 = .ok (.if_icmp .ge 7, 3) := by decide +kernel
theorem dX8_step_109 : decode cX8_step 109 = .ok (.iconst 1, 1) := by decide +kernel
theorem dX8_step_110 : decode cX8_step 110 = .ok (.goto 4, 3) := by decide +kernel
theorem dX8_step_113 : decode cX8_step 113 = .ok (.iconst 0, 1) := by decide +kernel
theorem dX8_step_114 : decode cX8_step 114 = .ok (.istore 4, 2) := by decide +kernel
theorem dX8_step_116 : decode cX8_step 116 = .ok (.aload_n 0, 1) := by decide +kernel
theorem dX8_step_117 : decode cX8_step 117 = .ok (.getfield 37, 3) := by decide +kernel
theorem dX8_step_120 : decode cX8_step 120 = .ok (.iload_n 3, 1) := by decide +kernel
theorem dX8_step_121 : decode cX8_step 121 = .ok (.iload 4, 2) := by decide +kernel
theorem dX8_step_123 : decode cX8_step 123 = .ok (.invokevirtual 261, 3) := by decide +kernel
theorem dX8_step_126 : decode cX8_step 126 = .ok (.bipush 100, 2) := by decide +kernel
theorem dX8_step_128 : decode cX8_step 128 = .ok (.iload_n 2, 1) := by decide +kernel
theorem dX8_step_129 : decode cX8_step 129 = .ok (.imul, 1) := by decide +kernel
theorem dX8_step_130 : decode cX8_step 130 = .ok (.bipush 10, 2) := by decide +kernel
theorem dX8_step_132 : decode cX8_step 132 = .ok (.iload_n 3, 1) := by decide +kernel
theorem dX8_step_133 : decode cX8_step 133 = .ok (.bipush (-2), 2) := by decide +kernel
theorem dX8_step_135 : decode cX8_step 135 = .ok (.if_icmp .ne 8, 3) := by decide +kernel
theorem dX8_step_138 : decode cX8_step 138 = .ok (.bipush 9, 2) := by decide +kernel
theorem dX8_step_140 : decode cX8_step 140 = .ok (.goto 4, 3) := by decide +kernel
theorem dX8_step_143 : decode cX8_step 143 = .ok (.iload_n 3, 1) := by decide +kernel
theorem dX8_step_144 : decode cX8_step 144 = .ok (.imul, 1) := by decide +kernel
theorem dX8_step_145 : decode cX8_step 145 = .ok (.iadd, 1) := by decide +kernel
theorem dX8_step_146 : decode cX8_step 146 = .ok (.iload 4, 2) := by decide +kernel
theorem dX8_step_148 : decode cX8_step 148 = .ok (.ifCond .eq 7, 3) := by decide +kernel
theorem dX8_step_151 : decode cX8_step 151 = .ok (.iconst 1, 1) := by decide +kernel
theorem dX8_step_152 : decode cX8_step 152 = .ok (.goto 4, 3) := by decide +kernel
theorem dX8_step_155 : decode cX8_step 155 = .ok (.iconst 0, 1) := by decide +kernel
theorem dX8_step_156 : decode cX8_step 156 = .ok (.iadd, 1) := by decide +kernel
theorem dX8_step_157 : decode cX8_step 157 = .ok (.ireturn, 1) := by decide +kernel
theorem dX8_anew_0 : decode cX8_anew 0 = .ok (.aload_n 0, 1) := by decide +kernel
theorem dX8_anew_1 : decode cX8_anew 1 = .ok (.getfield 37, 3) := by decide +kernel
theorem dX8_anew_4 : decode cX8_anew 4 = .ok (.getfield 255, 3) := by decide +kernel
theorem dX8_anew_7 : decode cX8_anew 7 = .ok (.istore_n 1, 1) := by decide +kernel
theorem dX8_anew_8 : decode cX8_anew 8 = .ok (.aload_n 0, 1) := by decide +kernel
theorem dX8_anew_9 : decode cX8_anew 9 = .ok (.getfield 37, 3) := by decide +kernel
theorem dX8_anew_12 : decode cX8_anew 12 = .ok (.invokevirtual 265, 3) := by decide +kernel
theorem dX8_anew_15 : decode cX8_anew 15 = .ok (.iload_n 1, 1) := by decide +kernel
theorem dX8_anew_16 : decode cX8_anew 16 = .ok (.ireturn, 1) := by decide +kernel
theorem dX8_image_0 : decode cX8_image 0 = .ok (.aload_n 0, 1) := by decide +kernel
theorem dX8_image_1 : decode cX8_image 1 = .ok (.getfield 37, 3) := by decide +kernel
theorem dX8_image_4 : decode cX8_image 4 = .ok (.invokevirtual 268, 3) := by decide +kernel
theorem dX8_image_7 : decode cX8_image 7 = .ok (.aload_n 0, 1) := by decide +kernel
theorem dX8_image_8 : decode cX8_image 8 = .ok (.getfield 37, 3) := by decide +kernel
theorem dX8_image_11 : decode cX8_image 11 = .ok (.getfield 255, 3) := by decide +kernel
theorem dX8_image_14 : decode cX8_image 14 = .ok (.ireturn, 1) := by decide +kernel
theorem dX8_back_0 : decode cX8_back 0 = .ok (.aload_n 0, 1) := by decide +kernel
theorem dX8_back_1 : decode cX8_back 1 = .ok (.getfield 37, 3) := by decide +kernel
theorem dX8_back_4 : decode cX8_back 4 = .ok (.invokevirtual 271, 3) := by decide +kernel
theorem dX8_back_7 : decode cX8_back 7 = .ok (.ifCond .eq 13, 3) := by decide +kernel
theorem dX8_back_10 : decode cX8_back 10 = .ok (.aload_n 0, 1) := by decide +kernel
theorem dX8_back_11 : decode cX8_back 11 = .ok (.getfield 37, 3) := by decide +kernel
theorem dX8_back_14 : decode cX8_back 14 = .ok (.getfield 255, 3) := by decide +kernel
theorem dX8_back_17 : decode cX8_back 17 = .ok (.goto 5, 3) := by decide +kernel
theorem dX8_back_20 : decode cX8_back 20 = .ok (.bipush (-5), 2) := by decide +kernel
theorem dX8_back_22 : decode cX8_back 22 = .ok (.ireturn, 1) := by decide +kernel
theorem dX8_undo_0 : decode cX8_undo 0 = .ok (.aload_n 0, 1) := by decide +kernel
theorem dX8_undo_1 : decode cX8_undo 1 = .ok (.getfield 53, 3) := by decide +kernel
theorem dX8_undo_4 : decode cX8_undo 4 = .ok (.invokevirtual 275, 3) := by decide +kernel
theorem dX8_undo_7 : decode cX8_undo 7 = .ok (.istore_n 1, 1) := by decide +kernel
theorem dX8_undo_8 : decode cX8_undo 8 = .ok (.iload_n 1, 1) := by decide +kernel
theorem dX8_undo_9 : decode cX8_undo 9 = .ok (.bipush (-2), 2) := by decide +kernel
theorem dX8_undo_11 : decode cX8_undo 11 = .ok (.if_icmp .ne 6, 3) := by decide +kernel
theorem dX8_undo_14 : decode cX8_undo 14 = .ok (.bipush (-5), 2) := by decide +kernel
theorem dX8_undo_16 : decode cX8_undo 16 = .ok (.ireturn, 1) := by decide +kernel
theorem dX8_undo_17 : decode cX8_undo 17 = .ok (.aload_n 0, 1) := by decide +kernel
theorem dX8_undo_18 : decode cX8_undo 18 = .ok (.aload_n 0, 1) := by decide +kernel
theorem dX8_undo_19 : decode cX8_undo 19 = .ok (.getfield 53, 3) := by decide +kernel
theorem dX8_undo_22 : decode cX8_undo 22 = .ok (.getfield 278, 3) := by decide +kernel
theorem dX8_undo_25 : decode cX8_undo 25 = .ok (.iload_n 1, 1) := by decide +kernel
theorem dX8_undo_26 : decode cX8_undo 26 = .ok (.iaload, 1) := by decide +kernel
theorem dX8_undo_27 : decode cX8_undo 27 = .ok (.aload_n 0, 1) := by decide +kernel
theorem dX8_undo_28 : decode cX8_undo 28 = .ok (.getfield 53, 3) := by decide +kernel
theorem dX8_undo_31 : decode cX8_undo 31 = .ok (.getfield 281, 3) := by decide +kernel
theorem dX8_undo_34 : decode cX8_undo 34 = .ok (.iload_n 1, 1) := by decide +kernel
theorem dX8_undo_35 : decode cX8_undo 35 = .ok (.iaload, 1) := by decide +kernel
theorem dX8_undo_36 : decode cX8_undo 36 = .ok (.aload_n 0, 1) := by decide +kernel
theorem dX8_undo_37 : decode cX8_undo 37 = .ok (.getfield 53, 3) := by decide +kernel
theorem dX8_undo_40 : decode cX8_undo 40 = .ok (.getfield 284, 3) := by decide +kernel
theorem dX8_undo_43 : decode cX8_undo 43 = .ok (.iload_n 1, 1) := by decide +kernel
theorem dX8_undo_44 : decode cX8_undo 44 = .ok (.iaload, 1) := by decide +kernel
theorem dX8_undo_45 : decode cX8_undo 45 = .ok (.invokevirtual 116, 3) := by decide +kernel
theorem dX8_undo_48 : decode cX8_undo 48 = .ok (.aload_n 0, 1) := by decide +kernel
theorem dX8_undo_49 : decode cX8_undo 49 = .ok (.getfield 53, 3) := by decide +kernel
theorem dX8_undo_52 : decode cX8_undo 52 = .ok (.getfield 287, 3) := by decide +kernel
theorem dX8_undo_55 : decode cX8_undo 55 = .ok (.ireturn, 1) := by decide +kernel
theorem dX8_redo_0 : decode cX8_redo 0 = .ok (.aload_n 0, 1) := by decide +kernel
theorem dX8_redo_1 : decode cX8_redo 1 = .ok (.getfield 53, 3) := by decide +kernel
theorem dX8_redo_4 : decode cX8_redo 4 = .ok (.invokevirtual 290, 3) := by decide +kernel
theorem dX8_redo_7 : decode cX8_redo 7 = .ok (.istore_n 1, 1) := by decide +kernel
theorem dX8_redo_8 : decode cX8_redo 8 = .ok (.iload_n 1, 1) := by decide +kernel
theorem dX8_redo_9 : decode cX8_redo 9 = .ok (.bipush (-2), 2) := by decide +kernel
theorem dX8_redo_11 : decode cX8_redo 11 = .ok (.if_icmp .ne 6, 3) := by decide +kernel
theorem dX8_redo_14 : decode cX8_redo 14 = .ok (.bipush (-5), 2) := by decide +kernel
theorem dX8_redo_16 : decode cX8_redo 16 = .ok (.ireturn, 1) := by decide +kernel
theorem dX8_redo_17 : decode cX8_redo 17 = .ok (.aload_n 0, 1) := by decide +kernel
theorem dX8_redo_18 : decode cX8_redo 18 = .ok (.aload_n 0, 1) := by decide +kernel
theorem dX8_redo_19 : decode cX8_redo 19 = .ok (.getfield 53, 3) := by decide +kernel
theorem dX8_redo_22 : decode cX8_redo 22 = .ok (.getfield 278, 3) := by decide +kernel
theorem dX8_redo_25 : decode cX8_redo 25 = .ok (.iload_n 1, 1) := by decide +kernel
theorem dX8_redo_26 : decode cX8_redo 26 = .ok (.iaload, 1) := by decide +kernel
theorem dX8_redo_27 : decode cX8_redo 27 = .ok (.aload_n 0, 1) := by decide +kernel
theorem dX8_redo_28 : decode cX8_redo 28 = .ok (.getfield 53, 3) := by decide +kernel
theorem dX8_redo_31 : decode cX8_redo 31 = .ok (.getfield 281, 3) := by decide +kernel
theorem dX8_redo_34 : decode cX8_redo 34 = .ok (.iload_n 1, 1) := by decide +kernel
theorem dX8_redo_35 : decode cX8_redo 35 = .ok (.iaload, 1) := by decide +kernel
theorem dX8_redo_36 : decode cX8_redo 36 = .ok (.aload_n 0, 1) := by decide +kernel
theorem dX8_redo_37 : decode cX8_redo 37 = .ok (.getfield 53, 3) := by decide +kernel
theorem dX8_redo_40 : decode cX8_redo 40 = .ok (.getfield 293, 3) := by decide +kernel
theorem dX8_redo_43 : decode cX8_redo 43 = .ok (.iload_n 1, 1) := by decide +kernel
theorem dX8_redo_44 : decode cX8_redo 44 = .ok (.iaload, 1) := by decide +kernel
theorem dX8_redo_45 : decode cX8_redo 45 = .ok (.invokevirtual 116, 3) := by decide +kernel
theorem dX8_redo_48 : decode cX8_redo 48 = .ok (.aload_n 0, 1) := by decide +kernel
theorem dX8_redo_49 : decode cX8_redo 49 = .ok (.getfield 53, 3) := by decide +kernel
theorem dX8_redo_52 : decode cX8_redo 52 = .ok (.getfield 296, 3) := by decide +kernel
theorem dX8_redo_55 : decode cX8_redo 55 = .ok (.aload_n 0, 1) := by decide +kernel
theorem dX8_redo_56 : decode cX8_redo 56 = .ok (.getfield 53, 3) := by decide +kernel
theorem dX8_redo_59 : decode cX8_redo 59 = .ok (.getfield 287, 3) := by decide +kernel
theorem dX8_redo_62 : decode cX8_redo 62 = .ok (.isub, 1) := by decide +kernel
theorem dX8_redo_63 : decode cX8_redo 63 = .ok (.ireturn, 1) := by decide +kernel
theorem dX8_body_0 : decode cX8_body 0 = .ok (.iload_n 1, 1) := by decide +kernel
theorem dX8_body_1 : decode cX8_body 1 = .ok (.bipush 7, 2) := by decide +kernel
theorem dX8_body_3 : decode cX8_body 3 = .ok (.invokestatic 75, 3) := by decide +kernel
theorem dX8_body_6 : decode cX8_body 6 = .ok (.ifCond .eq 14, 3) := by decide +kernel
theorem dX8_body_9 : decode cX8_body 9 = .ok (.aload_n 0, 1) := by decide +kernel
theorem dX8_body_10 : decode cX8_body 10 = .ok (.getfield 60, 3) := by decide +kernel
theorem dX8_body_13 : decode cX8_body 13 = .ok (.iload_n 1, 1) := by decide +kernel
theorem dX8_body_14 : decode cX8_body 14 = .ok (.invokevirtual 299, 3) := by decide +kernel
theorem dX8_body_17 : decode cX8_body 17 = .ok (.goto 4, 3) := by decide +kernel
theorem dX8_body_20 : decode cX8_body 20 = .ok (.iconst (-1), 1) := by decide +kernel
theorem dX8_body_21 : decode cX8_body 21 = .ok (.ireturn, 1) := by decide +kernel
theorem dX8_act_0 : decode cX8_act 0 = .ok (.aload_n 0, 1) := by decide +kernel
theorem dX8_act_1 : decode cX8_act 1 = .ok (.getfield 60, 3) := by decide +kernel
theorem dX8_act_4 : decode cX8_act 4 = .ok (.iload_n 1, 1) := by decide +kernel
theorem dX8_act_5 : decode cX8_act 5 = .ok (.iload_n 2, 1) := by decide +kernel
theorem dX8_act_6 : decode cX8_act 6 = .ok (.iload_n 3, 1) := by decide +kernel
theorem dX8_act_7 : decode cX8_act 7 = .ok (.invokevirtual 301, 3) := by decide +kernel
theorem dX8_act_10 : decode cX8_act 10 = .ok (.ireturn, 1) := by decide +kernel
theorem dX8_trace_0 : decode cX8_trace 0 = .ok (.iload_n 1, 1) := by decide +kernel
theorem dX8_trace_1 : decode cX8_trace 1 = .ok (.aload_n 0, 1) := by decide +kernel
theorem dX8_trace_2 : decode cX8_trace 2 = .ok (.getfield 60, 3) := by decide +kernel
theorem dX8_trace_5 : decode cX8_trace 5 = .ok (.getfield 304, 3) := by decide +kernel
theorem dX8_trace_8 : decode cX8_trace 8 = .ok (.bipush 24, 2) := by decide +kernel
theorem dX8_trace_10 : decode cX8_trace 10 = .ok (.invokestatic 307, 3) := by decide +kernel
theorem dX8_trace_13 : decode cX8_trace 13 = .ok (.iconst 1, 1) := by decide +kernel
theorem dX8_trace_14 : decode cX8_trace 14 = .ok (.isub, 1) := by decide +kernel
theorem dX8_trace_15 : decode cX8_trace 15 = .ok (.invokestatic 75, 3) := by decide +kernel
theorem dX8_trace_18 : decode cX8_trace 18 = .ok (.ifCond .eq 15, 3) := by decide +kernel
theorem dX8_trace_21 : decode cX8_trace 21 = .ok (.aload_n 0, 1) := by decide +kernel
theorem dX8_trace_22 : decode cX8_trace 22 = .ok (.getfield 60, 3) := by decide +kernel
theorem dX8_trace_25 : decode cX8_trace 25 = .ok (.getfield 312, 3) := by decide +kernel
theorem dX8_trace_28 : decode cX8_trace 28 = .ok (.iload_n 1, 1) := by decide +kernel
theorem dX8_trace_29 : decode cX8_trace 29 = .ok (.iaload, 1) := by decide +kernel
theorem dX8_trace_30 : decode cX8_trace 30 = .ok (.goto 4, 3) := by decide +kernel
theorem dX8_trace_33 : decode cX8_trace 33 = .ok (.iconst (-1), 1) := by decide +kernel
theorem dX8_trace_34 : decode cX8_trace 34 = .ok (.ireturn, 1) := by decide +kernel
theorem dX8_keep_0 : decode cX8_keep 0 = .ok (.iload_n 1, 1) := by decide +kernel
theorem dX8_keep_1 : decode cX8_keep 1 = .ok (.iconst 5, 1) := by decide +kernel
theorem dX8_keep_2 : decode cX8_keep 2 = .ok (.invokestatic 75, 3) := by decide +kernel
theorem dX8_keep_5 : decode cX8_keep 5 = .ok (.ifCond .eq 19, 3) := by decide +kernel
theorem dX8_keep_8 : decode cX8_keep 8 = .ok (.iload_n 2, 1) := by decide +kernel
theorem dX8_keep_9 : decode cX8_keep 9 = .ok (.iconst (-1), 1) := by decide +kernel
theorem dX8_keep_10 : decode cX8_keep 10 = .ok (.if_icmp .lt 14, 3) := by decide +kernel
theorem dX8_keep_13 : decode cX8_keep 13 = .ok (.iload_n 2, 1) := by decide +kernel
theorem dX8_keep_14 : decode cX8_keep 14 = .ok (.aload_n 0, 1) := by decide +kernel
theorem dX8_keep_15 : decode cX8_keep 15 = .ok (.getfield 60, 3) := by decide +kernel
theorem dX8_keep_18 : decode cX8_keep 18 = .ok (.getfield 315, 3) := by decide +kernel
theorem dX8_keep_21 : decode cX8_keep 21 = .ok (.if_icmp .lt 5, 3) := by decide +kernel
theorem dX8_keep_24 : decode cX8_keep 24 = .ok (.iconst (-1), 1) := by decide +kernel
theorem dX8_keep_25 : decode cX8_keep 25 = .ok (.ireturn, 1) := by decide +kernel
theorem dX8_keep_26 : decode cX8_keep 26 = .ok (.aload_n 0, 1) := by decide +kernel
theorem dX8_keep_27 : decode cX8_keep 27 = .ok (.getfield 66, 3) := by decide +kernel
theorem dX8_keep_30 : decode cX8_keep 30 = .ok (.iload_n 1, 1) := by decide +kernel
theorem dX8_keep_31 : decode cX8_keep 31 = .ok (.aaload, 1) := by decide +kernel
theorem dX8_keep_32 : decode cX8_keep 32 = .ok (.iload_n 2, 1) := by decide +kernel
theorem dX8_keep_33 : decode cX8_keep 33 = .ok (.invokevirtual 316, 3) := by decide +kernel
theorem dX8_keep_36 : decode cX8_keep 36 = .ok (.iconst 1, 1) := by decide +kernel
theorem dX8_keep_37 : decode cX8_keep 37 = .ok (.ireturn, 1) := by decide +kernel
theorem dX8_row_0 : decode cX8_row 0 = .ok (.iload_n 1, 1) := by decide +kernel
theorem dX8_row_1 : decode cX8_row 1 = .ok (.iconst 5, 1) := by decide +kernel
theorem dX8_row_2 : decode cX8_row 2 = .ok (.invokestatic 75, 3) := by decide +kernel
theorem dX8_row_5 : decode cX8_row 5 = .ok (.ifCond .eq 17, 3) := by decide +kernel
theorem dX8_row_8 : decode cX8_row 8 = .ok (.iload_n 2, 1) := by decide +kernel
theorem dX8_row_9 : decode cX8_row 9 = .ok (.iconst 4, 1) := by decide +kernel
theorem dX8_row_10 : decode cX8_row 10 = .ok (.invokestatic 75, 3) := by decide +kernel
theorem dX8_row_13 : decode cX8_row 13 = .ok (.ifCond .eq 9, 3) := by decide +kernel
theorem dX8_row_16 : decode cX8_row 16 = .ok (.iload_n 3, 1) := by decide +kernel
theorem dX8_row_17 : decode cX8_row 17 = .ok (.bipush 60, 2) := by decide +kernel
theorem dX8_row_19 : decode cX8_row 19 = .ok (.if_icmp .le 5, 3) := by decide +kernel
theorem dX8_row_22 : decode cX8_row 22 = .ok (.iconst (-1), 1) := by decide +kernel
theorem dX8_row_23 : decode cX8_row 23 = .ok (.ireturn, 1) := by decide +kernel
theorem dX8_row_24 : decode cX8_row 24 = .ok (.iload_n 3, 1) := by decide +kernel
theorem dX8_row_25 : decode cX8_row 25 = .ok (.ifCond .ge 6, 3) := by decide +kernel
theorem dX8_row_28 : decode cX8_row 28 = .ok (.bipush (-14), 2) := by decide +kernel
theorem dX8_row_30 : decode cX8_row 30 = .ok (.ireturn, 1) := by decide +kernel
theorem dX8_row_31 : decode cX8_row 31 = .ok (.aload_n 0, 1) := by decide +kernel
theorem dX8_row_32 : decode cX8_row 32 = .ok (.getfield 66, 3) := by decide +kernel
theorem dX8_row_35 : decode cX8_row 35 = .ok (.iload_n 1, 1) := by decide +kernel
theorem dX8_row_36 : decode cX8_row 36 = .ok (.aaload, 1) := by decide +kernel
theorem dX8_row_37 : decode cX8_row 37 = .ok (.iload_n 2, 1) := by decide +kernel
theorem dX8_row_38 : decode cX8_row 38 = .ok (.iload_n 3, 1) := by decide +kernel
theorem dX8_row_39 : decode cX8_row 39 = .ok (.invokevirtual 320, 3) := by decide +kernel
theorem dX8_row_42 : decode cX8_row 42 = .ok (.iconst 1, 1) := by decide +kernel
theorem dX8_row_43 : decode cX8_row 43 = .ok (.ireturn, 1) := by decide +kernel
theorem dX8_put_0 : decode cX8_put 0 = .ok (.aload_n 0, 1) := by decide +kernel
theorem dX8_put_1 : decode cX8_put 1 = .ok (.iload_n 1, 1) := by decide +kernel
theorem dX8_put_2 : decode cX8_put 2 = .ok (.iload_n 2, 1) := by decide +kernel
theorem dX8_put_3 : decode cX8_put 3 = .ok (.invokevirtual 324, 3) := by decide +kernel
theorem dX8_put_6 : decode cX8_put 6 = .ok (.istore 5, 2) := by decide +kernel
theorem dX8_put_8 : decode cX8_put 8 = .ok (.iload 5, 2) := by decide +kernel
theorem dX8_put_10 : decode cX8_put 10 = .ok (.ifCond .eq 6, 3) := by decide +kernel
theorem dX8_put_13 : decode cX8_put 13 = .ok (.iload 5, 2) := by decide +kernel
theorem dX8_put_15 : decode cX8_put 15 = .ok (.ireturn, 1) := by decide +kernel
theorem dX8_put_16 : decode cX8_put 16 = .ok (.aload_n 0, 1) := by decide +kernel
theorem dX8_put_17 : decode cX8_put 17 = .ok (.getfield 66, 3) := by decide +kernel
theorem dX8_put_20 : decode cX8_put 20 = .ok (.iload_n 1, 1) := by decide +kernel
theorem dX8_put_21 : decode cX8_put 21 = .ok (.aaload, 1) := by decide +kernel
theorem dX8_put_22 : decode cX8_put 22 = .ok (.iload_n 2, 1) := by decide +kernel
theorem dX8_put_23 : decode cX8_put 23 = .ok (.lload_n 3, 1) := by decide +kernel
theorem dX8_put_24 : decode cX8_put 24 = .ok (.invokevirtual 327, 3) := by decide +kernel
theorem dX8_put_27 : decode cX8_put 27 = .ok (.iconst 1, 1) := by decide +kernel
theorem dX8_put_28 : decode cX8_put 28 = .ok (.ireturn, 1) := by decide +kernel
theorem dX8_element_0 : decode cX8_element 0 = .ok (.aload_n 0, 1) := by decide +kernel
theorem dX8_element_1 : decode cX8_element 1 = .ok (.iload_n 1, 1) := by decide +kernel
theorem dX8_element_2 : decode cX8_element 2 = .ok (.iload_n 2, 1) := by decide +kernel
theorem dX8_element_3 : decode cX8_element 3 = .ok (.invokevirtual 324, 3) := by decide +kernel
theorem dX8_element_6 : decode cX8_element 6 = .ok (.ifCond .eq 9, 3) := by decide +kernel
theorem dX8_element_9 : decode cX8_element 9 = .ok (.ldc2_w 150, 3) := by decide +kernel
theorem dX8_element_12 : decode cX8_element 12 = .ok (.goto 14, 3) := by decide +kernel
theorem dX8_element_15 : decode cX8_element 15 = .ok (.aload_n 0, 1) := by decide +kernel
theorem dX8_element_16 : decode cX8_element 16 = .ok (.getfield 66, 3) := by decide +kernel
theorem dX8_element_19 : decode cX8_element 19 = .ok (.iload_n 1, 1) := by decide +kernel
theorem dX8_element_20 : decode cX8_element 20 = .ok (.aaload, 1) := by decide +kernel
theorem dX8_element_21 : decode cX8_element 21 = .ok (.getfield 93, 3) := by decide +kernel
theorem dX8_element_24 : decode cX8_element 24 = .ok (.iload_n 2, 1) := by decide +kernel
theorem dX8_element_25 : decode cX8_element 25 = .ok (.laload, 1) := by decide +kernel
theorem dX8_element_26 : decode cX8_element 26 = .ok (.lreturn, 1) := by decide +kernel
theorem dX8_shift_0 : decode cX8_shift 0 = .ok (.iload_n 1, 1) := by decide +kernel
theorem dX8_shift_1 : decode cX8_shift 1 = .ok (.iconst 5, 1) := by decide +kernel
theorem dX8_shift_2 : decode cX8_shift 2 = .ok (.invokestatic 75, 3) := by decide +kernel
theorem dX8_shift_5 : decode cX8_shift 5 = .ok (.ifCond .eq 11, 3) := by decide +kernel
theorem dX8_shift_8 : decode cX8_shift 8 = .ok (.iload_n 3, 1) := by decide +kernel
theorem dX8_shift_9 : decode cX8_shift 9 = .ok (.iconst 5, 1) := by decide +kernel
theorem dX8_shift_10 : decode cX8_shift 10 = .ok (.invokestatic 75, 3) := by decide +kernel
theorem dX8_shift_13 : decode cX8_shift 13 = .ok (.ifCond .ne 5, 3) := by decide +kernel
theorem dX8_shift_16 : decode cX8_shift 16 = .ok (.iconst (-1), 1) := by decide +kernel
theorem dX8_shift_17 : decode cX8_shift 17 = .ok (.ireturn, 1) := by decide +kernel
theorem dX8_shift_18 : decode cX8_shift 18 = .ok (.aload_n 0, 1) := by decide +kernel
theorem dX8_shift_19 : decode cX8_shift 19 = .ok (.getfield 66, 3) := by decide +kernel
theorem dX8_shift_22 : decode cX8_shift 22 = .ok (.iload_n 1, 1) := by decide +kernel
theorem dX8_shift_23 : decode cX8_shift 23 = .ok (.aaload, 1) := by decide +kernel
theorem dX8_shift_24 : decode cX8_shift 24 = .ok (.astore 6, 2) := by decide +kernel
theorem dX8_shift_26 : decode cX8_shift 26 = .ok (.aload_n 0, 1) := by decide +kernel
theorem dX8_shift_27 : decode cX8_shift 27 = .ok (.getfield 66, 3) := by decide +kernel
theorem dX8_shift_30 : decode cX8_shift 30 = .ok (.iload_n 3, 1) := by decide +kernel
theorem dX8_shift_31 : decode cX8_shift 31 = .ok (.aaload, 1) := by decide +kernel
theorem dX8_shift_32 : decode cX8_shift 32 = .ok (.astore 7, 2) := by decide +kernel
theorem dX8_shift_34 : decode cX8_shift 34 = .ok (.aload 6, 2) := by decide +kernel
theorem dX8_shift_36 : decode cX8_shift 36 = .ok (.getfield 87, 3) := by decide +kernel
theorem dX8_shift_39 : decode cX8_shift 39 = .ok (.bipush (-2), 2) := by decide +kernel
theorem dX8_shift_41 : decode cX8_shift 41 = .ok (.if_icmp .eq 13, 3) := by decide +kernel
theorem dX8_shift_44 : decode cX8_shift 44 = .ok (.aload 7, 2) := by decide +kernel
theorem dX8_shift_46 : decode cX8_shift 46 = .ok (.getfield 87, 3) := by decide +kernel
theorem dX8_shift_49 : decode cX8_shift 49 = .ok (.bipush (-2), 2) := by decide +kernel
theorem dX8_shift_51 : decode cX8_shift 51 = .ok (.if_icmp .ne 6, 3) := by decide +kernel
theorem dX8_shift_54 : decode cX8_shift 54 = .ok (.bipush (-11), 2) := by decide +kernel
theorem dX8_shift_56 : decode cX8_shift 56 = .ok (.ireturn, 1) := by decide +kernel
theorem dX8_shift_57 : decode cX8_shift 57 = .ok (.aload 6, 2) := by decide +kernel
theorem dX8_shift_59 : decode cX8_shift 59 = .ok (.getfield 87, 3) := by decide +kernel
theorem dX8_shift_62 : decode cX8_shift 62 = .ok (.aload 7, 2) := by decide +kernel
theorem dX8_shift_64 : decode cX8_shift 64 = .ok (.getfield 87, 3) := by decide +kernel
theorem dX8_shift_67 : decode cX8_shift 67 = .ok (.if_icmp .ne 12, 3) := by decide +kernel
theorem dX8_shift_70 : decode cX8_shift 70 = .ok (.aload 6, 2) := by decide +kernel
theorem dX8_shift_72 : decode cX8_shift 72 = .ok (.getfield 87, 3) := by decide +kernel
theorem dX8_shift_75 : decode cX8_shift 75 = .ok (.iconst (-1), 1) := by decide +kernel
theorem dX8_shift_76 : decode cX8_shift 76 = .ok (.if_icmp .ne 6, 3) := by decide +kernel
theorem dX8_shift_79 : decode cX8_shift 79 = .ok (.bipush (-12), 2) := by decide +kernel
theorem dX8_shift_81 : decode cX8_shift 81 = .ok (.ireturn, 1) := by decide +kernel
theorem dX8_shift_82 : decode cX8_shift 82 = .ok (.iload 5, 2) := by decide +kernel
theorem dX8_shift_84 : decode cX8_shift 84 = .ok (.ifCond .lt 37, 3) := by decide +kernel
theorem dX8_shift_87 : decode cX8_shift 87 = .ok (.iload_n 2, 1) := by decide +kernel
theorem dX8_shift_88 : decode cX8_shift 88 = .ok (.ifCond .lt 33, 3) := by decide +kernel
theorem dX8_shift_91 : decode cX8_shift 91 = .ok (.iload 4, 2) := by decide +kernel
theorem dX8_shift_93 : decode cX8_shift 93 = .ok (.ifCond .lt 28, 3) := by decide +kernel
theorem dX8_shift_96 : decode cX8_shift 96 = .ok (.iload_n 2, 1) := by decide +kernel
theorem dX8_shift_97 : decode cX8_shift 97 = .ok (.aload 6, 2) := by decide +kernel
theorem dX8_shift_99 : decode cX8_shift 99 = .ok (.getfield 90, 3) := by decide +kernel
theorem dX8_shift_102 : decode cX8_shift 102 = .ok (.iload 5, 2) := by decide +kernel
theorem dX8_shift_104 : decode cX8_shift 104 = .ok (.isub, 1) := by decide +kernel
theorem dX8_shift_105 : decode cX8_shift 105 = .ok (.if_icmp .gt 16, 3) := by decide +kernel
theorem dX8_shift_108 : decode cX8_shift 108 = .ok (.iload 4, 2) := by decide +kernel
theorem dX8_shift_110 : decode cX8_shift 110 = .ok (.aload 7, 2) := by decide +kernel
theorem dX8_shift_112 : decode cX8_shift 112 = .ok (.getfield 90, 3) := by decide +kernel
theorem dX8_shift_115 : decode cX8_shift 115 = .ok (.iload 5, 2) := by decide +kernel
theorem dX8_shift_117 : decode cX8_shift 117 = .ok (.isub, 1) := by decide +kernel
theorem dX8_shift_118 : decode cX8_shift 118 = .ok (.if_icmp .le 6, 3) := by decide +kernel
theorem dX8_shift_121 : decode cX8_shift 121 = .ok (.bipush (-13), 2) := by decide +kernel
theorem dX8_shift_123 : decode cX8_shift 123 = .ok (.ireturn, 1) := by decide +kernel
theorem dX8_shift_124 : decode cX8_shift 124 = .ok (.aload 6, 2) := by decide +kernel
theorem dX8_shift_126 : decode cX8_shift 126 = .ok (.getfield 93, 3) := by decide +kernel
theorem dX8_shift_129 : decode cX8_shift 129 = .ok (.iload_n 2, 1) := by decide +kernel
theorem dX8_shift_130 : decode cX8_shift 130 = .ok (.aload 7, 2) := by decide +kernel
theorem dX8_shift_132 : decode cX8_shift 132 = .ok (.getfield 93, 3) := by decide +kernel
theorem dX8_shift_135 : decode cX8_shift 135 = .ok (.iload 4, 2) := by decide +kernel
theorem dX8_shift_137 : decode cX8_shift 137 = .ok (.iload 5, 2) := by decide +kernel
theorem dX8_shift_139 : decode cX8_shift 139 = .ok (.invokestatic 203, 3) := by decide +kernel
theorem dX8_shift_142 : decode cX8_shift 142 = .ok (.iload 5, 2) := by decide +kernel
theorem dX8_shift_144 : decode cX8_shift 144 = .ok (.ireturn, 1) := by decide +kernel
theorem dX8_taken_0 : decode cX8_taken 0 = .ok (.iload_n 1, 1) := by decide +kernel
theorem dX8_taken_1 : decode cX8_taken 1 = .ok (.iconst 5, 1) := by decide +kernel
theorem dX8_taken_2 : decode cX8_taken 2 = .ok (.invokestatic 75, 3) := by decide +kernel
theorem dX8_taken_5 : decode cX8_taken 5 = .ok (.ifCond .eq 12, 3) := by decide +kernel
theorem dX8_taken_8 : decode cX8_taken 8 = .ok (.iload_n 2, 1) := by decide +kernel
theorem dX8_taken_9 : decode cX8_taken 9 = .ok (.bipush 7, 2) := by decide +kernel
theorem dX8_taken_11 : decode cX8_taken 11 = .ok (.invokestatic 75, 3) := by decide +kernel
theorem dX8_taken_14 : decode cX8_taken 14 = .ok (.ifCond .ne 5, 3) := by decide +kernel
theorem dX8_taken_17 : decode cX8_taken 17 = .ok (.iconst (-1), 1) := by decide +kernel
theorem dX8_taken_18 : decode cX8_taken 18 = .ok (.ireturn, 1) := by decide +kernel
theorem dX8_taken_19 : decode cX8_taken 19 = .ok (.aload_n 0, 1) := by decide +kernel
theorem dX8_taken_20 : decode cX8_taken 20 = .ok (.getfield 66, 3) := by decide +kernel
theorem dX8_taken_23 : decode cX8_taken 23 = .ok (.iload_n 1, 1) := by decide +kernel
theorem dX8_taken_24 : decode cX8_taken 24 = .ok (.aaload, 1) := by decide +kernel
theorem dX8_taken_25 : decode cX8_taken 25 = .ok (.astore_n 3, 1) := by decide +kernel
theorem dX8_taken_26 : decode cX8_taken 26 = .ok (.aload_n 3, 1) := by decide +kernel
theorem dX8_taken_27 : decode cX8_taken 27 = .ok (.getfield 87, 3) := by decide +kernel
theorem dX8_taken_30 : decode cX8_taken 30 = .ok (.bipush (-2), 2) := by decide +kernel
theorem dX8_taken_32 : decode cX8_taken 32 = .ok (.if_icmp .ne 6, 3) := by decide +kernel
theorem dX8_taken_35 : decode cX8_taken 35 = .ok (.bipush (-11), 2) := by decide +kernel
theorem dX8_taken_37 : decode cX8_taken 37 = .ok (.ireturn, 1) := by decide +kernel
theorem dX8_taken_38 : decode cX8_taken 38 = .ok (.aload_n 3, 1) := by decide +kernel
theorem dX8_taken_39 : decode cX8_taken 39 = .ok (.getfield 87, 3) := by decide +kernel
theorem dX8_taken_42 : decode cX8_taken 42 = .ok (.iconst (-1), 1) := by decide +kernel
theorem dX8_taken_43 : decode cX8_taken 43 = .ok (.if_icmp .eq 6, 3) := by decide +kernel
theorem dX8_taken_46 : decode cX8_taken 46 = .ok (.bipush (-12), 2) := by decide +kernel
theorem dX8_taken_48 : decode cX8_taken 48 = .ok (.ireturn, 1) := by decide +kernel
theorem dX8_taken_49 : decode cX8_taken 49 = .ok (.aload_n 0, 1) := by decide +kernel
theorem dX8_taken_50 : decode cX8_taken 50 = .ok (.getfield 60, 3) := by decide +kernel
theorem dX8_taken_53 : decode cX8_taken 53 = .ok (.getfield 331, 3) := by decide +kernel
theorem dX8_taken_56 : decode cX8_taken 56 = .ok (.aload_n 3, 1) := by decide +kernel
theorem dX8_taken_57 : decode cX8_taken 57 = .ok (.getfield 334, 3) := by decide +kernel
theorem dX8_taken_60 : decode cX8_taken 60 = .ok (.iaload, 1) := by decide +kernel
theorem dX8_taken_61 : decode cX8_taken 61 = .ok (.istore 4, 2) := by decide +kernel
theorem dX8_taken_63 : decode cX8_taken 63 = .ok (.iload 4, 2) := by decide +kernel
theorem dX8_taken_65 : decode cX8_taken 65 = .ok (.iload_n 2, 1) := by decide +kernel
theorem dX8_taken_66 : decode cX8_taken 66 = .ok (.invokestatic 337, 3) := by decide +kernel
theorem dX8_taken_69 : decode cX8_taken 69 = .ok (.ifCond .eq 8, 3) := by decide +kernel
theorem dX8_taken_72 : decode cX8_taken 72 = .ok (.iload 4, 2) := by decide +kernel
theorem dX8_taken_74 : decode cX8_taken 74 = .ok (.goto 5, 3) := by decide +kernel
theorem dX8_taken_77 : decode cX8_taken 77 = .ok (.bipush (-12), 2) := by decide +kernel
theorem dX8_taken_79 : decode cX8_taken 79 = .ok (.ireturn, 1) := by decide +kernel
theorem dX8_count_0 : decode cX8_count 0 = .ok (.iload_n 1, 1) := by decide +kernel
theorem dX8_count_1 : decode cX8_count 1 = .ok (.tableswitch 99 0 6 #[43, 51, 59, 67, 75, 83, 91], 43) := by decide +kernel
theorem dX8_count_44 : decode cX8_count 44 = .ok (.aload_n 0, 1) := by decide +kernel
theorem dX8_count_45 : decode cX8_count 45 = .ok (.getfield 10, 3) := by decide +kernel
theorem dX8_count_48 : decode cX8_count 48 = .ok (.getfield 79, 3) := by decide +kernel
theorem dX8_count_51 : decode cX8_count 51 = .ok (.ireturn, 1) := by decide +kernel
theorem dX8_count_52 : decode cX8_count 52 = .ok (.aload_n 0, 1) := by decide +kernel
theorem dX8_count_53 : decode cX8_count 53 = .ok (.getfield 37, 3) := by decide +kernel
theorem dX8_count_56 : decode cX8_count 56 = .ok (.getfield 132, 3) := by decide +kernel
theorem dX8_count_59 : decode cX8_count 59 = .ok (.ireturn, 1) := by decide +kernel
theorem dX8_count_60 : decode cX8_count 60 = .ok (.aload_n 0, 1) := by decide +kernel
theorem dX8_count_61 : decode cX8_count 61 = .ok (.getfield 37, 3) := by decide +kernel
theorem dX8_count_64 : decode cX8_count 64 = .ok (.getfield 255, 3) := by decide +kernel
theorem dX8_count_67 : decode cX8_count 67 = .ok (.ireturn, 1) := by decide +kernel
theorem dX8_count_68 : decode cX8_count 68 = .ok (.aload_n 0, 1) := by decide +kernel
theorem dX8_count_69 : decode cX8_count 69 = .ok (.getfield 19, 3) := by decide +kernel
theorem dX8_count_72 : decode cX8_count 72 = .ok (.getfield 340, 3) := by decide +kernel
theorem dX8_count_75 : decode cX8_count 75 = .ok (.ireturn, 1) := by decide +kernel
theorem dX8_count_76 : decode cX8_count 76 = .ok (.aload_n 0, 1) := by decide +kernel
theorem dX8_count_77 : decode cX8_count 77 = .ok (.getfield 53, 3) := by decide +kernel
theorem dX8_count_80 : decode cX8_count 80 = .ok (.getfield 287, 3) := by decide +kernel
theorem dX8_count_83 : decode cX8_count 83 = .ok (.ireturn, 1) := by decide +kernel
theorem dX8_count_84 : decode cX8_count 84 = .ok (.aload_n 0, 1) := by decide +kernel
theorem dX8_count_85 : decode cX8_count 85 = .ok (.getfield 60, 3) := by decide +kernel
theorem dX8_count_88 : decode cX8_count 88 = .ok (.getfield 315, 3) := by decide +kernel
theorem dX8_count_91 : decode cX8_count 91 = .ok (.ireturn, 1) := by decide +kernel
theorem dX8_count_92 : decode cX8_count 92 = .ok (.aload_n 0, 1) := by decide +kernel
theorem dX8_count_93 : decode cX8_count 93 = .ok (.getfield 60, 3) := by decide +kernel
theorem dX8_count_96 : decode cX8_count 96 = .ok (.getfield 304, 3) := by decide +kernel
theorem dX8_count_99 : decode cX8_count 99 = .ok (.ireturn, 1) := by decide +kernel
theorem dX8_count_100 : decode cX8_count 100 = .ok (.iconst (-1), 1) := by decide +kernel
theorem dX8_count_101 : decode cX8_count 101 = .ok (.ireturn, 1) := by decide +kernel
theorem dX8_isWithin_0 : decode cX8_isWithin 0 = .ok (.iload_n 0, 1) := by decide +kernel
theorem dX8_isWithin_1 : decode cX8_isWithin 1 = .ok (.ifCond .lt 12, 3) := by decide +kernel
theorem dX8_isWithin_4 : decode cX8_isWithin 4 = .ok (.iload_n 0, 1) := by decide +kernel
theorem dX8_isWithin_5 : decode cX8_isWithin 5 = .ok (.iload_n 1, 1) := by decide +kernel
theorem dX8_isWithin_6 : decode cX8_isWithin 6 = .ok (.if_icmp .gt 7, 3) := by decide +kernel
theorem dX8_isWithin_9 : decode cX8_isWithin 9 = .ok (.iconst 1, 1) := by decide +kernel
theorem dX8_isWithin_10 : decode cX8_isWithin 10 = .ok (.goto 4, 3) := by decide +kernel
theorem dX8_isWithin_13 : decode cX8_isWithin 13 = .ok (.iconst 0, 1) := by decide +kernel
theorem dX8_isWithin_14 : decode cX8_isWithin 14 = .ok (.ireturn, 1) := by decide +kernel
theorem dX8_greatest_0 : decode cX8_greatest 0 = .ok (.iload_n 0, 1) := by decide +kernel
theorem dX8_greatest_1 : decode cX8_greatest 1 = .ok (.ifCond .ne 8, 3) := by decide +kernel
theorem dX8_greatest_4 : decode cX8_greatest 4 = .ok (.bipush 12, 2) := by decide +kernel
theorem dX8_greatest_6 : decode cX8_greatest 6 = .ok (.goto 13, 3) := by decide +kernel
theorem dX8_greatest_9 : decode cX8_greatest 9 = .ok (.iload_n 0, 1) := by decide +kernel
theorem dX8_greatest_10 : decode cX8_greatest 10 = .ok (.iconst 1, 1) := by decide +kernel
theorem dX8_greatest_11 : decode cX8_greatest 11 = .ok (.if_icmp .ne 7, 3) := by decide +kernel
theorem dX8_greatest_14 : decode cX8_greatest 14 = .ok (.iconst 5, 1) := by decide +kernel
theorem dX8_greatest_15 : decode cX8_greatest 15 = .ok (.goto 4, 3) := by decide +kernel
theorem dX8_greatest_18 : decode cX8_greatest 18 = .ok (.iconst 3, 1) := by decide +kernel
theorem dX8_greatest_19 : decode cX8_greatest 19 = .ok (.ireturn, 1) := by decide +kernel
theorem dX8_power_0 : decode cX8_power 0 = .ok (.lconst 1, 1) := by decide +kernel
theorem dX8_power_1 : decode cX8_power 1 = .ok (.lstore_n 2, 1) := by decide +kernel
theorem dX8_power_2 : decode cX8_power 2 = .ok (.iconst 0, 1) := by decide +kernel
theorem dX8_power_3 : decode cX8_power 3 = .ok (.istore 4, 2) := by decide +kernel
theorem dX8_power_5 : decode cX8_power 5 = .ok (.iload 4, 2) := by decide +kernel
theorem dX8_power_7 : decode cX8_power 7 = .ok (.iload_n 1, 1) := by decide +kernel
theorem dX8_power_8 : decode cX8_power 8 = .ok (.if_icmp .ge 14, 3) := by decide +kernel
theorem dX8_power_11 : decode cX8_power 11 = .ok (.lload_n 2, 1) := by decide +kernel
theorem dX8_power_12 : decode cX8_power 12 = .ok (.iload_n 0, 1) := by decide +kernel
theorem dX8_power_13 : decode cX8_power 13 = .ok (.i2l, 1) := by decide +kernel
theorem dX8_power_14 : decode cX8_power 14 = .ok (.lmul, 1) := by decide +kernel
theorem dX8_power_15 : decode cX8_power 15 = .ok (.lstore_n 2, 1) := by decide +kernel
theorem dX8_power_16 : decode cX8_power 16 = .ok (.iinc 4 1, 3) := by decide +kernel
theorem dX8_power_19 : decode cX8_power 19 = .ok (.goto (-14), 3) := by decide +kernel
theorem dX8_power_22 : decode cX8_power 22 = .ok (.lload_n 2, 1) := by decide +kernel
theorem dX8_power_23 : decode cX8_power 23 = .ok (.lreturn, 1) := by decide +kernel
theorem dX8_lowest_0 : decode cX8_lowest 0 = .ok (.lload_n 0, 1) := by decide +kernel
theorem dX8_lowest_1 : decode cX8_lowest 1 = .ok (.lstore 5, 2) := by decide +kernel
theorem dX8_lowest_3 : decode cX8_lowest 3 = .ok (.lload_n 2, 1) := by decide +kernel
theorem dX8_lowest_4 : decode cX8_lowest 4 = .ok (.lstore 7, 2) := by decide +kernel
theorem dX8_lowest_6 : decode cX8_lowest 6 = .ok (.iconst 0, 1) := by decide +kernel
theorem dX8_lowest_7 : decode cX8_lowest 7 = .ok (.istore 9, 2) := by decide +kernel
theorem dX8_lowest_9 : decode cX8_lowest 9 = .ok (.iload 9, 2) := by decide +kernel
theorem dX8_lowest_11 : decode cX8_lowest 11 = .ok (.bipush 100, 2) := by decide +kernel
theorem dX8_lowest_13 : decode cX8_lowest 13 = .ok (.if_icmp .ge 31, 3) := by decide +kernel
theorem dX8_lowest_16 : decode cX8_lowest 16 = .ok (.lload 7, 2) := by decide +kernel
theorem dX8_lowest_18 : decode cX8_lowest 18 = .ok (.lconst 0, 1) := by decide +kernel
theorem dX8_lowest_19 : decode cX8_lowest 19 = .ok (.lcmp, 1) := by decide +kernel
theorem dX8_lowest_20 : decode cX8_lowest 20 = .ok (.ifCond .eq 24, 3) := by decide +kernel
theorem dX8_lowest_23 : decode cX8_lowest 23 = .ok (.lload 5, 2) := by decide +kernel
theorem dX8_lowest_25 : decode cX8_lowest 25 = .ok (.lload 7, 2) := by decide +kernel
theorem dX8_lowest_27 : decode cX8_lowest 27 = .ok (.lrem, 1) := by decide +kernel
theorem dX8_lowest_28 : decode cX8_lowest 28 = .ok (.lstore 10, 2) := by decide +kernel
theorem dX8_lowest_30 : decode cX8_lowest 30 = .ok (.lload 7, 2) := by decide +kernel
theorem dX8_lowest_32 : decode cX8_lowest 32 = .ok (.lstore 5, 2) := by decide +kernel
theorem dX8_lowest_34 : decode cX8_lowest 34 = .ok (.lload 10, 2) := by decide +kernel
theorem dX8_lowest_36 : decode cX8_lowest 36 = .ok (.lstore 7, 2) := by decide +kernel
theorem dX8_lowest_38 : decode cX8_lowest 38 = .ok (.iinc 9 1, 3) := by decide +kernel
theorem dX8_lowest_41 : decode cX8_lowest 41 = .ok (.goto (-32), 3) := by decide +kernel
theorem dX8_lowest_44 : decode cX8_lowest 44 = .ok (.lload 5, 2) := by decide +kernel
theorem dX8_lowest_46 : decode cX8_lowest 46 = .ok (.lconst 1, 1) := by decide +kernel
theorem dX8_lowest_47 : decode cX8_lowest 47 = .ok (.invokestatic 343, 3) := by decide +kernel
theorem dX8_lowest_50 : decode cX8_lowest 50 = .ok (.lstore 9, 2) := by decide +kernel
theorem dX8_lowest_52 : decode cX8_lowest 52 = .ok (.iload 4, 2) := by decide +kernel
theorem dX8_lowest_54 : decode cX8_lowest 54 = .ok (.ifCond .ne 7, 3) := by decide +kernel
theorem dX8_lowest_57 : decode cX8_lowest 57 = .ok (.lload_n 0, 1) := by decide +kernel
theorem dX8_lowest_58 : decode cX8_lowest 58 = .ok (.goto 4, 3) := by decide +kernel
theorem dX8_lowest_61 : decode cX8_lowest 61 = .ok (.lload_n 2, 1) := by decide +kernel
theorem dX8_lowest_62 : decode cX8_lowest 62 = .ok (.lload 9, 2) := by decide +kernel
theorem dX8_lowest_64 : decode cX8_lowest 64 = .ok (.ldiv, 1) := by decide +kernel
theorem dX8_lowest_65 : decode cX8_lowest 65 = .ok (.lreturn, 1) := by decide +kernel
theorem dX8_come_0 : decode cX8_come 0 = .ok (.aload_n 0, 1) := by decide +kernel
theorem dX8_come_1 : decode cX8_come 1 = .ok (.getfield 10, 3) := by decide +kernel
theorem dX8_come_4 : decode cX8_come 4 = .ok (.iload_n 1, 1) := by decide +kernel
theorem dX8_come_5 : decode cX8_come 5 = .ok (.iload_n 2, 1) := by decide +kernel
theorem dX8_come_6 : decode cX8_come 6 = .ok (.invokevirtual 347, 3) := by decide +kernel
theorem dX8_come_9 : decode cX8_come 9 = .ok (.istore_n 3, 1) := by decide +kernel
theorem dX8_come_10 : decode cX8_come 10 = .ok (.aload_n 0, 1) := by decide +kernel
theorem dX8_come_11 : decode cX8_come 11 = .ok (.getfield 28, 3) := by decide +kernel
theorem dX8_come_14 : decode cX8_come 14 = .ok (.invokevirtual 145, 3) := by decide +kernel
theorem dX8_come_17 : decode cX8_come 17 = .ok (.aload_n 0, 1) := by decide +kernel
theorem dX8_come_18 : decode cX8_come 18 = .ok (.getfield 37, 3) := by decide +kernel
theorem dX8_come_21 : decode cX8_come 21 = .ok (.invokevirtual 123, 3) := by decide +kernel
theorem dX8_come_24 : decode cX8_come 24 = .ok (.iload_n 3, 1) := by decide +kernel
theorem dX8_come_25 : decode cX8_come 25 = .ok (.ireturn, 1) := by decide +kernel
theorem dX8_tell_0 : decode cX8_tell 0 = .ok (.iload_n 2, 1) := by decide +kernel
theorem dX8_tell_1 : decode cX8_tell 1 = .ok (.ifCond .ne 23, 3) := by decide +kernel
theorem dX8_tell_4 : decode cX8_tell 4 = .ok (.aload_n 0, 1) := by decide +kernel
theorem dX8_tell_5 : decode cX8_tell 5 = .ok (.getfield 10, 3) := by decide +kernel
theorem dX8_tell_8 : decode cX8_tell 8 = .ok (.getfield 209, 3) := by decide +kernel
theorem dX8_tell_11 : decode cX8_tell 11 = .ok (.iload_n 1, 1) := by decide +kernel
theorem dX8_tell_12 : decode cX8_tell 12 = .ok (.iload_n 3, 1) := by decide +kernel
theorem dX8_tell_13 : decode cX8_tell 13 = .ok (.iastore, 1) := by decide +kernel
theorem dX8_tell_14 : decode cX8_tell 14 = .ok (.aload_n 0, 1) := by decide +kernel
theorem dX8_tell_15 : decode cX8_tell 15 = .ok (.getfield 28, 3) := by decide +kernel
theorem dX8_tell_18 : decode cX8_tell 18 = .ok (.invokevirtual 145, 3) := by decide +kernel
theorem dX8_tell_21 : decode cX8_tell 21 = .ok (.goto 31, 3) := by decide +kernel
theorem dX8_tell_24 : decode cX8_tell 24 = .ok (.iload_n 2, 1) := by decide +kernel
theorem dX8_tell_25 : decode cX8_tell 25 = .ok (.iconst 1, 1) := by decide +kernel
theorem dX8_tell_26 : decode cX8_tell 26 = .ok (.if_icmp .ne 16, 3) := by decide +kernel
theorem dX8_tell_29 : decode cX8_tell 29 = .ok (.aload_n 0, 1) := by decide +kernel
theorem dX8_tell_30 : decode cX8_tell 30 = .ok (.getfield 10, 3) := by decide +kernel
theorem dX8_tell_33 : decode cX8_tell 33 = .ok (.getfield 200, 3) := by decide +kernel
theorem dX8_tell_36 : decode cX8_tell 36 = .ok (.iload_n 1, 1) := by decide +kernel
theorem dX8_tell_37 : decode cX8_tell 37 = .ok (.iload_n 3, 1) := by decide +kernel
theorem dX8_tell_38 : decode cX8_tell 38 = .ok (.iastore, 1) := by decide +kernel
theorem dX8_tell_39 : decode cX8_tell 39 = .ok (.goto 13, 3) := by decide +kernel
theorem dX8_tell_42 : decode cX8_tell 42 = .ok (.aload_n 0, 1) := by decide +kernel
theorem dX8_tell_43 : decode cX8_tell 43 = .ok (.getfield 10, 3) := by decide +kernel
theorem dX8_tell_46 : decode cX8_tell 46 = .ok (.getfield 348, 3) := by decide +kernel
theorem dX8_tell_49 : decode cX8_tell 49 = .ok (.iload_n 1, 1) := by decide +kernel
theorem dX8_tell_50 : decode cX8_tell 50 = .ok (.iload_n 3, 1) := by decide +kernel
theorem dX8_tell_51 : decode cX8_tell 51 = .ok (.iastore, 1) := by decide +kernel
theorem dX8_tell_52 : decode cX8_tell 52 = .ok (.return_, 1) := by decide +kernel
theorem dX8_worthNow_0 : decode cX8_worthNow 0 = .ok (.aload_n 0, 1) := by decide +kernel
theorem dX8_worthNow_1 : decode cX8_worthNow 1 = .ok (.getfield 28, 3) := by decide +kernel
theorem dX8_worthNow_4 : decode cX8_worthNow 4 = .ok (.aload_n 0, 1) := by decide +kernel
theorem dX8_worthNow_5 : decode cX8_worthNow 5 = .ok (.getfield 10, 3) := by decide +kernel
theorem dX8_worthNow_8 : decode cX8_worthNow 8 = .ok (.aload_n 0, 1) := by decide +kernel
theorem dX8_worthNow_9 : decode cX8_worthNow 9 = .ok (.getfield 10, 3) := by decide +kernel
theorem dX8_worthNow_12 : decode cX8_worthNow 12 = .ok (.invokevirtual 176, 3) := by decide +kernel
theorem dX8_worthNow_15 : decode cX8_worthNow 15 = .ok (.invokevirtual 241, 3) := by decide +kernel
theorem dX8_worthNow_18 : decode cX8_worthNow 18 = .ok (.aload_n 0, 1) := by decide +kernel
theorem dX8_worthNow_19 : decode cX8_worthNow 19 = .ok (.getfield 10, 3) := by decide +kernel
theorem dX8_worthNow_22 : decode cX8_worthNow 22 = .ok (.invokevirtual 176, 3) := by decide +kernel
theorem dX8_worthNow_25 : decode cX8_worthNow 25 = .ok (.iload_n 1, 1) := by decide +kernel
theorem dX8_worthNow_26 : decode cX8_worthNow 26 = .ok (.invokevirtual 351, 3) := by decide +kernel
theorem dX8_worthNow_29 : decode cX8_worthNow 29 = .ok (.lreturn, 1) := by decide +kernel
theorem dX8_worthIfBegins_0 : decode cX8_worthIfBegins 0 = .ok (.aload_n 0, 1) := by decide +kernel
theorem dX8_worthIfBegins_1 : decode cX8_worthIfBegins 1 = .ok (.getfield 28, 3) := by decide +kernel
theorem dX8_worthIfBegins_4 : decode cX8_worthIfBegins 4 = .ok (.aload_n 0, 1) := by decide +kernel
theorem dX8_worthIfBegins_5 : decode cX8_worthIfBegins 5 = .ok (.getfield 10, 3) := by decide +kernel
theorem dX8_worthIfBegins_8 : decode cX8_worthIfBegins 8 = .ok (.getfield 355, 3) := by decide +kernel
theorem dX8_worthIfBegins_11 : decode cX8_worthIfBegins 11 = .ok (.iload_n 1, 1) := by decide +kernel
theorem dX8_worthIfBegins_12 : decode cX8_worthIfBegins 12 = .ok (.iaload, 1) := by decide +kernel
theorem dX8_worthIfBegins_13 : decode cX8_worthIfBegins 13 = .ok (.aload_n 0, 1) := by decide +kernel
theorem dX8_worthIfBegins_14 : decode cX8_worthIfBegins 14 = .ok (.getfield 10, 3) := by decide +kernel
theorem dX8_worthIfBegins_17 : decode cX8_worthIfBegins 17 = .ok (.invokevirtual 176, 3) := by decide +kernel
theorem dX8_worthIfBegins_20 : decode cX8_worthIfBegins 20 = .ok (.iload_n 2, 1) := by decide +kernel
theorem dX8_worthIfBegins_21 : decode cX8_worthIfBegins 21 = .ok (.invokevirtual 351, 3) := by decide +kernel
theorem dX8_worthIfBegins_24 : decode cX8_worthIfBegins 24 = .ok (.lreturn, 1) := by decide +kernel
theorem dX8_spanIfBegins_0 : decode cX8_spanIfBegins 0 = .ok (.aload_n 0, 1) := by decide +kernel
theorem dX8_spanIfBegins_1 : decode cX8_spanIfBegins 1 = .ok (.iload_n 1, 1) := by decide +kernel
theorem dX8_spanIfBegins_2 : decode cX8_spanIfBegins 2 = .ok (.iconst 0, 1) := by decide +kernel
theorem dX8_spanIfBegins_3 : decode cX8_spanIfBegins 3 = .ok (.invokevirtual 187, 3) := by decide +kernel
theorem dX8_spanIfBegins_6 : decode cX8_spanIfBegins 6 = .ok (.lstore_n 2, 1) := by decide +kernel
theorem dX8_spanIfBegins_7 : decode cX8_spanIfBegins 7 = .ok (.lload_n 2, 1) := by decide +kernel
theorem dX8_spanIfBegins_8 : decode cX8_spanIfBegins 8 = .ok (.lstore 4, 2) := by decide +kernel
theorem dX8_spanIfBegins_10 : decode cX8_spanIfBegins 10 = .ok (.iconst 1, 1) := by decide +kernel
theorem dX8_spanIfBegins_11 : decode cX8_spanIfBegins 11 = .ok (.istore 6, 2) := by decide +kernel
theorem dX8_spanIfBegins_13 : decode cX8_spanIfBegins 13 = .ok (.iload 6, 2) := by decide +kernel
theorem dX8_spanIfBegins_15 : decode cX8_spanIfBegins 15 = .ok (.aload_n 0, 1) := by decide +kernel
theorem dX8_spanIfBegins_16 : decode cX8_spanIfBegins 16 = .ok (.getfield 10, 3) := by decide +kernel
theorem dX8_spanIfBegins_19 : decode cX8_spanIfBegins 19 = .ok (.getfield 79, 3) := by decide +kernel
theorem dX8_spanIfBegins_22 : decode cX8_spanIfBegins 22 = .ok (.if_icmp .ge 34, 3) := by decide +kernel
theorem dX8_spanIfBegins_25 : decode cX8_spanIfBegins 25 = .ok (.aload_n 0, 1) := by decide +kernel
theorem dX8_spanIfBegins_26 : decode cX8_spanIfBegins 26 = .ok (.iload_n 1, 1) := by decide +kernel
theorem dX8_spanIfBegins_27 : decode cX8_spanIfBegins 27 = .ok (.iload 6, 2) := by decide +kernel
theorem dX8_spanIfBegins_29 : decode cX8_spanIfBegins 29 = .ok (.invokevirtual 187, 3) := by decide +kernel
theorem dX8_spanIfBegins_32 : decode cX8_spanIfBegins 32 = .ok (.lstore 7, 2) := by decide +kernel
theorem dX8_spanIfBegins_34 : decode cX8_spanIfBegins 34 = .ok (.lload_n 2, 1) := by decide +kernel
theorem dX8_spanIfBegins_35 : decode cX8_spanIfBegins 35 = .ok (.lload 7, 2) := by decide +kernel
theorem dX8_spanIfBegins_37 : decode cX8_spanIfBegins 37 = .ok (.invokestatic 343, 3) := by decide +kernel
theorem dX8_spanIfBegins_40 : decode cX8_spanIfBegins 40 = .ok (.lstore_n 2, 1) := by decide +kernel
theorem dX8_spanIfBegins_41 : decode cX8_spanIfBegins 41 = .ok (.lload 4, 2) := by decide +kernel
theorem dX8_spanIfBegins_43 : decode cX8_spanIfBegins 43 = .ok (.lload 7, 2) := by decide +kernel
theorem dX8_spanIfBegins_45 : decode cX8_spanIfBegins 45 = .ok (.invokestatic 358, 3) := by decide +kernel
theorem dX8_spanIfBegins_48 : decode cX8_spanIfBegins 48 = .ok (.lstore 4, 2) := by decide +kernel
theorem dX8_spanIfBegins_50 : decode cX8_spanIfBegins 50 = .ok (.iinc 6 1, 3) := by decide +kernel
theorem dX8_spanIfBegins_53 : decode cX8_spanIfBegins 53 = .ok (.goto (-40), 3) := by decide +kernel
theorem dX8_spanIfBegins_56 : decode cX8_spanIfBegins 56 = .ok (.lload_n 2, 1) := by decide +kernel
theorem dX8_spanIfBegins_57 : decode cX8_spanIfBegins 57 = .ok (.lload 4, 2) := by decide +kernel
theorem dX8_spanIfBegins_59 : decode cX8_spanIfBegins 59 = .ok (.lsub, 1) := by decide +kernel
theorem dX8_spanIfBegins_60 : decode cX8_spanIfBegins 60 = .ok (.lreturn, 1) := by decide +kernel
theorem dX8_distanceFromMean_0 : decode cX8_distanceFromMean 0 = .ok (.lconst 0, 1) := by decide +kernel
theorem dX8_distanceFromMean_1 : decode cX8_distanceFromMean 1 = .ok (.lstore_n 2, 1) := by decide +kernel
theorem dX8_distanceFromMean_2 : decode cX8_distanceFromMean 2 = .ok (.iconst 0, 1) := by decide +kernel
theorem dX8_distanceFromMean_3 : decode cX8_distanceFromMean 3 = .ok (.istore 4, 2) := by decide +kernel
theorem dX8_distanceFromMean_5 : decode cX8_distanceFromMean 5 = .ok (.iload 4, 2) := by decide +kernel
theorem dX8_distanceFromMean_7 : decode cX8_distanceFromMean 7 = .ok (.aload_n 0, 1) := by decide +kernel
theorem dX8_distanceFromMean_8 : decode cX8_distanceFromMean 8 = .ok (.getfield 10, 3) := by decide +kernel
theorem dX8_distanceFromMean_11 : decode cX8_distanceFromMean 11 = .ok (.getfield 79, 3) := by decide +kernel
theorem dX8_distanceFromMean_14 : decode cX8_distanceFromMean 14 = .ok (.if_icmp .ge 18, 3) := by decide +kernel
theorem dX8_distanceFromMean_17 : decode cX8_distanceFromMean 17 = .ok (.lload_n 2, 1) := by decide +kernel
theorem dX8_distanceFromMean_18 : decode cX8_distanceFromMean 18 = .ok (.aload_n 0, 1) := by decide +kernel
theorem dX8_distanceFromMean_19 : decode cX8_distanceFromMean 19 = .ok (.iload 4, 2) := by decide +kernel
theorem dX8_distanceFromMean_21 : decode cX8_distanceFromMean 21 = .ok (.invokevirtual 155, 3) := by decide +kernel
theorem dX8_distanceFromMean_24 : decode cX8_distanceFromMean 24 = .ok (.ladd, 1) := by decide +kernel
theorem dX8_distanceFromMean_25 : decode cX8_distanceFromMean 25 = .ok (.lstore_n 2, 1) := by decide +kernel
theorem dX8_distanceFromMean_26 : decode cX8_distanceFromMean 26 = .ok (.iinc 4 1, 3) := by decide +kernel
theorem dX8_distanceFromMean_29 : decode cX8_distanceFromMean 29 = .ok (.goto (-24), 3) := by decide +kernel
theorem dX8_distanceFromMean_32 : decode cX8_distanceFromMean 32 = .ok (.aload_n 0, 1) := by decide +kernel
theorem dX8_distanceFromMean_33 : decode cX8_distanceFromMean 33 = .ok (.getfield 10, 3) := by decide +kernel
theorem dX8_distanceFromMean_36 : decode cX8_distanceFromMean 36 = .ok (.getfield 79, 3) := by decide +kernel
theorem dX8_distanceFromMean_39 : decode cX8_distanceFromMean 39 = .ok (.i2l, 1) := by decide +kernel
theorem dX8_distanceFromMean_40 : decode cX8_distanceFromMean 40 = .ok (.aload_n 0, 1) := by decide +kernel
theorem dX8_distanceFromMean_41 : decode cX8_distanceFromMean 41 = .ok (.iload_n 1, 1) := by decide +kernel
theorem dX8_distanceFromMean_42 : decode cX8_distanceFromMean 42 = .ok (.invokevirtual 155, 3) := by decide +kernel
theorem dX8_distanceFromMean_45 : decode cX8_distanceFromMean 45 = .ok (.lmul, 1) := by decide +kernel
theorem dX8_distanceFromMean_46 : decode cX8_distanceFromMean 46 = .ok (.lload_n 2, 1) := by decide +kernel
theorem dX8_distanceFromMean_47 : decode cX8_distanceFromMean 47 = .ok (.lsub, 1) := by decide +kernel
theorem dX8_distanceFromMean_48 : decode cX8_distanceFromMean 48 = .ok (.invokestatic 360, 3) := by decide +kernel
theorem dX8_distanceFromMean_51 : decode cX8_distanceFromMean 51 = .ok (.lreturn, 1) := by decide +kernel
theorem dX8_wantedWay_0 : decode cX8_wantedWay 0 = .ok (.aload_n 0, 1) := by decide +kernel
theorem dX8_wantedWay_1 : decode cX8_wantedWay 1 = .ok (.getfield 10, 3) := by decide +kernel
theorem dX8_wantedWay_4 : decode cX8_wantedWay 4 = .ok (.getfield 200, 3) := by decide +kernel
theorem dX8_wantedWay_7 : decode cX8_wantedWay 7 = .ok (.iload_n 1, 1) := by decide +kernel
theorem dX8_wantedWay_8 : decode cX8_wantedWay 8 = .ok (.iaload, 1) := by decide +kernel
theorem dX8_wantedWay_9 : decode cX8_wantedWay 9 = .ok (.istore_n 2, 1) := by decide +kernel
theorem dX8_wantedWay_10 : decode cX8_wantedWay 10 = .ok (.aload_n 0, 1) := by decide +kernel
theorem dX8_wantedWay_11 : decode cX8_wantedWay 11 = .ok (.getfield 28, 3) := by decide +kernel
theorem dX8_wantedWay_14 : decode cX8_wantedWay 14 = .ok (.invokevirtual 152, 3) := by decide +kernel
theorem dX8_wantedWay_17 : decode cX8_wantedWay 17 = .ok (.aload_n 0, 1) := by decide +kernel
theorem dX8_wantedWay_18 : decode cX8_wantedWay 18 = .ok (.iload_n 1, 1) := by decide +kernel
theorem dX8_wantedWay_19 : decode cX8_wantedWay 19 = .ok (.invokevirtual 155, 3) := by decide +kernel
theorem dX8_wantedWay_22 : decode cX8_wantedWay 22 = .ok (.lstore_n 3, 1) := by decide +kernel
theorem dX8_wantedWay_23 : decode cX8_wantedWay 23 = .ok (.iload_n 2, 1) := by decide +kernel
theorem dX8_wantedWay_24 : decode cX8_wantedWay 24 = .ok (.istore 5, 2) := by decide +kernel
theorem dX8_wantedWay_26 : decode cX8_wantedWay 26 = .ok (.iconst 0, 1) := by decide +kernel
theorem dX8_wantedWay_27 : decode cX8_wantedWay 27 = .ok (.istore 6, 2) := by decide +kernel
theorem dX8_wantedWay_29 : decode cX8_wantedWay 29 = .ok (.iload 6, 2) := by decide +kernel
theorem dX8_wantedWay_31 : decode cX8_wantedWay 31 = .ok (.bipush 6, 2) := by decide +kernel
theorem dX8_wantedWay_33 : decode cX8_wantedWay 33 = .ok (.if_icmp .ge 48, 3) := by decide +kernel
theorem dX8_wantedWay_36 : decode cX8_wantedWay 36 = .ok (.aload_n 0, 1) := by decide +kernel
theorem dX8_wantedWay_37 : decode cX8_wantedWay 37 = .ok (.getfield 10, 3) := by decide +kernel
theorem dX8_wantedWay_40 : decode cX8_wantedWay 40 = .ok (.getfield 200, 3) := by decide +kernel
theorem dX8_wantedWay_43 : decode cX8_wantedWay 43 = .ok (.iload_n 1, 1) := by decide +kernel
theorem dX8_wantedWay_44 : decode cX8_wantedWay 44 = .ok (.iload 6, 2) := by decide +kernel
theorem dX8_wantedWay_46 : decode cX8_wantedWay 46 = .ok (.iastore, 1) := by decide +kernel
theorem dX8_wantedWay_47 : decode cX8_wantedWay 47 = .ok (.aload_n 0, 1) := by decide +kernel
theorem dX8_wantedWay_48 : decode cX8_wantedWay 48 = .ok (.getfield 28, 3) := by decide +kernel
theorem dX8_wantedWay_51 : decode cX8_wantedWay 51 = .ok (.invokevirtual 152, 3) := by decide +kernel
theorem dX8_wantedWay_54 : decode cX8_wantedWay 54 = .ok (.aload_n 0, 1) := by decide +kernel
theorem dX8_wantedWay_55 : decode cX8_wantedWay 55 = .ok (.iload_n 1, 1) := by decide +kernel
theorem dX8_wantedWay_56 : decode cX8_wantedWay 56 = .ok (.invokevirtual 155, 3) := by decide +kernel
theorem dX8_wantedWay_59 : decode cX8_wantedWay 59 = .ok (.lstore 7, 2) := by decide +kernel
theorem dX8_wantedWay_61 : decode cX8_wantedWay 61 = .ok (.lload 7, 2) := by decide +kernel
theorem dX8_wantedWay_63 : decode cX8_wantedWay 63 = .ok (.lload_n 3, 1) := by decide +kernel
theorem dX8_wantedWay_64 : decode cX8_wantedWay 64 = .ok (.lcmp, 1) := by decide +kernel
theorem dX8_wantedWay_65 : decode cX8_wantedWay 65 = .ok (.ifCond .le 10, 3) := by decide +kernel
theorem dX8_wantedWay_68 : decode cX8_wantedWay 68 = .ok (.lload 7, 2) := by decide +kernel
theorem dX8_wantedWay_70 : decode cX8_wantedWay 70 = .ok (.lstore_n 3, 1) := by decide +kernel
theorem dX8_wantedWay_71 : decode cX8_wantedWay 71 = .ok (.iload 6, 2) := by decide +kernel
theorem dX8_wantedWay_73 : decode cX8_wantedWay 73 = .ok (.istore 5, 2) := by decide +kernel
theorem dX8_wantedWay_75 : decode cX8_wantedWay 75 = .ok (.iinc 6 1, 3) := by decide +kernel
theorem dX8_wantedWay_78 : decode cX8_wantedWay 78 = .ok (.goto (-49), 3) := by decide +kernel
theorem dX8_wantedWay_81 : decode cX8_wantedWay 81 = .ok (.aload_n 0, 1) := by decide +kernel
theorem dX8_wantedWay_82 : decode cX8_wantedWay 82 = .ok (.getfield 10, 3) := by decide +kernel
theorem dX8_wantedWay_85 : decode cX8_wantedWay 85 = .ok (.getfield 200, 3) := by decide +kernel
theorem dX8_wantedWay_88 : decode cX8_wantedWay 88 = .ok (.iload_n 1, 1) := by decide +kernel
theorem dX8_wantedWay_89 : decode cX8_wantedWay 89 = .ok (.iload_n 2, 1) := by decide +kernel
theorem dX8_wantedWay_90 : decode cX8_wantedWay 90 = .ok (.iastore, 1) := by decide +kernel
theorem dX8_wantedWay_91 : decode cX8_wantedWay 91 = .ok (.iload 5, 2) := by decide +kernel
theorem dX8_wantedWay_93 : decode cX8_wantedWay 93 = .ok (.ireturn, 1) := by decide +kernel
theorem dX8_firstMove_0 : decode cX8_firstMove 0 = .ok (.iconst 0, 1) := by decide +kernel
theorem dX8_firstMove_1 : decode cX8_firstMove 1 = .ok (.istore_n 1, 1) := by decide +kernel
theorem dX8_firstMove_2 : decode cX8_firstMove 2 = .ok (.iload_n 1, 1) := by decide +kernel
theorem dX8_firstMove_3 : decode cX8_firstMove 3 = .ok (.aload_n 0, 1) := by decide +kernel
theorem dX8_firstMove_4 : decode cX8_firstMove 4 = .ok (.getfield 10, 3) := by decide +kernel
theorem dX8_firstMove_7 : decode cX8_firstMove 7 = .ok (.getfield 79, 3) := by decide +kernel
theorem dX8_firstMove_10 : decode cX8_firstMove 10 = .ok (.if_icmp .ge 35, 3) := by decide +kernel
theorem dX8_firstMove_13 : decode cX8_firstMove 13 = .ok (.aload_n 0, 1) := by decide +kernel
theorem dX8_firstMove_14 : decode cX8_firstMove 14 = .ok (.iload_n 1, 1) := by decide +kernel
theorem dX8_firstMove_15 : decode cX8_firstMove 15 = .ok (.invokevirtual 194, 3) := by decide +kernel
theorem dX8_firstMove_18 : decode cX8_firstMove 18 = .ok (.istore_n 2, 1) := by decide +kernel
theorem dX8_firstMove_19 : decode cX8_firstMove 19 = .ok (.iload_n 2, 1) := by decide +kernel
theorem dX8_firstMove_20 : decode cX8_firstMove 20 = .ok (.aload_n 0, 1) := by decide +kernel
theorem dX8_firstMove_21 : decode cX8_firstMove 21 = .ok (.getfield 10, 3) := by decide +kernel
theorem dX8_firstMove_24 : decode cX8_firstMove 24 = .ok (.getfield 200, 3) := by decide +kernel
theorem dX8_firstMove_27 : decode cX8_firstMove 27 = .ok (.iload_n 1, 1) := by decide +kernel
theorem dX8_firstMove_28 : decode cX8_firstMove 28 = .ok (.iaload, 1) := by decide +kernel
theorem dX8_firstMove_29 : decode cX8_firstMove 29 = .ok (.if_icmp .eq 10, 3) := by decide +kernel
theorem dX8_firstMove_32 : decode cX8_firstMove 32 = .ok (.iload_n 1, 1) := by decide +kernel
theorem dX8_firstMove_33 : decode cX8_firstMove 33 = .ok (.bipush 6, 2) := by decide +kernel
theorem dX8_firstMove_35 : decode cX8_firstMove 35 = .ok (.imul, 1) := by decide +kernel
theorem dX8_firstMove_36 : decode cX8_firstMove 36 = .ok (.iload_n 2, 1) := by decide +kernel
theorem dX8_firstMove_37 : decode cX8_firstMove 37 = .ok (.iadd, 1) := by decide +kernel
theorem dX8_firstMove_38 : decode cX8_firstMove 38 = .ok (.ireturn, 1) := by decide +kernel
theorem dX8_firstMove_39 : decode cX8_firstMove 39 = .ok (.iinc 1 1, 3) := by decide +kernel
theorem dX8_firstMove_42 : decode cX8_firstMove 42 = .ok (.goto (-40), 3) := by decide +kernel
theorem dX8_firstMove_45 : decode cX8_firstMove 45 = .ok (.bipush (-2), 2) := by decide +kernel
theorem dX8_firstMove_47 : decode cX8_firstMove 47 = .ok (.ireturn, 1) := by decide +kernel
theorem dX8_winner_0 : decode cX8_winner 0 = .ok (.iconst 1, 1) := by decide +kernel
theorem dX8_winner_1 : decode cX8_winner 1 = .ok (.iload_n 1, 1) := by decide +kernel
theorem dX8_winner_2 : decode cX8_winner 2 = .ok (.ishl, 1) := by decide +kernel
theorem dX8_winner_3 : decode cX8_winner 3 = .ok (.iconst 1, 1) := by decide +kernel
theorem dX8_winner_4 : decode cX8_winner 4 = .ok (.iload_n 2, 1) := by decide +kernel
theorem dX8_winner_5 : decode cX8_winner 5 = .ok (.ishl, 1) := by decide +kernel
theorem dX8_winner_6 : decode cX8_winner 6 = .ok (.ior, 1) := by decide +kernel
theorem dX8_winner_7 : decode cX8_winner 7 = .ok (.istore_n 3, 1) := by decide +kernel
theorem dX8_winner_8 : decode cX8_winner 8 = .ok (.aload_n 0, 1) := by decide +kernel
theorem dX8_winner_9 : decode cX8_winner 9 = .ok (.getfield 10, 3) := by decide +kernel
theorem dX8_winner_12 : decode cX8_winner 12 = .ok (.iload_n 3, 1) := by decide +kernel
theorem dX8_winner_13 : decode cX8_winner 13 = .ok (.invokevirtual 241, 3) := by decide +kernel
theorem dX8_winner_16 : decode cX8_winner 16 = .ok (.istore 4, 2) := by decide +kernel
theorem dX8_winner_18 : decode cX8_winner 18 = .ok (.aload_n 0, 1) := by decide +kernel
theorem dX8_winner_19 : decode cX8_winner 19 = .ok (.getfield 28, 3) := by decide +kernel
theorem dX8_winner_22 : decode cX8_winner 22 = .ok (.iload 4, 2) := by decide +kernel
theorem dX8_winner_24 : decode cX8_winner 24 = .ok (.iload_n 3, 1) := by decide +kernel
theorem dX8_winner_25 : decode cX8_winner 25 = .ok (.iload_n 1, 1) := by decide +kernel
theorem dX8_winner_26 : decode cX8_winner 26 = .ok (.invokevirtual 351, 3) := by decide +kernel
theorem dX8_winner_29 : decode cX8_winner 29 = .ok (.lstore 5, 2) := by decide +kernel
theorem dX8_winner_31 : decode cX8_winner 31 = .ok (.aload_n 0, 1) := by decide +kernel
theorem dX8_winner_32 : decode cX8_winner 32 = .ok (.getfield 28, 3) := by decide +kernel
theorem dX8_winner_35 : decode cX8_winner 35 = .ok (.iload 4, 2) := by decide +kernel
theorem dX8_winner_37 : decode cX8_winner 37 = .ok (.iload_n 3, 1) := by decide +kernel
theorem dX8_winner_38 : decode cX8_winner 38 = .ok (.iload_n 2, 1) := by decide +kernel
theorem dX8_winner_39 : decode cX8_winner 39 = .ok (.invokevirtual 351, 3) := by decide +kernel
theorem dX8_winner_42 : decode cX8_winner 42 = .ok (.lstore 7, 2) := by decide +kernel
theorem dX8_winner_44 : decode cX8_winner 44 = .ok (.lload 5, 2) := by decide +kernel
theorem dX8_winner_46 : decode cX8_winner 46 = .ok (.lload 7, 2) := by decide +kernel
theorem dX8_winner_48 : decode cX8_winner 48 = .ok (.lcmp, 1) := by decide +kernel
theorem dX8_winner_49 : decode cX8_winner 49 = .ok (.ifCond .le 7, 3) := by decide +kernel
theorem dX8_winner_52 : decode cX8_winner 52 = .ok (.iconst 1, 1) := by decide +kernel
theorem dX8_winner_53 : decode cX8_winner 53 = .ok (.goto 16, 3) := by decide +kernel
theorem dX8_winner_56 : decode cX8_winner 56 = .ok (.lload 5, 2) := by decide +kernel
theorem dX8_winner_58 : decode cX8_winner 58 = .ok (.lload 7, 2) := by decide +kernel
theorem dX8_winner_60 : decode cX8_winner 60 = .ok (.lcmp, 1) := by decide +kernel
theorem dX8_winner_61 : decode cX8_winner 61 = .ok (.ifCond .ge 7, 3) := by decide +kernel
theorem dX8_winner_64 : decode cX8_winner 64 = .ok (.iconst 2, 1) := by decide +kernel
theorem dX8_winner_65 : decode cX8_winner 65 = .ok (.goto 4, 3) := by decide +kernel
theorem dX8_winner_68 : decode cX8_winner 68 = .ok (.iconst 0, 1) := by decide +kernel
theorem dX8_winner_69 : decode cX8_winner 69 = .ok (.ireturn, 1) := by decide +kernel
theorem dX8_refusal_0 : decode cX8_refusal 0 = .ok (.iload_n 1, 1) := by decide +kernel
theorem dX8_refusal_1 : decode cX8_refusal 1 = .ok (.iconst 5, 1) := by decide +kernel
theorem dX8_refusal_2 : decode cX8_refusal 2 = .ok (.invokestatic 75, 3) := by decide +kernel
theorem dX8_refusal_5 : decode cX8_refusal 5 = .ok (.ifCond .ne 5, 3) := by decide +kernel
theorem dX8_refusal_8 : decode cX8_refusal 8 = .ok (.iconst (-1), 1) := by decide +kernel
theorem dX8_refusal_9 : decode cX8_refusal 9 = .ok (.ireturn, 1) := by decide +kernel
theorem dX8_refusal_10 : decode cX8_refusal 10 = .ok (.aload_n 0, 1) := by decide +kernel
theorem dX8_refusal_11 : decode cX8_refusal 11 = .ok (.getfield 66, 3) := by decide +kernel
theorem dX8_refusal_14 : decode cX8_refusal 14 = .ok (.iload_n 1, 1) := by decide +kernel
theorem dX8_refusal_15 : decode cX8_refusal 15 = .ok (.aaload, 1) := by decide +kernel
theorem dX8_refusal_16 : decode cX8_refusal 16 = .ok (.astore_n 3, 1) := by decide +kernel
theorem dX8_refusal_17 : decode cX8_refusal 17 = .ok (.aload_n 3, 1) := by decide +kernel
theorem dX8_refusal_18 : decode cX8_refusal 18 = .ok (.getfield 87, 3) := by decide +kernel
theorem dX8_refusal_21 : decode cX8_refusal 21 = .ok (.bipush (-2), 2) := by decide +kernel
theorem dX8_refusal_23 : decode cX8_refusal 23 = .ok (.if_icmp .ne 6, 3) := by decide +kernel
theorem dX8_refusal_26 : decode cX8_refusal 26 = .ok (.bipush (-11), 2) := by decide +kernel
theorem dX8_refusal_28 : decode cX8_refusal 28 = .ok (.ireturn, 1) := by decide +kernel
theorem dX8_refusal_29 : decode cX8_refusal 29 = .ok (.aload_n 3, 1) := by decide +kernel
theorem dX8_refusal_30 : decode cX8_refusal 30 = .ok (.getfield 87, 3) := by decide +kernel
theorem dX8_refusal_33 : decode cX8_refusal 33 = .ok (.iconst (-1), 1) := by decide +kernel
theorem dX8_refusal_34 : decode cX8_refusal 34 = .ok (.if_icmp .ne 6, 3) := by decide +kernel
theorem dX8_refusal_37 : decode cX8_refusal 37 = .ok (.bipush (-12), 2) := by decide +kernel
theorem dX8_refusal_39 : decode cX8_refusal 39 = .ok (.ireturn, 1) := by decide +kernel
theorem dX8_refusal_40 : decode cX8_refusal 40 = .ok (.iload_n 2, 1) := by decide +kernel
theorem dX8_refusal_41 : decode cX8_refusal 41 = .ok (.aload_n 3, 1) := by decide +kernel
theorem dX8_refusal_42 : decode cX8_refusal 42 = .ok (.getfield 90, 3) := by decide +kernel
theorem dX8_refusal_45 : decode cX8_refusal 45 = .ok (.iconst 1, 1) := by decide +kernel
theorem dX8_refusal_46 : decode cX8_refusal 46 = .ok (.isub, 1) := by decide +kernel
theorem dX8_refusal_47 : decode cX8_refusal 47 = .ok (.invokestatic 75, 3) := by decide +kernel
theorem dX8_refusal_50 : decode cX8_refusal 50 = .ok (.ifCond .eq 7, 3) := by decide +kernel
theorem dX8_refusal_53 : decode cX8_refusal 53 = .ok (.iconst 0, 1) := by decide +kernel
theorem dX8_refusal_54 : decode cX8_refusal 54 = .ok (.goto 5, 3) := by decide +kernel
theorem dX8_refusal_57 : decode cX8_refusal 57 = .ok (.bipush (-13), 2) := by decide +kernel
theorem dX8_refusal_59 : decode cX8_refusal 59 = .ok (.ireturn, 1) := by decide +kernel
