/-! ===== decode rows (out of NAMES.whole) ===== -/
theorem dX0_init_0 : decode cX0_init 0 = .ok (.aload_n 0, 1) := by decide +kernel
theorem dX0_init_1 : decode cX0_init 1 = .ok (.invokespecial 3, 3) := by decide +kernel
theorem dX0_init_4 : decode cX0_init 4 = .ok (.aload_n 0, 1) := by decide +kernel
theorem dX0_init_5 : decode cX0_init 5 = .ok (.bipush 40, 2) := by decide +kernel
theorem dX0_init_7 : decode cX0_init 7 = .ok (.newarray .int, 2) := by decide +kernel
theorem dX0_init_9 : decode cX0_init 9 = .ok (.putfield 11, 3) := by decide +kernel
theorem dX0_init_12 : decode cX0_init 12 = .ok (.aload_n 0, 1) := by decide +kernel
theorem dX0_init_13 : decode cX0_init 13 = .ok (.bipush 40, 2) := by decide +kernel
theorem dX0_init_15 : decode cX0_init 15 = .ok (.newarray .int, 2) := by decide +kernel
theorem dX0_init_17 : decode cX0_init 17 = .ok (.putfield 15, 3) := by decide +kernel
theorem dX0_init_20 : decode cX0_init 20 = .ok (.aload_n 0, 1) := by decide +kernel
theorem dX0_init_21 : decode cX0_init 21 = .ok (.bipush 40, 2) := by decide +kernel
theorem dX0_init_23 : decode cX0_init 23 = .ok (.newarray .int, 2) := by decide +kernel
theorem dX0_init_25 : decode cX0_init 25 = .ok (.putfield 18, 3) := by decide +kernel
theorem dX0_init_28 : decode cX0_init 28 = .ok (.aload_n 0, 1) := by decide +kernel
theorem dX0_init_29 : decode cX0_init 29 = .ok (.bipush 40, 2) := by decide +kernel
theorem dX0_init_31 : decode cX0_init 31 = .ok (.newarray .int, 2) := by decide +kernel
theorem dX0_init_33 : decode cX0_init 33 = .ok (.putfield 21, 3) := by decide +kernel
theorem dX0_init_36 : decode cX0_init 36 = .ok (.aload_n 0, 1) := by decide +kernel
theorem dX0_init_37 : decode cX0_init 37 = .ok (.iconst 0, 1) := by decide +kernel
theorem dX0_init_38 : decode cX0_init 38 = .ok (.putfield 24, 3) := by decide +kernel
theorem dX0_init_41 : decode cX0_init 41 = .ok (.aload_n 0, 1) := by decide +kernel
theorem dX0_init_42 : decode cX0_init 42 = .ok (.iconst 0, 1) := by decide +kernel
theorem dX0_init_43 : decode cX0_init 43 = .ok (.putfield 28, 3) := by decide +kernel
theorem dX0_init_46 : decode cX0_init 46 = .ok (.return_, 1) := by decide +kernel
theorem dX0_came_0 : decode cX0_came 0 = .ok (.aload_n 0, 1) := by decide +kernel
theorem dX0_came_1 : decode cX0_came 1 = .ok (.getfield 24, 3) := by decide +kernel
theorem dX0_came_4 : decode cX0_came 4 = .ok (.bipush 40, 2) := by decide +kernel
theorem dX0_came_6 : decode cX0_came 6 = .ok (.if_icmp .lt 37, 3) := by decide +kernel
theorem dX0_came_9 : decode cX0_came 9 = .ok (.aload_n 0, 1) := by decide +kernel
theorem dX0_came_10 : decode cX0_came 10 = .ok (.getfield 11, 3) := by decide +kernel
theorem dX0_came_13 : decode cX0_came 13 = .ok (.invokestatic 31, 3) := by decide +kernel
theorem dX0_came_16 : decode cX0_came 16 = .ok (.aload_n 0, 1) := by decide +kernel
theorem dX0_came_17 : decode cX0_came 17 = .ok (.getfield 15, 3) := by decide +kernel
theorem dX0_came_20 : decode cX0_came 20 = .ok (.invokestatic 31, 3) := by decide +kernel
theorem dX0_came_23 : decode cX0_came 23 = .ok (.aload_n 0, 1) := by decide +kernel
theorem dX0_came_24 : decode cX0_came 24 = .ok (.getfield 18, 3) := by decide +kernel
theorem dX0_came_27 : decode cX0_came 27 = .ok (.invokestatic 31, 3) := by decide +kernel
theorem dX0_came_30 : decode cX0_came 30 = .ok (.aload_n 0, 1) := by decide +kernel
theorem dX0_came_31 : decode cX0_came 31 = .ok (.getfield 21, 3) := by decide +kernel
theorem dX0_came_34 : decode cX0_came 34 = .ok (.invokestatic 31, 3) := by decide +kernel
theorem dX0_came_37 : decode cX0_came 37 = .ok (.aload_n 0, 1) := by decide +kernel
theorem dX0_came_38 : decode cX0_came 38 = .ok (.bipush 39, 2) := by decide +kernel
theorem dX0_came_40 : decode cX0_came 40 = .ok (.putfield 24, 3) := by decide +kernel
theorem dX0_came_43 : decode cX0_came 43 = .ok (.aload_n 0, 1) := by decide +kernel
theorem dX0_came_44 : decode cX0_came 44 = .ok (.getfield 11, 3) := by decide +kernel
theorem dX0_came_47 : decode cX0_came 47 = .ok (.aload_n 0, 1) := by decide +kernel
theorem dX0_came_48 : decode cX0_came 48 = .ok (.getfield 24, 3) := by decide +kernel
theorem dX0_came_51 : decode cX0_came 51 = .ok (.iload_n 1, 1) := by decide +kernel
theorem dX0_came_52 : decode cX0_came 52 = .ok (.iastore, 1) := by decide +kernel
theorem dX0_came_53 : decode cX0_came 53 = .ok (.aload_n 0, 1) := by decide +kernel
theorem dX0_came_54 : decode cX0_came 54 = .ok (.getfield 15, 3) := by decide +kernel
theorem dX0_came_57 : decode cX0_came 57 = .ok (.aload_n 0, 1) := by decide +kernel
theorem dX0_came_58 : decode cX0_came 58 = .ok (.getfield 24, 3) := by decide +kernel
theorem dX0_came_61 : decode cX0_came 61 = .ok (.iload_n 2, 1) := by decide +kernel
theorem dX0_came_62 : decode cX0_came 62 = .ok (.iastore, 1) := by decide +kernel
theorem dX0_came_63 : decode cX0_came 63 = .ok (.aload_n 0, 1) := by decide +kernel
theorem dX0_came_64 : decode cX0_came 64 = .ok (.getfield 18, 3) := by decide +kernel
theorem dX0_came_67 : decode cX0_came 67 = .ok (.aload_n 0, 1) := by decide +kernel
theorem dX0_came_68 : decode cX0_came 68 = .ok (.getfield 24, 3) := by decide +kernel
theorem dX0_came_71 : decode cX0_came 71 = .ok (.iload_n 3, 1) := by decide +kernel
theorem dX0_came_72 : decode cX0_came 72 = .ok (.iastore, 1) := by decide +kernel
theorem dX0_came_73 : decode cX0_came 73 = .ok (.aload_n 0, 1) := by decide +kernel
theorem dX0_came_74 : decode cX0_came 74 = .ok (.getfield 21, 3) := by decide +kernel
theorem dX0_came_77 : decode cX0_came 77 = .ok (.aload_n 0, 1) := by decide +kernel
theorem dX0_came_78 : decode cX0_came 78 = .ok (.getfield 24, 3) := by decide +kernel
theorem dX0_came_81 : decode cX0_came 81 = .ok (.iload 4, 2) := by decide +kernel
theorem dX0_came_83 : decode cX0_came 83 = .ok (.iastore, 1) := by decide +kernel
theorem dX0_came_84 : decode cX0_came 84 = .ok (.aload_n 0, 1) := by decide +kernel
theorem dX0_came_85 : decode cX0_came 85 = .ok (.dup, 1) := by decide +kernel
theorem dX0_came_86 : decode cX0_came 86 = .ok (.getfield 24, 3) := by decide +kernel
theorem dX0_came_89 : decode cX0_came 89 = .ok (.iconst 1, 1) := by decide +kernel
theorem dX0_came_90 : decode cX0_came 90 = .ok (.iadd, 1) := by decide +kernel
theorem dX0_came_91 : decode cX0_came 91 = .ok (.putfield 24, 3) := by decide +kernel
theorem dX0_came_94 : decode cX0_came 94 = .ok (.aload_n 0, 1) := by decide +kernel
theorem dX0_came_95 : decode cX0_came 95 = .ok (.aload_n 0, 1) := by decide +kernel
theorem dX0_came_96 : decode cX0_came 96 = .ok (.getfield 24, 3) := by decide +kernel
theorem dX0_came_99 : decode cX0_came 99 = .ok (.putfield 28, 3) := by decide +kernel
theorem dX0_came_102 : decode cX0_came 102 = .ok (.return_, 1) := by decide +kernel
theorem dX0_takeBack_0 : decode cX0_takeBack 0 = .ok (.aload_n 0, 1) := by decide +kernel
theorem dX0_takeBack_1 : decode cX0_takeBack 1 = .ok (.getfield 24, 3) := by decide +kernel
theorem dX0_takeBack_4 : decode cX0_takeBack 4 = .ok (.ifCond .ne 6, 3) := by decide +kernel
theorem dX0_takeBack_7 : decode cX0_takeBack 7 = .ok (.bipush (-2), 2) := by decide +kernel
theorem dX0_takeBack_9 : decode cX0_takeBack 9 = .ok (.ireturn, 1) := by decide +kernel
theorem dX0_takeBack_10 : decode cX0_takeBack 10 = .ok (.aload_n 0, 1) := by decide +kernel
theorem dX0_takeBack_11 : decode cX0_takeBack 11 = .ok (.dup, 1) := by decide +kernel
theorem dX0_takeBack_12 : decode cX0_takeBack 12 = .ok (.getfield 24, 3) := by decide +kernel
theorem dX0_takeBack_15 : decode cX0_takeBack 15 = .ok (.iconst 1, 1) := by decide +kernel
theorem dX0_takeBack_16 : decode cX0_takeBack 16 = .ok (.isub, 1) := by decide +kernel
theorem dX0_takeBack_17 : decode cX0_takeBack 17 = .ok (.putfield 24, 3) := by decide +kernel
theorem dX0_takeBack_20 : decode cX0_takeBack 20 = .ok (.aload_n 0, 1) := by decide +kernel
theorem dX0_takeBack_21 : decode cX0_takeBack 21 = .ok (.getfield 24, 3) := by decide +kernel
theorem dX0_takeBack_24 : decode cX0_takeBack 24 = .ok (.ireturn, 1) := by decide +kernel
theorem dX0_takeAgain_0 : decode cX0_takeAgain 0 = .ok (.aload_n 0, 1) := by decide +kernel
theorem dX0_takeAgain_1 : decode cX0_takeAgain 1 = .ok (.getfield 24, 3) := by decide +kernel
theorem dX0_takeAgain_4 : decode cX0_takeAgain 4 = .ok (.aload_n 0, 1) := by decide +kernel
theorem dX0_takeAgain_5 : decode cX0_takeAgain 5 = .ok (.getfield 28, 3) := by decide +kernel
theorem dX0_takeAgain_8 : decode cX0_takeAgain 8 = .ok (.if_icmp .lt 6, 3) := by decide +kernel
theorem dX0_takeAgain_11 : decode cX0_takeAgain 11 = .ok (.bipush (-2), 2) := by decide +kernel
theorem dX0_takeAgain_13 : decode cX0_takeAgain 13 = .ok (.ireturn, 1) := by decide +kernel
theorem dX0_takeAgain_14 : decode cX0_takeAgain 14 = .ok (.aload_n 0, 1) := by decide +kernel
theorem dX0_takeAgain_15 : decode cX0_takeAgain 15 = .ok (.dup, 1) := by decide +kernel
theorem dX0_takeAgain_16 : decode cX0_takeAgain 16 = .ok (.getfield 24, 3) := by decide +kernel
theorem dX0_takeAgain_19 : decode cX0_takeAgain 19 = .ok (.iconst 1, 1) := by decide +kernel
theorem dX0_takeAgain_20 : decode cX0_takeAgain 20 = .ok (.iadd, 1) := by decide +kernel
theorem dX0_takeAgain_21 : decode cX0_takeAgain 21 = .ok (.putfield 24, 3) := by decide +kernel
theorem dX0_takeAgain_24 : decode cX0_takeAgain 24 = .ok (.aload_n 0, 1) := by decide +kernel
theorem dX0_takeAgain_25 : decode cX0_takeAgain 25 = .ok (.getfield 24, 3) := by decide +kernel
theorem dX0_takeAgain_28 : decode cX0_takeAgain 28 = .ok (.iconst 1, 1) := by decide +kernel
theorem dX0_takeAgain_29 : decode cX0_takeAgain 29 = .ok (.isub, 1) := by decide +kernel
theorem dX0_takeAgain_30 : decode cX0_takeAgain 30 = .ok (.ireturn, 1) := by decide +kernel
theorem dX0_dropFirst_0 : decode cX0_dropFirst 0 = .ok (.aload_n 0, 1) := by decide +kernel
theorem dX0_dropFirst_1 : decode cX0_dropFirst 1 = .ok (.iconst 1, 1) := by decide +kernel
theorem dX0_dropFirst_2 : decode cX0_dropFirst 2 = .ok (.aload_n 0, 1) := by decide +kernel
theorem dX0_dropFirst_3 : decode cX0_dropFirst 3 = .ok (.iconst 0, 1) := by decide +kernel
theorem dX0_dropFirst_4 : decode cX0_dropFirst 4 = .ok (.bipush 39, 2) := by decide +kernel
theorem dX0_dropFirst_6 : decode cX0_dropFirst 6 = .ok (.invokestatic 35, 3) := by decide +kernel
theorem dX0_dropFirst_9 : decode cX0_dropFirst 9 = .ok (.return_, 1) := by decide +kernel
theorem dX1_init_0 : decode cX1_init 0 = .ok (.aload_n 0, 1) := by decide +kernel
theorem dX1_init_1 : decode cX1_init 1 = .ok (.invokespecial 1, 3) := by decide +kernel
theorem dX1_init_4 : decode cX1_init 4 = .ok (.aload_n 0, 1) := by decide +kernel
theorem dX1_init_5 : decode cX1_init 5 = .ok (.iconst 0, 1) := by decide +kernel
theorem dX1_init_6 : decode cX1_init 6 = .ok (.putfield 7, 3) := by decide +kernel
theorem dX1_init_9 : decode cX1_init 9 = .ok (.aload_n 0, 1) := by decide +kernel
theorem dX1_init_10 : decode cX1_init 10 = .ok (.iconst 0, 1) := by decide +kernel
theorem dX1_init_11 : decode cX1_init 11 = .ok (.putfield 13, 3) := by decide +kernel
theorem dX1_init_14 : decode cX1_init 14 = .ok (.aload_n 0, 1) := by decide +kernel
theorem dX1_init_15 : decode cX1_init 15 = .ok (.iconst 0, 1) := by decide +kernel
theorem dX1_init_16 : decode cX1_init 16 = .ok (.putfield 16, 3) := by decide +kernel
theorem dX1_init_19 : decode cX1_init 19 = .ok (.aload_n 0, 1) := by decide +kernel
theorem dX1_init_20 : decode cX1_init 20 = .ok (.iconst 0, 1) := by decide +kernel
theorem dX1_init_21 : decode cX1_init 21 = .ok (.putfield 19, 3) := by decide +kernel
theorem dX1_init_24 : decode cX1_init 24 = .ok (.aload_n 0, 1) := by decide +kernel
theorem dX1_init_25 : decode cX1_init 25 = .ok (.aload_n 1, 1) := by decide +kernel
theorem dX1_init_26 : decode cX1_init 26 = .ok (.putfield 23, 3) := by decide +kernel
theorem dX1_init_29 : decode cX1_init 29 = .ok (.return_, 1) := by decide +kernel
theorem dX1_start_0 : decode cX1_start 0 = .ok (.aload_n 0, 1) := by decide +kernel
theorem dX1_start_1 : decode cX1_start 1 = .ok (.aload_n 0, 1) := by decide +kernel
theorem dX1_start_2 : decode cX1_start 2 = .ok (.getfield 23, 3) := by decide +kernel
theorem dX1_start_5 : decode cX1_start 5 = .ok (.invokevirtual 27, 3) := by decide +kernel
theorem dX1_start_8 : decode cX1_start 8 = .ok (.putfield 7, 3) := by decide +kernel
theorem dX1_start_11 : decode cX1_start 11 = .ok (.aload_n 0, 1) := by decide +kernel
theorem dX1_start_12 : decode cX1_start 12 = .ok (.iconst 0, 1) := by decide +kernel
theorem dX1_start_13 : decode cX1_start 13 = .ok (.putfield 13, 3) := by decide +kernel
theorem dX1_start_16 : decode cX1_start 16 = .ok (.aload_n 0, 1) := by decide +kernel
theorem dX1_start_17 : decode cX1_start 17 = .ok (.aload_n 0, 1) := by decide +kernel
theorem dX1_start_18 : decode cX1_start 18 = .ok (.getfield 23, 3) := by decide +kernel
theorem dX1_start_21 : decode cX1_start 21 = .ok (.aload_n 0, 1) := by decide +kernel
theorem dX1_start_22 : decode cX1_start 22 = .ok (.getfield 7, 3) := by decide +kernel
theorem dX1_start_25 : decode cX1_start 25 = .ok (.invokevirtual 33, 3) := by decide +kernel
theorem dX1_start_28 : decode cX1_start 28 = .ok (.putfield 16, 3) := by decide +kernel
theorem dX1_start_31 : decode cX1_start 31 = .ok (.return_, 1) := by decide +kernel
theorem dX1_startForNewGroup_0 : decode cX1_startForNewGroup 0 = .ok (.aload_n 0, 1) := by decide +kernel
theorem dX1_startForNewGroup_1 : decode cX1_startForNewGroup 1 = .ok (.invokevirtual 37, 3) := by decide +kernel
theorem dX1_startForNewGroup_4 : decode cX1_startForNewGroup 4 = .ok (.aload_n 0, 1) := by decide +kernel
theorem dX1_startForNewGroup_5 : decode cX1_startForNewGroup 5 = .ok (.iconst 0, 1) := by decide +kernel
theorem dX1_startForNewGroup_6 : decode cX1_startForNewGroup 6 = .ok (.putfield 19, 3) := by decide +kernel
theorem dX1_startForNewGroup_9 : decode cX1_startForNewGroup 9 = .ok (.return_, 1) := by decide +kernel
theorem dX1_throwAt_0 : decode cX1_throwAt 0 = .ok (.iload_n 2, 1) := by decide +kernel
theorem dX1_throwAt_1 : decode cX1_throwAt 1 = .ok (.ifCond .eq 17, 3) := by decide +kernel
theorem dX1_throwAt_4 : decode cX1_throwAt 4 = .ok (.aload_n 0, 1) := by decide +kernel
theorem dX1_throwAt_5 : decode cX1_throwAt 5 = .ok (.dup, 1) := by decide +kernel
theorem dX1_throwAt_6 : decode cX1_throwAt 6 = .ok (.getfield 7, 3) := by decide +kernel
theorem dX1_throwAt_9 : decode cX1_throwAt 9 = .ok (.iconst 1, 1) := by decide +kernel
theorem dX1_throwAt_10 : decode cX1_throwAt 10 = .ok (.iload_n 1, 1) := by decide +kernel
theorem dX1_throwAt_11 : decode cX1_throwAt 11 = .ok (.ishl, 1) := by decide +kernel
theorem dX1_throwAt_12 : decode cX1_throwAt 12 = .ok (.iconst (-1), 1) := by decide +kernel
theorem dX1_throwAt_13 : decode cX1_throwAt 13 = .ok (.ixor, 1) := by decide +kernel
theorem dX1_throwAt_14 : decode cX1_throwAt 14 = .ok (.iand, 1) := by decide +kernel
theorem dX1_throwAt_15 : decode cX1_throwAt 15 = .ok (.putfield 7, 3) := by decide +kernel
theorem dX1_throwAt_18 : decode cX1_throwAt 18 = .ok (.aload_n 0, 1) := by decide +kernel
theorem dX1_throwAt_19 : decode cX1_throwAt 19 = .ok (.aload_n 0, 1) := by decide +kernel
theorem dX1_throwAt_20 : decode cX1_throwAt 20 = .ok (.getfield 23, 3) := by decide +kernel
theorem dX1_throwAt_23 : decode cX1_throwAt 23 = .ok (.aload_n 0, 1) := by decide +kernel
theorem dX1_throwAt_24 : decode cX1_throwAt 24 = .ok (.getfield 16, 3) := by decide +kernel
theorem dX1_throwAt_27 : decode cX1_throwAt 27 = .ok (.aload_n 0, 1) := by decide +kernel
theorem dX1_throwAt_28 : decode cX1_throwAt 28 = .ok (.getfield 7, 3) := by decide +kernel
theorem dX1_throwAt_31 : decode cX1_throwAt 31 = .ok (.invokevirtual 40, 3) := by decide +kernel
theorem dX1_throwAt_34 : decode cX1_throwAt 34 = .ok (.putfield 16, 3) := by decide +kernel
theorem dX1_throwAt_37 : decode cX1_throwAt 37 = .ok (.aload_n 0, 1) := by decide +kernel
theorem dX1_throwAt_38 : decode cX1_throwAt 38 = .ok (.dup, 1) := by decide +kernel
theorem dX1_throwAt_39 : decode cX1_throwAt 39 = .ok (.getfield 13, 3) := by decide +kernel
theorem dX1_throwAt_42 : decode cX1_throwAt 42 = .ok (.iconst 1, 1) := by decide +kernel
theorem dX1_throwAt_43 : decode cX1_throwAt 43 = .ok (.iadd, 1) := by decide +kernel
theorem dX1_throwAt_44 : decode cX1_throwAt 44 = .ok (.putfield 13, 3) := by decide +kernel
theorem dX1_throwAt_47 : decode cX1_throwAt 47 = .ok (.return_, 1) := by decide +kernel
theorem dX1_keepImage_0 : decode cX1_keepImage 0 = .ok (.aload_n 0, 1) := by decide +kernel
theorem dX1_keepImage_1 : decode cX1_keepImage 1 = .ok (.iconst 1, 1) := by decide +kernel
theorem dX1_keepImage_2 : decode cX1_keepImage 2 = .ok (.putfield 19, 3) := by decide +kernel
theorem dX1_keepImage_5 : decode cX1_keepImage 5 = .ok (.aload_n 0, 1) := by decide +kernel
theorem dX1_keepImage_6 : decode cX1_keepImage 6 = .ok (.aload_n 0, 1) := by decide +kernel
theorem dX1_keepImage_7 : decode cX1_keepImage 7 = .ok (.getfield 7, 3) := by decide +kernel
theorem dX1_keepImage_10 : decode cX1_keepImage 10 = .ok (.putfield 44, 3) := by decide +kernel
theorem dX1_keepImage_13 : decode cX1_keepImage 13 = .ok (.aload_n 0, 1) := by decide +kernel
theorem dX1_keepImage_14 : decode cX1_keepImage 14 = .ok (.aload_n 0, 1) := by decide +kernel
theorem dX1_keepImage_15 : decode cX1_keepImage 15 = .ok (.getfield 13, 3) := by decide +kernel
theorem dX1_keepImage_18 : decode cX1_keepImage 18 = .ok (.putfield 47, 3) := by decide +kernel
theorem dX1_keepImage_21 : decode cX1_keepImage 21 = .ok (.aload_n 0, 1) := by decide +kernel
theorem dX1_keepImage_22 : decode cX1_keepImage 22 = .ok (.aload_n 0, 1) := by decide +kernel
theorem dX1_keepImage_23 : decode cX1_keepImage 23 = .ok (.getfield 16, 3) := by decide +kernel
theorem dX1_keepImage_26 : decode cX1_keepImage 26 = .ok (.putfield 50, 3) := by decide +kernel
theorem dX1_keepImage_29 : decode cX1_keepImage 29 = .ok (.return_, 1) := by decide +kernel
theorem dX1_takeImage_0 : decode cX1_takeImage 0 = .ok (.aload_n 0, 1) := by decide +kernel
theorem dX1_takeImage_1 : decode cX1_takeImage 1 = .ok (.getfield 19, 3) := by decide +kernel
theorem dX1_takeImage_4 : decode cX1_takeImage 4 = .ok (.ifCond .eq 27, 3) := by decide +kernel
theorem dX1_takeImage_7 : decode cX1_takeImage 7 = .ok (.aload_n 0, 1) := by decide +kernel
theorem dX1_takeImage_8 : decode cX1_takeImage 8 = .ok (.aload_n 0, 1) := by decide +kernel
theorem dX1_takeImage_9 : decode cX1_takeImage 9 = .ok (.getfield 44, 3) := by decide +kernel
theorem dX1_takeImage_12 : decode cX1_takeImage 12 = .ok (.putfield 7, 3) := by decide +kernel
theorem dX1_takeImage_15 : decode cX1_takeImage 15 = .ok (.aload_n 0, 1) := by decide +kernel
theorem dX1_takeImage_16 : decode cX1_takeImage 16 = .ok (.aload_n 0, 1) := by decide +kernel
theorem dX1_takeImage_17 : decode cX1_takeImage 17 = .ok (.getfield 47, 3) := by decide +kernel
theorem dX1_takeImage_20 : decode cX1_takeImage 20 = .ok (.putfield 13, 3) := by decide +kernel
theorem dX1_takeImage_23 : decode cX1_takeImage 23 = .ok (.aload_n 0, 1) := by decide +kernel
theorem dX1_takeImage_24 : decode cX1_takeImage 24 = .ok (.aload_n 0, 1) := by decide +kernel
theorem dX1_takeImage_25 : decode cX1_takeImage 25 = .ok (.getfield 50, 3) := by decide +kernel
theorem dX1_takeImage_28 : decode cX1_takeImage 28 = .ok (.putfield 16, 3) := by decide +kernel
theorem dX1_takeImage_31 : decode cX1_takeImage 31 = .ok (.aload_n 0, 1) := by decide +kernel
theorem dX1_takeImage_32 : decode cX1_takeImage 32 = .ok (.getfield 19, 3) := by decide +kernel
theorem dX1_takeImage_35 : decode cX1_takeImage 35 = .ok (.ireturn, 1) := by decide +kernel
theorem dX2_init_0 : decode cX2_init 0 = .ok (.aload_n 0, 1) := by decide +kernel
theorem dX2_init_1 : decode cX2_init 1 = .ok (.invokespecial 3, 3) := by decide +kernel
theorem dX2_init_4 : decode cX2_init 4 = .ok (.aload_n 0, 1) := by decide +kernel
theorem dX2_init_5 : decode cX2_init 5 = .ok (.iconst 4, 1) := by decide +kernel
theorem dX2_init_6 : decode cX2_init 6 = .ok (.newarray .int, 2) := by decide +kernel
theorem dX2_init_8 : decode cX2_init 8 = .ok (.putfield 9, 3) := by decide +kernel
theorem dX2_init_11 : decode cX2_init 11 = .ok (.aload_n 0, 1) := by decide +kernel
theorem dX2_init_12 : decode cX2_init 12 = .ok (.iconst 4, 1) := by decide +kernel
theorem dX2_init_13 : decode cX2_init 13 = .ok (.newarray .int, 2) := by decide +kernel
theorem dX2_init_15 : decode cX2_init 15 = .ok (.putfield 15, 3) := by decide +kernel
theorem dX2_init_18 : decode cX2_init 18 = .ok (.aload_n 0, 1) := by decide +kernel
theorem dX2_init_19 : decode cX2_init 19 = .ok (.iconst 4, 1) := by decide +kernel
theorem dX2_init_20 : decode cX2_init 20 = .ok (.newarray .int, 2) := by decide +kernel
theorem dX2_init_22 : decode cX2_init 22 = .ok (.putfield 18, 3) := by decide +kernel
theorem dX2_init_25 : decode cX2_init 25 = .ok (.aload_n 0, 1) := by decide +kernel
theorem dX2_init_26 : decode cX2_init 26 = .ok (.iconst 4, 1) := by decide +kernel
theorem dX2_init_27 : decode cX2_init 27 = .ok (.newarray .int, 2) := by decide +kernel
theorem dX2_init_29 : decode cX2_init 29 = .ok (.putfield 21, 3) := by decide +kernel
theorem dX2_init_32 : decode cX2_init 32 = .ok (.aload_n 0, 1) := by decide +kernel
theorem dX2_init_33 : decode cX2_init 33 = .ok (.iconst 4, 1) := by decide +kernel
theorem dX2_init_34 : decode cX2_init 34 = .ok (.newarray .int, 2) := by decide +kernel
theorem dX2_init_36 : decode cX2_init 36 = .ok (.putfield 24, 3) := by decide +kernel
theorem dX2_init_39 : decode cX2_init 39 = .ok (.aload_n 0, 1) := by decide +kernel
theorem dX2_init_40 : decode cX2_init 40 = .ok (.iconst 5, 1) := by decide +kernel
theorem dX2_init_41 : decode cX2_init 41 = .ok (.newarray .int, 2) := by decide +kernel
theorem dX2_init_43 : decode cX2_init 43 = .ok (.dup, 1) := by decide +kernel
theorem dX2_init_44 : decode cX2_init 44 = .ok (.iconst 0, 1) := by decide +kernel
theorem dX2_init_45 : decode cX2_init 45 = .ok (.iconst 0, 1) := by decide +kernel
theorem dX2_init_46 : decode cX2_init 46 = .ok (.iastore, 1) := by decide +kernel
theorem dX2_init_47 : decode cX2_init 47 = .ok (.dup, 1) := by decide +kernel
theorem dX2_init_48 : decode cX2_init 48 = .ok (.iconst 1, 1) := by decide +kernel
theorem dX2_init_49 : decode cX2_init 49 = .ok (.bipush 9, 2) := by decide +kernel
theorem dX2_init_51 : decode cX2_init 51 = .ok (.iastore, 1) := by decide +kernel
theorem dX2_init_52 : decode cX2_init 52 = .ok (.dup, 1) := by decide +kernel
theorem dX2_init_53 : decode cX2_init 53 = .ok (.iconst 2, 1) := by decide +kernel
theorem dX2_init_54 : decode cX2_init 54 = .ok (.iconst 4, 1) := by decide +kernel
theorem dX2_init_55 : decode cX2_init 55 = .ok (.iastore, 1) := by decide +kernel
theorem dX2_init_56 : decode cX2_init 56 = .ok (.dup, 1) := by decide +kernel
theorem dX2_init_57 : decode cX2_init 57 = .ok (.iconst 3, 1) := by decide +kernel
theorem dX2_init_58 : decode cX2_init 58 = .ok (.iconst 2, 1) := by decide +kernel
theorem dX2_init_59 : decode cX2_init 59 = .ok (.iastore, 1) := by decide +kernel
theorem dX2_init_60 : decode cX2_init 60 = .ok (.dup, 1) := by decide +kernel
theorem dX2_init_61 : decode cX2_init 61 = .ok (.iconst 4, 1) := by decide +kernel
theorem dX2_init_62 : decode cX2_init 62 = .ok (.iconst 1, 1) := by decide +kernel
theorem dX2_init_63 : decode cX2_init 63 = .ok (.iastore, 1) := by decide +kernel
theorem dX2_init_64 : decode cX2_init 64 = .ok (.putfield 27, 3) := by decide +kernel
theorem dX2_init_67 : decode cX2_init 67 = .ok (.aload_n 0, 1) := by decide +kernel
theorem dX2_init_68 : decode cX2_init 68 = .ok (.iconst 0, 1) := by decide +kernel
theorem dX2_init_69 : decode cX2_init 69 = .ok (.putfield 30, 3) := by decide +kernel
theorem dX2_init_72 : decode cX2_init 72 = .ok (.aload_n 0, 1) := by decide +kernel
theorem dX2_init_73 : decode cX2_init 73 = .ok (.bipush 6, 2) := by decide +kernel
theorem dX2_init_75 : decode cX2_init 75 = .ok (.putfield 34, 3) := by decide +kernel
theorem dX2_init_78 : decode cX2_init 78 = .ok (.aload_n 0, 1) := by decide +kernel
theorem dX2_init_79 : decode cX2_init 79 = .ok (.bipush 64, 2) := by decide +kernel
theorem dX2_init_81 : decode cX2_init 81 = .ok (.newarray .int, 2) := by decide +kernel
theorem dX2_init_83 : decode cX2_init 83 = .ok (.putfield 37, 3) := by decide +kernel
theorem dX2_init_86 : decode cX2_init 86 = .ok (.return_, 1) := by decide +kernel
theorem dX2_has_0 : decode cX2_has 0 = .ok (.iload_n 1, 1) := by decide +kernel
theorem dX2_has_1 : decode cX2_has 1 = .ok (.ifCond .lt 15, 3) := by decide +kernel
theorem dX2_has_4 : decode cX2_has 4 = .ok (.iload_n 1, 1) := by decide +kernel
theorem dX2_has_5 : decode cX2_has 5 = .ok (.aload_n 0, 1) := by decide +kernel
theorem dX2_has_6 : decode cX2_has 6 = .ok (.getfield 30, 3) := by decide +kernel
theorem dX2_has_9 : decode cX2_has 9 = .ok (.if_icmp .ge 7, 3) := by decide +kernel
theorem dX2_has_12 : decode cX2_has 12 = .ok (.iconst 1, 1) := by decide +kernel
theorem dX2_has_13 : decode cX2_has 13 = .ok (.goto 4, 3) := by decide +kernel
theorem dX2_has_16 : decode cX2_has 16 = .ok (.iconst 0, 1) := by decide +kernel
theorem dX2_has_17 : decode cX2_has 17 = .ok (.ireturn, 1) := by decide +kernel
theorem dX2_all_0 : decode cX2_all 0 = .ok (.iconst 1, 1) := by decide +kernel
theorem dX2_all_1 : decode cX2_all 1 = .ok (.aload_n 0, 1) := by decide +kernel
theorem dX2_all_2 : decode cX2_all 2 = .ok (.getfield 30, 3) := by decide +kernel
theorem dX2_all_5 : decode cX2_all 5 = .ok (.ishl, 1) := by decide +kernel
theorem dX2_all_6 : decode cX2_all 6 = .ok (.iconst 1, 1) := by decide +kernel
theorem dX2_all_7 : decode cX2_all 7 = .ok (.isub, 1) := by decide +kernel
theorem dX2_all_8 : decode cX2_all 8 = .ok (.ireturn, 1) := by decide +kernel
theorem dX2_told_0 : decode cX2_told 0 = .ok (.iload_n 2, 1) := by decide +kernel
theorem dX2_told_1 : decode cX2_told 1 = .ok (.ifCond .ne 12, 3) := by decide +kernel
theorem dX2_told_4 : decode cX2_told 4 = .ok (.aload_n 0, 1) := by decide +kernel
theorem dX2_told_5 : decode cX2_told 5 = .ok (.getfield 9, 3) := by decide +kernel
theorem dX2_told_8 : decode cX2_told 8 = .ok (.iload_n 1, 1) := by decide +kernel
theorem dX2_told_9 : decode cX2_told 9 = .ok (.iaload, 1) := by decide +kernel
theorem dX2_told_10 : decode cX2_told 10 = .ok (.goto 23, 3) := by decide +kernel
theorem dX2_told_13 : decode cX2_told 13 = .ok (.iload_n 2, 1) := by decide +kernel
theorem dX2_told_14 : decode cX2_told 14 = .ok (.iconst 1, 1) := by decide +kernel
theorem dX2_told_15 : decode cX2_told 15 = .ok (.if_icmp .ne 12, 3) := by decide +kernel
theorem dX2_told_18 : decode cX2_told 18 = .ok (.aload_n 0, 1) := by decide +kernel
theorem dX2_told_19 : decode cX2_told 19 = .ok (.getfield 15, 3) := by decide +kernel
theorem dX2_told_22 : decode cX2_told 22 = .ok (.iload_n 1, 1) := by decide +kernel
theorem dX2_told_23 : decode cX2_told 23 = .ok (.iaload, 1) := by decide +kernel
theorem dX2_told_24 : decode cX2_told 24 = .ok (.goto 9, 3) := by decide +kernel
theorem dX2_told_27 : decode cX2_told 27 = .ok (.aload_n 0, 1) := by decide +kernel
theorem dX2_told_28 : decode cX2_told 28 = .ok (.getfield 18, 3) := by decide +kernel
theorem dX2_told_31 : decode cX2_told 31 = .ok (.iload_n 1, 1) := by decide +kernel
theorem dX2_told_32 : decode cX2_told 32 = .ok (.iaload, 1) := by decide +kernel
theorem dX2_told_33 : decode cX2_told 33 = .ok (.ireturn, 1) := by decide +kernel
theorem dX2_come_0 : decode cX2_come 0 = .ok (.aload_n 0, 1) := by decide +kernel
theorem dX2_come_1 : decode cX2_come 1 = .ok (.getfield 30, 3) := by decide +kernel
theorem dX2_come_4 : decode cX2_come 4 = .ok (.istore_n 3, 1) := by decide +kernel
theorem dX2_come_5 : decode cX2_come 5 = .ok (.aload_n 0, 1) := by decide +kernel
theorem dX2_come_6 : decode cX2_come 6 = .ok (.getfield 9, 3) := by decide +kernel
theorem dX2_come_9 : decode cX2_come 9 = .ok (.iload_n 3, 1) := by decide +kernel
theorem dX2_come_10 : decode cX2_come 10 = .ok (.iload_n 1, 1) := by decide +kernel
theorem dX2_come_11 : decode cX2_come 11 = .ok (.iastore, 1) := by decide +kernel
theorem dX2_come_12 : decode cX2_come 12 = .ok (.aload_n 0, 1) := by decide +kernel
theorem dX2_come_13 : decode cX2_come 13 = .ok (.getfield 15, 3) := by decide +kernel
theorem dX2_come_16 : decode cX2_come 16 = .ok (.iload_n 3, 1) := by decide +kernel
theorem dX2_come_17 : decode cX2_come 17 = .ok (.iload_n 2, 1) := by decide +kernel
theorem dX2_come_18 : decode cX2_come 18 = .ok (.iastore, 1) := by decide +kernel
theorem dX2_come_19 : decode cX2_come 19 = .ok (.aload_n 0, 1) := by decide +kernel
theorem dX2_come_20 : decode cX2_come 20 = .ok (.getfield 21, 3) := by decide +kernel
theorem dX2_come_23 : decode cX2_come 23 = .ok (.iload_n 3, 1) := by decide +kernel
theorem dX2_come_24 : decode cX2_come 24 = .ok (.iload_n 3, 1) := by decide +kernel
theorem dX2_come_25 : decode cX2_come 25 = .ok (.iastore, 1) := by decide +kernel
theorem dX2_come_26 : decode cX2_come 26 = .ok (.aload_n 0, 1) := by decide +kernel
theorem dX2_come_27 : decode cX2_come 27 = .ok (.iload_n 3, 1) := by decide +kernel
theorem dX2_come_28 : decode cX2_come 28 = .ok (.iconst 1, 1) := by decide +kernel
theorem dX2_come_29 : decode cX2_come 29 = .ok (.iadd, 1) := by decide +kernel
theorem dX2_come_30 : decode cX2_come 30 = .ok (.putfield 30, 3) := by decide +kernel
theorem dX2_come_33 : decode cX2_come 33 = .ok (.aload_n 0, 1) := by decide +kernel
theorem dX2_come_34 : decode cX2_come 34 = .ok (.invokevirtual 40, 3) := by decide +kernel
theorem dX2_come_37 : decode cX2_come 37 = .ok (.iload_n 3, 1) := by decide +kernel
theorem dX2_come_38 : decode cX2_come 38 = .ok (.ireturn, 1) := by decide +kernel
theorem dX2_turnAs_0 : decode cX2_turnAs 0 = .ok (.iload_n 1, 1) := by decide +kernel
theorem dX2_turnAs_1 : decode cX2_turnAs 1 = .ok (.istore_n 2, 1) := by decide +kernel
theorem dX2_turnAs_2 : decode cX2_turnAs 2 = .ok (.iconst 0, 1) := by decide +kernel
theorem dX2_turnAs_3 : decode cX2_turnAs 3 = .ok (.istore_n 3, 1) := by decide +kernel
theorem dX2_turnAs_4 : decode cX2_turnAs 4 = .ok (.aload_n 0, 1) := by decide +kernel
theorem dX2_turnAs_5 : decode cX2_turnAs 5 = .ok (.getfield 30, 3) := by decide +kernel
theorem dX2_turnAs_8 : decode cX2_turnAs 8 = .ok (.iconst 1, 1) := by decide +kernel
theorem dX2_turnAs_9 : decode cX2_turnAs 9 = .ok (.isub, 1) := by decide +kernel
theorem dX2_turnAs_10 : decode cX2_turnAs 10 = .ok (.istore 4, 2) := by decide +kernel
theorem dX2_turnAs_12 : decode cX2_turnAs 12 = .ok (.iload 4, 2) := by decide +kernel
theorem dX2_turnAs_14 : decode cX2_turnAs 14 = .ok (.ifCond .lt 49, 3) := by decide +kernel
theorem dX2_turnAs_17 : decode cX2_turnAs 17 = .ok (.iload_n 2, 1) := by decide +kernel
theorem dX2_turnAs_18 : decode cX2_turnAs 18 = .ok (.bipush 10, 2) := by decide +kernel
theorem dX2_turnAs_20 : decode cX2_turnAs 20 = .ok (.irem, 1) := by decide +kernel
theorem dX2_turnAs_21 : decode cX2_turnAs 21 = .ok (.iconst 1, 1) := by decide +kernel
theorem dX2_turnAs_22 : decode cX2_turnAs 22 = .ok (.isub, 1) := by decide +kernel
theorem dX2_turnAs_23 : decode cX2_turnAs 23 = .ok (.istore 5, 2) := by decide +kernel
theorem dX2_turnAs_25 : decode cX2_turnAs 25 = .ok (.iload_n 2, 1) := by decide +kernel
theorem dX2_turnAs_26 : decode cX2_turnAs 26 = .ok (.bipush 10, 2) := by decide +kernel
theorem dX2_turnAs_28 : decode cX2_turnAs 28 = .ok (.idiv, 1) := by decide +kernel
theorem dX2_turnAs_29 : decode cX2_turnAs 29 = .ok (.istore_n 2, 1) := by decide +kernel
theorem dX2_turnAs_30 : decode cX2_turnAs 30 = .ok (.aload_n 0, 1) := by decide +kernel
theorem dX2_turnAs_31 : decode cX2_turnAs 31 = .ok (.iload 5, 2) := by decide +kernel
theorem dX2_turnAs_33 : decode cX2_turnAs 33 = .ok (.invokevirtual 43, 3) := by decide +kernel
theorem dX2_turnAs_36 : decode cX2_turnAs 36 = .ok (.ifCond .eq 12, 3) := by decide +kernel
theorem dX2_turnAs_39 : decode cX2_turnAs 39 = .ok (.iload_n 3, 1) := by decide +kernel
theorem dX2_turnAs_40 : decode cX2_turnAs 40 = .ok (.iload 5, 2) := by decide +kernel
theorem dX2_turnAs_42 : decode cX2_turnAs 42 = .ok (.ishr, 1) := by decide +kernel
theorem dX2_turnAs_43 : decode cX2_turnAs 43 = .ok (.iconst 1, 1) := by decide +kernel
theorem dX2_turnAs_44 : decode cX2_turnAs 44 = .ok (.iand, 1) := by decide +kernel
theorem dX2_turnAs_45 : decode cX2_turnAs 45 = .ok (.ifCond .eq 5, 3) := by decide +kernel
theorem dX2_turnAs_48 : decode cX2_turnAs 48 = .ok (.iconst 0, 1) := by decide +kernel
theorem dX2_turnAs_49 : decode cX2_turnAs 49 = .ok (.ireturn, 1) := by decide +kernel
theorem dX2_turnAs_50 : decode cX2_turnAs 50 = .ok (.iload_n 3, 1) := by decide +kernel
theorem dX2_turnAs_51 : decode cX2_turnAs 51 = .ok (.iconst 1, 1) := by decide +kernel
theorem dX2_turnAs_52 : decode cX2_turnAs 52 = .ok (.iload 5, 2) := by decide +kernel
theorem dX2_turnAs_54 : decode cX2_turnAs 54 = .ok (.ishl, 1) := by decide +kernel
theorem dX2_turnAs_55 : decode cX2_turnAs 55 = .ok (.ior, 1) := by decide +kernel
theorem dX2_turnAs_56 : decode cX2_turnAs 56 = .ok (.istore_n 3, 1) := by decide +kernel
theorem dX2_turnAs_57 : decode cX2_turnAs 57 = .ok (.iinc 4 (-1), 3) := by decide +kernel
theorem dX2_turnAs_60 : decode cX2_turnAs 60 = .ok (.goto (-48), 3) := by decide +kernel
theorem dX2_turnAs_63 : decode cX2_turnAs 63 = .ok (.iload_n 2, 1) := by decide +kernel
theorem dX2_turnAs_64 : decode cX2_turnAs 64 = .ok (.ifCond .eq 5, 3) := by decide +kernel
theorem dX2_turnAs_67 : decode cX2_turnAs 67 = .ok (.iconst 0, 1) := by decide +kernel
theorem dX2_turnAs_68 : decode cX2_turnAs 68 = .ok (.ireturn, 1) := by decide +kernel
theorem dX2_turnAs_69 : decode cX2_turnAs 69 = .ok (.iload_n 1, 1) := by decide +kernel
theorem dX2_turnAs_70 : decode cX2_turnAs 70 = .ok (.istore_n 2, 1) := by decide +kernel
theorem dX2_turnAs_71 : decode cX2_turnAs 71 = .ok (.aload_n 0, 1) := by decide +kernel
theorem dX2_turnAs_72 : decode cX2_turnAs 72 = .ok (.getfield 30, 3) := by decide +kernel
theorem dX2_turnAs_75 : decode cX2_turnAs 75 = .ok (.iconst 1, 1) := by decide +kernel
theorem dX2_turnAs_76 : decode cX2_turnAs 76 = .ok (.isub, 1) := by decide +kernel
theorem dX2_turnAs_77 : decode cX2_turnAs 77 = .ok (.istore 4, 2) := by decide +kernel
theorem dX2_turnAs_79 : decode cX2_turnAs 79 = .ok (.iload 4, 2) := by decide +kernel
theorem dX2_turnAs_81 : decode cX2_turnAs 81 = .ok (.ifCond .lt 27, 3) := by decide +kernel
theorem dX2_turnAs_84 : decode cX2_turnAs 84 = .ok (.aload_n 0, 1) := by decide +kernel
theorem dX2_turnAs_85 : decode cX2_turnAs 85 = .ok (.getfield 21, 3) := by decide +kernel
theorem dX2_turnAs_88 : decode cX2_turnAs 88 = .ok (.iload 4, 2) := by decide +kernel
theorem dX2_turnAs_90 : decode cX2_turnAs 90 = .ok (.iload_n 2, 1) := by decide +kernel
theorem dX2_turnAs_91 : decode cX2_turnAs 91 = .ok (.bipush 10, 2) := by decide +kernel
theorem dX2_turnAs_93 : decode cX2_turnAs 93 = .ok (.irem, 1) := by decide +kernel
theorem dX2_turnAs_94 : decode cX2_turnAs 94 = .ok (.iconst 1, 1) := by decide +kernel
theorem dX2_turnAs_95 : decode cX2_turnAs 95 = .ok (.isub, 1) := by decide +kernel
theorem dX2_turnAs_96 : decode cX2_turnAs 96 = .ok (.iastore, 1) := by decide +kernel
theorem dX2_turnAs_97 : decode cX2_turnAs 97 = .ok (.iload_n 2, 1) := by decide +kernel
theorem dX2_turnAs_98 : decode cX2_turnAs 98 = .ok (.bipush 10, 2) := by decide +kernel
theorem dX2_turnAs_100 : decode cX2_turnAs 100 = .ok (.idiv, 1) := by decide +kernel
theorem dX2_turnAs_101 : decode cX2_turnAs 101 = .ok (.istore_n 2, 1) := by decide +kernel
theorem dX2_turnAs_102 : decode cX2_turnAs 102 = .ok (.iinc 4 (-1), 3) := by decide +kernel
theorem dX2_turnAs_105 : decode cX2_turnAs 105 = .ok (.goto (-26), 3) := by decide +kernel
theorem dX2_turnAs_108 : decode cX2_turnAs 108 = .ok (.aload_n 0, 1) := by decide +kernel
theorem dX2_turnAs_109 : decode cX2_turnAs 109 = .ok (.invokevirtual 40, 3) := by decide +kernel
theorem dX2_turnAs_112 : decode cX2_turnAs 112 = .ok (.iconst 1, 1) := by decide +kernel
theorem dX2_turnAs_113 : decode cX2_turnAs 113 = .ok (.ireturn, 1) := by decide +kernel
theorem dX2_first_0 : decode cX2_first 0 = .ok (.iconst 0, 1) := by decide +kernel
theorem dX2_first_1 : decode cX2_first 1 = .ok (.istore_n 2, 1) := by decide +kernel
theorem dX2_first_2 : decode cX2_first 2 = .ok (.iload_n 2, 1) := by decide +kernel
theorem dX2_first_3 : decode cX2_first 3 = .ok (.aload_n 0, 1) := by decide +kernel
theorem dX2_first_4 : decode cX2_first 4 = .ok (.getfield 30, 3) := by decide +kernel
theorem dX2_first_7 : decode cX2_first 7 = .ok (.if_icmp .ge 29, 3) := by decide +kernel
theorem dX2_first_10 : decode cX2_first 10 = .ok (.iload_n 1, 1) := by decide +kernel
theorem dX2_first_11 : decode cX2_first 11 = .ok (.aload_n 0, 1) := by decide +kernel
theorem dX2_first_12 : decode cX2_first 12 = .ok (.getfield 21, 3) := by decide +kernel
theorem dX2_first_15 : decode cX2_first 15 = .ok (.iload_n 2, 1) := by decide +kernel
theorem dX2_first_16 : decode cX2_first 16 = .ok (.iaload, 1) := by decide +kernel
theorem dX2_first_17 : decode cX2_first 17 = .ok (.ishr, 1) := by decide +kernel
theorem dX2_first_18 : decode cX2_first 18 = .ok (.iconst 1, 1) := by decide +kernel
theorem dX2_first_19 : decode cX2_first 19 = .ok (.iand, 1) := by decide +kernel
theorem dX2_first_20 : decode cX2_first 20 = .ok (.ifCond .eq 10, 3) := by decide +kernel
theorem dX2_first_23 : decode cX2_first 23 = .ok (.aload_n 0, 1) := by decide +kernel
theorem dX2_first_24 : decode cX2_first 24 = .ok (.getfield 21, 3) := by decide +kernel
theorem dX2_first_27 : decode cX2_first 27 = .ok (.iload_n 2, 1) := by decide +kernel
theorem dX2_first_28 : decode cX2_first 28 = .ok (.iaload, 1) := by decide +kernel
theorem dX2_first_29 : decode cX2_first 29 = .ok (.ireturn, 1) := by decide +kernel
theorem dX2_first_30 : decode cX2_first 30 = .ok (.iinc 2 1, 3) := by decide +kernel
theorem dX2_first_33 : decode cX2_first 33 = .ok (.goto (-31), 3) := by decide +kernel
theorem dX2_first_36 : decode cX2_first 36 = .ok (.iconst 0, 1) := by decide +kernel
theorem dX2_first_37 : decode cX2_first 37 = .ok (.ireturn, 1) := by decide +kernel
theorem dX2_after_0 : decode cX2_after 0 = .ok (.aload_n 0, 1) := by decide +kernel
theorem dX2_after_1 : decode cX2_after 1 = .ok (.getfield 37, 3) := by decide +kernel
theorem dX2_after_4 : decode cX2_after 4 = .ok (.iload_n 1, 1) := by decide +kernel
theorem dX2_after_5 : decode cX2_after 5 = .ok (.bipush 16, 2) := by decide +kernel
theorem dX2_after_7 : decode cX2_after 7 = .ok (.imul, 1) := by decide +kernel
theorem dX2_after_8 : decode cX2_after 8 = .ok (.iload_n 2, 1) := by decide +kernel
theorem dX2_after_9 : decode cX2_after 9 = .ok (.iadd, 1) := by decide +kernel
theorem dX2_after_10 : decode cX2_after 10 = .ok (.iaload, 1) := by decide +kernel
theorem dX2_after_11 : decode cX2_after 11 = .ok (.ireturn, 1) := by decide +kernel
theorem dX2_isOver_0 : decode cX2_isOver 0 = .ok (.iload_n 2, 1) := by decide +kernel
theorem dX2_isOver_1 : decode cX2_isOver 1 = .ok (.aload_n 0, 1) := by decide +kernel
theorem dX2_isOver_2 : decode cX2_isOver 2 = .ok (.getfield 34, 3) := by decide +kernel
theorem dX2_isOver_5 : decode cX2_isOver 5 = .ok (.if_icmp .ge 11, 3) := by decide +kernel
theorem dX2_isOver_8 : decode cX2_isOver 8 = .ok (.iload_n 1, 1) := by decide +kernel
theorem dX2_isOver_9 : decode cX2_isOver 9 = .ok (.invokestatic 47, 3) := by decide +kernel
theorem dX2_isOver_12 : decode cX2_isOver 12 = .ok (.iconst 2, 1) := by decide +kernel
theorem dX2_isOver_13 : decode cX2_isOver 13 = .ok (.if_icmp .ge 7, 3) := by decide +kernel
theorem dX2_isOver_16 : decode cX2_isOver 16 = .ok (.iconst 1, 1) := by decide +kernel
theorem dX2_isOver_17 : decode cX2_isOver 17 = .ok (.goto 4, 3) := by decide +kernel
theorem dX2_isOver_20 : decode cX2_isOver 20 = .ok (.iconst 0, 1) := by decide +kernel
theorem dX2_isOver_21 : decode cX2_isOver 21 = .ok (.ireturn, 1) := by decide +kernel
theorem dX2_plainAim_0 : decode cX2_plainAim 0 = .ok (.iload_n 2, 1) := by decide +kernel
theorem dX2_plainAim_1 : decode cX2_plainAim 1 = .ok (.iconst 1, 1) := by decide +kernel
theorem dX2_plainAim_2 : decode cX2_plainAim 2 = .ok (.iload_n 1, 1) := by decide +kernel
theorem dX2_plainAim_3 : decode cX2_plainAim 3 = .ok (.ishl, 1) := by decide +kernel
theorem dX2_plainAim_4 : decode cX2_plainAim 4 = .ok (.iconst (-1), 1) := by decide +kernel
theorem dX2_plainAim_5 : decode cX2_plainAim 5 = .ok (.ixor, 1) := by decide +kernel
theorem dX2_plainAim_6 : decode cX2_plainAim 6 = .ok (.iand, 1) := by decide +kernel
theorem dX2_plainAim_7 : decode cX2_plainAim 7 = .ok (.istore_n 3, 1) := by decide +kernel
theorem dX2_plainAim_8 : decode cX2_plainAim 8 = .ok (.aload_n 0, 1) := by decide +kernel
theorem dX2_plainAim_9 : decode cX2_plainAim 9 = .ok (.getfield 15, 3) := by decide +kernel
theorem dX2_plainAim_12 : decode cX2_plainAim 12 = .ok (.iload_n 1, 1) := by decide +kernel
theorem dX2_plainAim_13 : decode cX2_plainAim 13 = .ok (.iaload, 1) := by decide +kernel
theorem dX2_plainAim_14 : decode cX2_plainAim 14 = .ok (.tableswitch 89 0 4 #[34, 41, 89, 48, 64], 34) := by decide +kernel
theorem dX2_plainAim_48 : decode cX2_plainAim 48 = .ok (.aload_n 0, 1) := by decide +kernel
theorem dX2_plainAim_49 : decode cX2_plainAim 49 = .ok (.iload_n 3, 1) := by decide +kernel
theorem dX2_plainAim_50 : decode cX2_plainAim 50 = .ok (.iconst 1, 1) := by decide +kernel
theorem dX2_plainAim_51 : decode cX2_plainAim 51 = .ok (.invokevirtual 53, 3) := by decide +kernel
theorem dX2_plainAim_54 : decode cX2_plainAim 54 = .ok (.ireturn, 1) := by decide +kernel
theorem dX2_plainAim_55 : decode cX2_plainAim 55 = .ok (.aload_n 0, 1) := by decide +kernel
theorem dX2_plainAim_56 : decode cX2_plainAim 56 = .ok (.iload_n 3, 1) := by decide +kernel
theorem dX2_plainAim_57 : decode cX2_plainAim 57 = .ok (.iconst (-1), 1) := by decide +kernel
theorem dX2_plainAim_58 : decode cX2_plainAim 58 = .ok (.invokevirtual 53, 3) := by decide +kernel
theorem dX2_plainAim_61 : decode cX2_plainAim 61 = .ok (.ireturn, 1) := by decide +kernel
theorem dX2_plainAim_62 : decode cX2_plainAim 62 = .ok (.iload_n 3, 1) := by decide +kernel
theorem dX2_plainAim_63 : decode cX2_plainAim 63 = .ok (.ifCond .ne 8, 3) := by decide +kernel
theorem dX2_plainAim_66 : decode cX2_plainAim 66 = .ok (.bipush (-2), 2) := by decide +kernel
theorem dX2_plainAim_68 : decode cX2_plainAim 68 = .ok (.goto 9, 3) := by decide +kernel
theorem dX2_plainAim_71 : decode cX2_plainAim 71 = .ok (.aload_n 0, 1) := by decide +kernel
theorem dX2_plainAim_72 : decode cX2_plainAim 72 = .ok (.iload_n 1, 1) := by decide +kernel
theorem dX2_plainAim_73 : decode cX2_plainAim 73 = .ok (.iload_n 3, 1) := by decide +kernel
theorem dX2_plainAim_74 : decode cX2_plainAim 74 = .ok (.invokevirtual 57, 3) := by decide +kernel
theorem dX2_plainAim_77 : decode cX2_plainAim 77 = .ok (.ireturn, 1) := by decide +kernel
theorem dX2_plainAim_78 : decode cX2_plainAim 78 = .ok (.iload_n 3, 1) := by decide +kernel
theorem dX2_plainAim_79 : decode cX2_plainAim 79 = .ok (.aload_n 0, 1) := by decide +kernel
theorem dX2_plainAim_80 : decode cX2_plainAim 80 = .ok (.getfield 18, 3) := by decide +kernel
theorem dX2_plainAim_83 : decode cX2_plainAim 83 = .ok (.iload_n 1, 1) := by decide +kernel
theorem dX2_plainAim_84 : decode cX2_plainAim 84 = .ok (.iaload, 1) := by decide +kernel
theorem dX2_plainAim_85 : decode cX2_plainAim 85 = .ok (.ishr, 1) := by decide +kernel
theorem dX2_plainAim_86 : decode cX2_plainAim 86 = .ok (.iconst 1, 1) := by decide +kernel
theorem dX2_plainAim_87 : decode cX2_plainAim 87 = .ok (.iand, 1) := by decide +kernel
theorem dX2_plainAim_88 : decode cX2_plainAim 88 = .ok (.ifCond .eq 12, 3) := by decide +kernel
theorem dX2_plainAim_91 : decode cX2_plainAim 91 = .ok (.aload_n 0, 1) := by decide +kernel
theorem dX2_plainAim_92 : decode cX2_plainAim 92 = .ok (.getfield 18, 3) := by decide +kernel
theorem dX2_plainAim_95 : decode cX2_plainAim 95 = .ok (.iload_n 1, 1) := by decide +kernel
theorem dX2_plainAim_96 : decode cX2_plainAim 96 = .ok (.iaload, 1) := by decide +kernel
theorem dX2_plainAim_97 : decode cX2_plainAim 97 = .ok (.goto 5, 3) := by decide +kernel
theorem dX2_plainAim_100 : decode cX2_plainAim 100 = .ok (.bipush (-2), 2) := by decide +kernel
theorem dX2_plainAim_102 : decode cX2_plainAim 102 = .ok (.ireturn, 1) := by decide +kernel
theorem dX2_plainAim_103 : decode cX2_plainAim 103 = .ok (.bipush (-2), 2) := by decide +kernel
theorem dX2_plainAim_105 : decode cX2_plainAim 105 = .ok (.ireturn, 1) := by decide +kernel
theorem dX2_strongest_0 : decode cX2_strongest 0 = .ok (.bipush (-2), 2) := by decide +kernel
theorem dX2_strongest_2 : decode cX2_strongest 2 = .ok (.istore_n 3, 1) := by decide +kernel
theorem dX2_strongest_3 : decode cX2_strongest 3 = .ok (.iconst 0, 1) := by decide +kernel
theorem dX2_strongest_4 : decode cX2_strongest 4 = .ok (.istore 4, 2) := by decide +kernel
theorem dX2_strongest_6 : decode cX2_strongest 6 = .ok (.iload 4, 2) := by decide +kernel
theorem dX2_strongest_8 : decode cX2_strongest 8 = .ok (.aload_n 0, 1) := by decide +kernel
theorem dX2_strongest_9 : decode cX2_strongest 9 = .ok (.getfield 30, 3) := by decide +kernel
theorem dX2_strongest_12 : decode cX2_strongest 12 = .ok (.if_icmp .ge 59, 3) := by decide +kernel
theorem dX2_strongest_15 : decode cX2_strongest 15 = .ok (.iload_n 1, 1) := by decide +kernel
theorem dX2_strongest_16 : decode cX2_strongest 16 = .ok (.iload 4, 2) := by decide +kernel
theorem dX2_strongest_18 : decode cX2_strongest 18 = .ok (.ishr, 1) := by decide +kernel
theorem dX2_strongest_19 : decode cX2_strongest 19 = .ok (.iconst 1, 1) := by decide +kernel
theorem dX2_strongest_20 : decode cX2_strongest 20 = .ok (.iand, 1) := by decide +kernel
theorem dX2_strongest_21 : decode cX2_strongest 21 = .ok (.ifCond .eq 7, 3) := by decide +kernel
theorem dX2_strongest_24 : decode cX2_strongest 24 = .ok (.iconst 1, 1) := by decide +kernel
theorem dX2_strongest_25 : decode cX2_strongest 25 = .ok (.goto 4, 3) := by decide +kernel
theorem dX2_strongest_28 : decode cX2_strongest 28 = .ok (.iconst 0, 1) := by decide +kernel
theorem dX2_strongest_29 : decode cX2_strongest 29 = .ok (.istore 5, 2) := by decide +kernel
theorem dX2_strongest_31 : decode cX2_strongest 31 = .ok (.iload 5, 2) := by decide +kernel
theorem dX2_strongest_33 : decode cX2_strongest 33 = .ok (.ifCond .eq 32, 3) := by decide +kernel
theorem dX2_strongest_36 : decode cX2_strongest 36 = .ok (.iload_n 3, 1) := by decide +kernel
theorem dX2_strongest_37 : decode cX2_strongest 37 = .ok (.bipush (-2), 2) := by decide +kernel
theorem dX2_strongest_39 : decode cX2_strongest 39 = .ok (.if_icmp .eq 23, 3) := by decide +kernel
theorem dX2_strongest_42 : decode cX2_strongest 42 = .ok (.iload_n 2, 1) := by decide +kernel
theorem dX2_strongest_43 : decode cX2_strongest 43 = .ok (.aload_n 0, 1) := by decide +kernel
theorem dX2_strongest_44 : decode cX2_strongest 44 = .ok (.getfield 9, 3) := by decide +kernel
theorem dX2_strongest_47 : decode cX2_strongest 47 = .ok (.iload 4, 2) := by decide +kernel
theorem dX2_strongest_49 : decode cX2_strongest 49 = .ok (.iaload, 1) := by decide +kernel
theorem dX2_strongest_50 : decode cX2_strongest 50 = .ok (.imul, 1) := by decide +kernel
theorem dX2_strongest_51 : decode cX2_strongest 51 = .ok (.iload_n 2, 1) := by decide +kernel
theorem dX2_strongest_52 : decode cX2_strongest 52 = .ok (.aload_n 0, 1) := by decide +kernel
theorem dX2_strongest_53 : decode cX2_strongest 53 = .ok (.getfield 9, 3) := by decide +kernel
theorem dX2_strongest_56 : decode cX2_strongest 56 = .ok (.iload_n 3, 1) := by decide +kernel
theorem dX2_strongest_57 : decode cX2_strongest 57 = .ok (.iaload, 1) := by decide +kernel
theorem dX2_strongest_58 : decode cX2_strongest 58 = .ok (.imul, 1) := by decide +kernel
theorem dX2_strongest_59 : decode cX2_strongest 59 = .ok (.if_icmp .le 6, 3) := by decide +kernel
theorem dX2_strongest_62 : decode cX2_strongest 62 = .ok (.iload 4, 2) := by decide +kernel
theorem dX2_strongest_64 : decode cX2_strongest 64 = .ok (.istore_n 3, 1) := by decide +kernel
theorem dX2_strongest_65 : decode cX2_strongest 65 = .ok (.iinc 4 1, 3) := by decide +kernel
theorem dX2_strongest_68 : decode cX2_strongest 68 = .ok (.goto (-62), 3) := by decide +kernel
theorem dX2_strongest_71 : decode cX2_strongest 71 = .ok (.iload_n 3, 1) := by decide +kernel
theorem dX2_strongest_72 : decode cX2_strongest 72 = .ok (.ireturn, 1) := by decide +kernel
theorem dX2_findFollowers_0 : decode cX2_findFollowers 0 = .ok (.iconst 0, 1) := by decide +kernel
theorem dX2_findFollowers_1 : decode cX2_findFollowers 1 = .ok (.istore_n 1, 1) := by decide +kernel
theorem dX2_findFollowers_2 : decode cX2_findFollowers 2 = .ok (.iload_n 1, 1) := by decide +kernel
theorem dX2_findFollowers_3 : decode cX2_findFollowers 3 = .ok (.aload_n 0, 1) := by decide +kernel
theorem dX2_findFollowers_4 : decode cX2_findFollowers 4 = .ok (.getfield 30, 3) := by decide +kernel
theorem dX2_findFollowers_7 : decode cX2_findFollowers 7 = .ok (.if_icmp .ge 21, 3) := by decide +kernel
theorem dX2_findFollowers_10 : decode cX2_findFollowers 10 = .ok (.aload_n 0, 1) := by decide +kernel
theorem dX2_findFollowers_11 : decode cX2_findFollowers 11 = .ok (.getfield 24, 3) := by decide +kernel
theorem dX2_findFollowers_14 : decode cX2_findFollowers 14 = .ok (.aload_n 0, 1) := by decide +kernel
theorem dX2_findFollowers_15 : decode cX2_findFollowers 15 = .ok (.getfield 21, 3) := by decide +kernel
theorem dX2_findFollowers_18 : decode cX2_findFollowers 18 = .ok (.iload_n 1, 1) := by decide +kernel
theorem dX2_findFollowers_19 : decode cX2_findFollowers 19 = .ok (.iaload, 1) := by decide +kernel
theorem dX2_findFollowers_20 : decode cX2_findFollowers 20 = .ok (.iload_n 1, 1) := by decide +kernel
theorem dX2_findFollowers_21 : decode cX2_findFollowers 21 = .ok (.iastore, 1) := by decide +kernel
theorem dX2_findFollowers_22 : decode cX2_findFollowers 22 = .ok (.iinc 1 1, 3) := by decide +kernel
theorem dX2_findFollowers_25 : decode cX2_findFollowers 25 = .ok (.goto (-23), 3) := by decide +kernel
theorem dX2_findFollowers_28 : decode cX2_findFollowers 28 = .ok (.iconst 0, 1) := by decide +kernel
theorem dX2_findFollowers_29 : decode cX2_findFollowers 29 = .ok (.istore_n 1, 1) := by decide +kernel
theorem dX2_findFollowers_30 : decode cX2_findFollowers 30 = .ok (.iload_n 1, 1) := by decide +kernel
theorem dX2_findFollowers_31 : decode cX2_findFollowers 31 = .ok (.aload_n 0, 1) := by decide +kernel
theorem dX2_findFollowers_32 : decode cX2_findFollowers 32 = .ok (.getfield 30, 3) := by decide +kernel
theorem dX2_findFollowers_35 : decode cX2_findFollowers 35 = .ok (.if_icmp .ge 40, 3) := by decide +kernel
theorem dX2_findFollowers_38 : decode cX2_findFollowers 38 = .ok (.iconst 0, 1) := by decide +kernel
theorem dX2_findFollowers_39 : decode cX2_findFollowers 39 = .ok (.istore_n 2, 1) := by decide +kernel
theorem dX2_findFollowers_40 : decode cX2_findFollowers 40 = .ok (.iload_n 2, 1) := by decide +kernel
theorem dX2_findFollowers_41 : decode cX2_findFollowers 41 = .ok (.bipush 16, 2) := by decide +kernel
theorem dX2_findFollowers_43 : decode cX2_findFollowers 43 = .ok (.if_icmp .ge 26, 3) := by decide +kernel
theorem dX2_findFollowers_46 : decode cX2_findFollowers 46 = .ok (.aload_n 0, 1) := by decide +kernel
theorem dX2_findFollowers_47 : decode cX2_findFollowers 47 = .ok (.getfield 37, 3) := by decide +kernel
theorem dX2_findFollowers_50 : decode cX2_findFollowers 50 = .ok (.iload_n 1, 1) := by decide +kernel
theorem dX2_findFollowers_51 : decode cX2_findFollowers 51 = .ok (.bipush 16, 2) := by decide +kernel
theorem dX2_findFollowers_53 : decode cX2_findFollowers 53 = .ok (.imul, 1) := by decide +kernel
theorem dX2_findFollowers_54 : decode cX2_findFollowers 54 = .ok (.iload_n 2, 1) := by decide +kernel
theorem dX2_findFollowers_55 : decode cX2_findFollowers 55 = .ok (.iadd, 1) := by decide +kernel
theorem dX2_findFollowers_56 : decode cX2_findFollowers 56 = .ok (.aload_n 0, 1) := by decide +kernel
theorem dX2_findFollowers_57 : decode cX2_findFollowers 57 = .ok (.iload_n 1, 1) := by decide +kernel
theorem dX2_findFollowers_58 : decode cX2_findFollowers 58 = .ok (.iload_n 2, 1) := by decide +kernel
theorem dX2_findFollowers_59 : decode cX2_findFollowers 59 = .ok (.invokevirtual 60, 3) := by decide +kernel
theorem dX2_findFollowers_62 : decode cX2_findFollowers 62 = .ok (.iastore, 1) := by decide +kernel
theorem dX2_findFollowers_63 : decode cX2_findFollowers 63 = .ok (.iinc 2 1, 3) := by decide +kernel
theorem dX2_findFollowers_66 : decode cX2_findFollowers 66 = .ok (.goto (-26), 3) := by decide +kernel
theorem dX2_findFollowers_69 : decode cX2_findFollowers 69 = .ok (.iinc 1 1, 3) := by decide +kernel
theorem dX2_findFollowers_72 : decode cX2_findFollowers 72 = .ok (.goto (-42), 3) := by decide +kernel
theorem dX2_findFollowers_75 : decode cX2_findFollowers 75 = .ok (.return_, 1) := by decide +kernel
theorem dX2_followerOf_0 : decode cX2_followerOf 0 = .ok (.aload_n 0, 1) := by decide +kernel
theorem dX2_followerOf_1 : decode cX2_followerOf 1 = .ok (.getfield 24, 3) := by decide +kernel
theorem dX2_followerOf_4 : decode cX2_followerOf 4 = .ok (.iload_n 1, 1) := by decide +kernel
theorem dX2_followerOf_5 : decode cX2_followerOf 5 = .ok (.iaload, 1) := by decide +kernel
theorem dX2_followerOf_6 : decode cX2_followerOf 6 = .ok (.istore_n 3, 1) := by decide +kernel
theorem dX2_followerOf_7 : decode cX2_followerOf 7 = .ok (.iconst 0, 1) := by decide +kernel
theorem dX2_followerOf_8 : decode cX2_followerOf 8 = .ok (.istore 4, 2) := by decide +kernel
theorem dX2_followerOf_10 : decode cX2_followerOf 10 = .ok (.iload 4, 2) := by decide +kernel
theorem dX2_followerOf_12 : decode cX2_followerOf 12 = .ok (.aload_n 0, 1) := by decide +kernel
theorem dX2_followerOf_13 : decode cX2_followerOf 13 = .ok (.getfield 30, 3) := by decide +kernel
theorem dX2_followerOf_16 : decode cX2_followerOf 16 = .ok (.if_icmp .ge 47, 3) := by decide +kernel
theorem dX2_followerOf_19 : decode cX2_followerOf 19 = .ok (.iload_n 3, 1) := by decide +kernel
theorem dX2_followerOf_20 : decode cX2_followerOf 20 = .ok (.iconst 1, 1) := by decide +kernel
theorem dX2_followerOf_21 : decode cX2_followerOf 21 = .ok (.iadd, 1) := by decide +kernel
theorem dX2_followerOf_22 : decode cX2_followerOf 22 = .ok (.aload_n 0, 1) := by decide +kernel
theorem dX2_followerOf_23 : decode cX2_followerOf 23 = .ok (.getfield 30, 3) := by decide +kernel
theorem dX2_followerOf_26 : decode cX2_followerOf 26 = .ok (.if_icmp .ge 9, 3) := by decide +kernel
theorem dX2_followerOf_29 : decode cX2_followerOf 29 = .ok (.iload_n 3, 1) := by decide +kernel
theorem dX2_followerOf_30 : decode cX2_followerOf 30 = .ok (.iconst 1, 1) := by decide +kernel
theorem dX2_followerOf_31 : decode cX2_followerOf 31 = .ok (.iadd, 1) := by decide +kernel
theorem dX2_followerOf_32 : decode cX2_followerOf 32 = .ok (.goto 4, 3) := by decide +kernel
theorem dX2_followerOf_35 : decode cX2_followerOf 35 = .ok (.iconst 0, 1) := by decide +kernel
theorem dX2_followerOf_36 : decode cX2_followerOf 36 = .ok (.istore_n 3, 1) := by decide +kernel
theorem dX2_followerOf_37 : decode cX2_followerOf 37 = .ok (.iload_n 2, 1) := by decide +kernel
theorem dX2_followerOf_38 : decode cX2_followerOf 38 = .ok (.aload_n 0, 1) := by decide +kernel
theorem dX2_followerOf_39 : decode cX2_followerOf 39 = .ok (.getfield 21, 3) := by decide +kernel
theorem dX2_followerOf_42 : decode cX2_followerOf 42 = .ok (.iload_n 3, 1) := by decide +kernel
theorem dX2_followerOf_43 : decode cX2_followerOf 43 = .ok (.iaload, 1) := by decide +kernel
theorem dX2_followerOf_44 : decode cX2_followerOf 44 = .ok (.ishr, 1) := by decide +kernel
theorem dX2_followerOf_45 : decode cX2_followerOf 45 = .ok (.iconst 1, 1) := by decide +kernel
theorem dX2_followerOf_46 : decode cX2_followerOf 46 = .ok (.iand, 1) := by decide +kernel
theorem dX2_followerOf_47 : decode cX2_followerOf 47 = .ok (.ifCond .eq 10, 3) := by decide +kernel
theorem dX2_followerOf_50 : decode cX2_followerOf 50 = .ok (.aload_n 0, 1) := by decide +kernel
theorem dX2_followerOf_51 : decode cX2_followerOf 51 = .ok (.getfield 21, 3) := by decide +kernel
theorem dX2_followerOf_54 : decode cX2_followerOf 54 = .ok (.iload_n 3, 1) := by decide +kernel
theorem dX2_followerOf_55 : decode cX2_followerOf 55 = .ok (.iaload, 1) := by decide +kernel
theorem dX2_followerOf_56 : decode cX2_followerOf 56 = .ok (.ireturn, 1) := by decide +kernel
theorem dX2_followerOf_57 : decode cX2_followerOf 57 = .ok (.iinc 4 1, 3) := by decide +kernel
theorem dX2_followerOf_60 : decode cX2_followerOf 60 = .ok (.goto (-50), 3) := by decide +kernel
theorem dX2_followerOf_63 : decode cX2_followerOf 63 = .ok (.iload_n 1, 1) := by decide +kernel
theorem dX2_followerOf_64 : decode cX2_followerOf 64 = .ok (.ireturn, 1) := by decide +kernel
theorem dX3_init_0 : decode cX3_init 0 = .ok (.aload_n 0, 1) := by decide +kernel
theorem dX3_init_1 : decode cX3_init 1 = .ok (.invokespecial 3, 3) := by decide +kernel
theorem dX3_init_4 : decode cX3_init 4 = .ok (.aload_n 0, 1) := by decide +kernel
theorem dX3_init_5 : decode cX3_init 5 = .ok (.iconst 0, 1) := by decide +kernel
theorem dX3_init_6 : decode cX3_init 6 = .ok (.putfield 9, 3) := by decide +kernel
theorem dX3_init_9 : decode cX3_init 9 = .ok (.aload_n 0, 1) := by decide +kernel
theorem dX3_init_10 : decode cX3_init 10 = .ok (.bipush 120, 2) := by decide +kernel
theorem dX3_init_12 : decode cX3_init 12 = .ok (.newarray .int, 2) := by decide +kernel
theorem dX3_init_14 : decode cX3_init 14 = .ok (.putfield 15, 3) := by decide +kernel
theorem dX3_init_17 : decode cX3_init 17 = .ok (.aload_n 0, 1) := by decide +kernel
theorem dX3_init_18 : decode cX3_init 18 = .ok (.sipush 256, 3) := by decide +kernel
theorem dX3_init_21 : decode cX3_init 21 = .ok (.newarray .int, 2) := by decide +kernel
theorem dX3_init_23 : decode cX3_init 23 = .ok (.putfield 19, 3) := by decide +kernel
theorem dX3_init_26 : decode cX3_init 26 = .ok (.aload_n 0, 1) := by decide +kernel
theorem dX3_init_27 : decode cX3_init 27 = .ok (.sipush 256, 3) := by decide +kernel
theorem dX3_init_30 : decode cX3_init 30 = .ok (.newarray .int, 2) := by decide +kernel
theorem dX3_init_32 : decode cX3_init 32 = .ok (.putfield 22, 3) := by decide +kernel
theorem dX3_init_35 : decode cX3_init 35 = .ok (.aload_n 0, 1) := by decide +kernel
theorem dX3_init_36 : decode cX3_init 36 = .ok (.iconst 0, 1) := by decide +kernel
theorem dX3_init_37 : decode cX3_init 37 = .ok (.putfield 25, 3) := by decide +kernel
theorem dX3_init_40 : decode cX3_init 40 = .ok (.aload_n 0, 1) := by decide +kernel
theorem dX3_init_41 : decode cX3_init 41 = .ok (.bipush 120, 2) := by decide +kernel
theorem dX3_init_43 : decode cX3_init 43 = .ok (.newarray .int, 2) := by decide +kernel
theorem dX3_init_45 : decode cX3_init 45 = .ok (.putfield 28, 3) := by decide +kernel
theorem dX3_init_48 : decode cX3_init 48 = .ok (.return_, 1) := by decide +kernel
theorem dX3_take_0 : decode cX3_take 0 = .ok (.aload_n 0, 1) := by decide +kernel
theorem dX3_take_1 : decode cX3_take 1 = .ok (.getfield 9, 3) := by decide +kernel
theorem dX3_take_4 : decode cX3_take 4 = .ok (.bipush 120, 2) := by decide +kernel
theorem dX3_take_6 : decode cX3_take 6 = .ok (.if_icmp .lt 6, 3) := by decide +kernel
theorem dX3_take_9 : decode cX3_take 9 = .ok (.bipush (-3), 2) := by decide +kernel
theorem dX3_take_11 : decode cX3_take 11 = .ok (.ireturn, 1) := by decide +kernel
theorem dX3_take_12 : decode cX3_take 12 = .ok (.aload_n 0, 1) := by decide +kernel
theorem dX3_take_13 : decode cX3_take 13 = .ok (.getfield 15, 3) := by decide +kernel
theorem dX3_take_16 : decode cX3_take 16 = .ok (.aload_n 0, 1) := by decide +kernel
theorem dX3_take_17 : decode cX3_take 17 = .ok (.getfield 9, 3) := by decide +kernel
theorem dX3_take_20 : decode cX3_take 20 = .ok (.iload_n 1, 1) := by decide +kernel
theorem dX3_take_21 : decode cX3_take 21 = .ok (.iastore, 1) := by decide +kernel
theorem dX3_take_22 : decode cX3_take 22 = .ok (.aload_n 0, 1) := by decide +kernel
theorem dX3_take_23 : decode cX3_take 23 = .ok (.dup, 1) := by decide +kernel
theorem dX3_take_24 : decode cX3_take 24 = .ok (.getfield 9, 3) := by decide +kernel
theorem dX3_take_27 : decode cX3_take 27 = .ok (.iconst 1, 1) := by decide +kernel
theorem dX3_take_28 : decode cX3_take 28 = .ok (.iadd, 1) := by decide +kernel
theorem dX3_take_29 : decode cX3_take 29 = .ok (.putfield 9, 3) := by decide +kernel
theorem dX3_take_32 : decode cX3_take 32 = .ok (.aload_n 0, 1) := by decide +kernel
theorem dX3_take_33 : decode cX3_take 33 = .ok (.getfield 9, 3) := by decide +kernel
theorem dX3_take_36 : decode cX3_take 36 = .ok (.ireturn, 1) := by decide +kernel
theorem dX3_readTape_0 : decode cX3_readTape 0 = .ok (.aload_n 0, 1) := by decide +kernel
theorem dX3_readTape_1 : decode cX3_readTape 1 = .ok (.iconst 0, 1) := by decide +kernel
theorem dX3_readTape_2 : decode cX3_readTape 2 = .ok (.putfield 31, 3) := by decide +kernel
theorem dX3_readTape_5 : decode cX3_readTape 5 = .ok (.aload_n 0, 1) := by decide +kernel
theorem dX3_readTape_6 : decode cX3_readTape 6 = .ok (.iconst 0, 1) := by decide +kernel
theorem dX3_readTape_7 : decode cX3_readTape 7 = .ok (.putfield 34, 3) := by decide +kernel
theorem dX3_readTape_10 : decode cX3_readTape 10 = .ok (.aload_n 0, 1) := by decide +kernel
theorem dX3_readTape_11 : decode cX3_readTape 11 = .ok (.invokevirtual 37, 3) := by decide +kernel
theorem dX3_readTape_14 : decode cX3_readTape 14 = .ok (.istore_n 1, 1) := by decide +kernel
theorem dX3_readTape_15 : decode cX3_readTape 15 = .ok (.iconst 0, 1) := by decide +kernel
theorem dX3_readTape_16 : decode cX3_readTape 16 = .ok (.istore_n 2, 1) := by decide +kernel
theorem dX3_readTape_17 : decode cX3_readTape 17 = .ok (.iload_n 2, 1) := by decide +kernel
theorem dX3_readTape_18 : decode cX3_readTape 18 = .ok (.bipush 120, 2) := by decide +kernel
theorem dX3_readTape_20 : decode cX3_readTape 20 = .ok (.if_icmp .ge 37, 3) := by decide +kernel
theorem dX3_readTape_23 : decode cX3_readTape 23 = .ok (.iload_n 1, 1) := by decide +kernel
theorem dX3_readTape_24 : decode cX3_readTape 24 = .ok (.ifCond .eq 33, 3) := by decide +kernel
theorem dX3_readTape_27 : decode cX3_readTape 27 = .ok (.aload_n 0, 1) := by decide +kernel
theorem dX3_readTape_28 : decode cX3_readTape 28 = .ok (.invokevirtual 41, 3) := by decide +kernel
theorem dX3_readTape_31 : decode cX3_readTape 31 = .ok (.bipush 59, 2) := by decide +kernel
theorem dX3_readTape_33 : decode cX3_readTape 33 = .ok (.if_icmp .ne 24, 3) := by decide +kernel
theorem dX3_readTape_36 : decode cX3_readTape 36 = .ok (.aload_n 0, 1) := by decide +kernel
theorem dX3_readTape_37 : decode cX3_readTape 37 = .ok (.dup, 1) := by decide +kernel
theorem dX3_readTape_38 : decode cX3_readTape 38 = .ok (.getfield 31, 3) := by decide +kernel
theorem dX3_readTape_41 : decode cX3_readTape 41 = .ok (.iconst 1, 1) := by decide +kernel
theorem dX3_readTape_42 : decode cX3_readTape 42 = .ok (.iadd, 1) := by decide +kernel
theorem dX3_readTape_43 : decode cX3_readTape 43 = .ok (.putfield 31, 3) := by decide +kernel
theorem dX3_readTape_46 : decode cX3_readTape 46 = .ok (.aload_n 0, 1) := by decide +kernel
theorem dX3_readTape_47 : decode cX3_readTape 47 = .ok (.invokevirtual 37, 3) := by decide +kernel
theorem dX3_readTape_50 : decode cX3_readTape 50 = .ok (.istore_n 1, 1) := by decide +kernel
theorem dX3_readTape_51 : decode cX3_readTape 51 = .ok (.iinc 2 1, 3) := by decide +kernel
theorem dX3_readTape_54 : decode cX3_readTape 54 = .ok (.goto (-37), 3) := by decide +kernel
theorem dX3_readTape_57 : decode cX3_readTape 57 = .ok (.iload_n 1, 1) := by decide +kernel
theorem dX3_readTape_58 : decode cX3_readTape 58 = .ok (.ifCond .eq 18, 3) := by decide +kernel
theorem dX3_readTape_61 : decode cX3_readTape 61 = .ok (.aload_n 0, 1) := by decide +kernel
theorem dX3_readTape_62 : decode cX3_readTape 62 = .ok (.getfield 31, 3) := by decide +kernel
theorem dX3_readTape_65 : decode cX3_readTape 65 = .ok (.aload_n 0, 1) := by decide +kernel
theorem dX3_readTape_66 : decode cX3_readTape 66 = .ok (.getfield 9, 3) := by decide +kernel
theorem dX3_readTape_69 : decode cX3_readTape 69 = .ok (.if_icmp .ne 7, 3) := by decide +kernel
theorem dX3_readTape_72 : decode cX3_readTape 72 = .ok (.iconst (-1), 1) := by decide +kernel
theorem dX3_readTape_73 : decode cX3_readTape 73 = .ok (.goto 7, 3) := by decide +kernel
theorem dX3_readTape_76 : decode cX3_readTape 76 = .ok (.aload_n 0, 1) := by decide +kernel
theorem dX3_readTape_77 : decode cX3_readTape 77 = .ok (.getfield 31, 3) := by decide +kernel
theorem dX3_readTape_80 : decode cX3_readTape 80 = .ok (.istore_n 2, 1) := by decide +kernel
theorem dX3_readTape_81 : decode cX3_readTape 81 = .ok (.iload_n 2, 1) := by decide +kernel
theorem dX3_readTape_82 : decode cX3_readTape 82 = .ok (.iconst (-1), 1) := by decide +kernel
theorem dX3_readTape_83 : decode cX3_readTape 83 = .ok (.if_icmp .ne 28, 3) := by decide +kernel
theorem dX3_readTape_86 : decode cX3_readTape 86 = .ok (.aload_n 0, 1) := by decide +kernel
theorem dX3_readTape_87 : decode cX3_readTape 87 = .ok (.getfield 19, 3) := by decide +kernel
theorem dX3_readTape_90 : decode cX3_readTape 90 = .ok (.iconst 0, 1) := by decide +kernel
theorem dX3_readTape_91 : decode cX3_readTape 91 = .ok (.aload_n 0, 1) := by decide +kernel
theorem dX3_readTape_92 : decode cX3_readTape 92 = .ok (.getfield 22, 3) := by decide +kernel
theorem dX3_readTape_95 : decode cX3_readTape 95 = .ok (.iconst 0, 1) := by decide +kernel
theorem dX3_readTape_96 : decode cX3_readTape 96 = .ok (.aload_n 0, 1) := by decide +kernel
theorem dX3_readTape_97 : decode cX3_readTape 97 = .ok (.getfield 34, 3) := by decide +kernel
theorem dX3_readTape_100 : decode cX3_readTape 100 = .ok (.invokestatic 45, 3) := by decide +kernel
theorem dX3_readTape_103 : decode cX3_readTape 103 = .ok (.aload_n 0, 1) := by decide +kernel
theorem dX3_readTape_104 : decode cX3_readTape 104 = .ok (.aload_n 0, 1) := by decide +kernel
theorem dX3_readTape_105 : decode cX3_readTape 105 = .ok (.getfield 34, 3) := by decide +kernel
theorem dX3_readTape_108 : decode cX3_readTape 108 = .ok (.putfield 25, 3) := by decide +kernel
theorem dX3_readTape_111 : decode cX3_readTape 111 = .ok (.aload_n 0, 1) := by decide +kernel
theorem dX3_readTape_112 : decode cX3_readTape 112 = .ok (.iconst 0, 1) := by decide +kernel
theorem dX3_readTape_113 : decode cX3_readTape 113 = .ok (.putfield 9, 3) := by decide +kernel
theorem dX3_readTape_116 : decode cX3_readTape 116 = .ok (.iload_n 2, 1) := by decide +kernel
theorem dX3_readTape_117 : decode cX3_readTape 117 = .ok (.ireturn, 1) := by decide +kernel
theorem dX3_isThere_0 : decode cX3_isThere 0 = .ok (.aload_n 0, 1) := by decide +kernel
theorem dX3_isThere_1 : decode cX3_isThere 1 = .ok (.getfield 25, 3) := by decide +kernel
theorem dX3_isThere_4 : decode cX3_isThere 4 = .ok (.ifCond .le 7, 3) := by decide +kernel
theorem dX3_isThere_7 : decode cX3_isThere 7 = .ok (.iconst 1, 1) := by decide +kernel
theorem dX3_isThere_8 : decode cX3_isThere 8 = .ok (.goto 4, 3) := by decide +kernel
theorem dX3_isThere_11 : decode cX3_isThere 11 = .ok (.iconst 0, 1) := by decide +kernel
theorem dX3_isThere_12 : decode cX3_isThere 12 = .ok (.ireturn, 1) := by decide +kernel
theorem dX3_number_0 : decode cX3_number 0 = .ok (.aload_n 0, 1) := by decide +kernel
theorem dX3_number_1 : decode cX3_number 1 = .ok (.iconst 0, 1) := by decide +kernel
theorem dX3_number_2 : decode cX3_number 2 = .ok (.putfield 51, 3) := by decide +kernel
theorem dX3_number_5 : decode cX3_number 5 = .ok (.iconst 0, 1) := by decide +kernel
theorem dX3_number_6 : decode cX3_number 6 = .ok (.istore 6, 2) := by decide +kernel
theorem dX3_number_8 : decode cX3_number 8 = .ok (.iload 6, 2) := by decide +kernel
theorem dX3_number_10 : decode cX3_number 10 = .ok (.aload_n 0, 1) := by decide +kernel
theorem dX3_number_11 : decode cX3_number 11 = .ok (.getfield 25, 3) := by decide +kernel
theorem dX3_number_14 : decode cX3_number 14 = .ok (.if_icmp .ge 262, 3) := by decide +kernel
theorem dX3_number_17 : decode cX3_number 17 = .ok (.aload_n 0, 1) := by decide +kernel
theorem dX3_number_18 : decode cX3_number 18 = .ok (.getfield 22, 3) := by decide +kernel
theorem dX3_number_21 : decode cX3_number 21 = .ok (.iload 6, 2) := by decide +kernel
theorem dX3_number_23 : decode cX3_number 23 = .ok (.iaload, 1) := by decide +kernel
theorem dX3_number_24 : decode cX3_number 24 = .ok (.ineg, 1) := by decide +kernel
theorem dX3_number_25 : decode cX3_number 25 = .ok (.istore 7, 2) := by decide +kernel
theorem dX3_number_27 : decode cX3_number 27 = .ok (.iload 7, 2) := by decide +kernel
theorem dX3_number_29 : decode cX3_number 29 = .ok (.ifCond .gt 17, 3) := by decide +kernel
theorem dX3_number_32 : decode cX3_number 32 = .ok (.aload_n 0, 1) := by decide +kernel
theorem dX3_number_33 : decode cX3_number 33 = .ok (.aload_n 0, 1) := by decide +kernel
theorem dX3_number_34 : decode cX3_number 34 = .ok (.getfield 22, 3) := by decide +kernel
theorem dX3_number_37 : decode cX3_number 37 = .ok (.iload 6, 2) := by decide +kernel
theorem dX3_number_39 : decode cX3_number 39 = .ok (.iaload, 1) := by decide +kernel
theorem dX3_number_40 : decode cX3_number 40 = .ok (.invokevirtual 54, 3) := by decide +kernel
theorem dX3_number_43 : decode cX3_number 43 = .ok (.goto 227, 3) := by decide +kernel
theorem dX3_number_46 : decode cX3_number 46 = .ok (.iload 7, 2) := by decide +kernel
theorem dX3_number_48 : decode cX3_number 48 = .ok (.lookupswitch 201 #[(33, 126), (59, 187), (63, 157), (97, 92), (104, 84), (109, 108), (110, 117), (116, 100), (126, 145)], 84) := by decide +kernel
theorem dX3_number_132 : decode cX3_number 132 = .ok (.aload_n 0, 1) := by decide +kernel
theorem dX3_number_133 : decode cX3_number 133 = .ok (.iload_n 1, 1) := by decide +kernel
theorem dX3_number_134 : decode cX3_number 134 = .ok (.invokevirtual 54, 3) := by decide +kernel
theorem dX3_number_137 : decode cX3_number 137 = .ok (.goto 133, 3) := by decide +kernel
theorem dX3_number_140 : decode cX3_number 140 = .ok (.aload_n 0, 1) := by decide +kernel
theorem dX3_number_141 : decode cX3_number 141 = .ok (.iload_n 2, 1) := by decide +kernel
theorem dX3_number_142 : decode cX3_number 142 = .ok (.invokevirtual 54, 3) := by decide +kernel
theorem dX3_number_145 : decode cX3_number 145 = .ok (.goto 125, 3) := by decide +kernel
theorem dX3_number_148 : decode cX3_number 148 = .ok (.aload_n 0, 1) := by decide +kernel
theorem dX3_number_149 : decode cX3_number 149 = .ok (.iload_n 3, 1) := by decide +kernel
theorem dX3_number_150 : decode cX3_number 150 = .ok (.invokevirtual 54, 3) := by decide +kernel
theorem dX3_number_153 : decode cX3_number 153 = .ok (.goto 117, 3) := by decide +kernel
theorem dX3_number_156 : decode cX3_number 156 = .ok (.aload_n 0, 1) := by decide +kernel
theorem dX3_number_157 : decode cX3_number 157 = .ok (.iload 4, 2) := by decide +kernel
theorem dX3_number_159 : decode cX3_number 159 = .ok (.invokevirtual 54, 3) := by decide +kernel
theorem dX3_number_162 : decode cX3_number 162 = .ok (.goto 108, 3) := by decide +kernel
theorem dX3_number_165 : decode cX3_number 165 = .ok (.aload_n 0, 1) := by decide +kernel
theorem dX3_number_166 : decode cX3_number 166 = .ok (.iload 5, 2) := by decide +kernel
theorem dX3_number_168 : decode cX3_number 168 = .ok (.invokevirtual 54, 3) := by decide +kernel
theorem dX3_number_171 : decode cX3_number 171 = .ok (.goto 99, 3) := by decide +kernel
theorem dX3_number_174 : decode cX3_number 174 = .ok (.aload_n 0, 1) := by decide +kernel
theorem dX3_number_175 : decode cX3_number 175 = .ok (.aload_n 0, 1) := by decide +kernel
theorem dX3_number_176 : decode cX3_number 176 = .ok (.invokevirtual 58, 3) := by decide +kernel
theorem dX3_number_179 : decode cX3_number 179 = .ok (.ifCond .ne 7, 3) := by decide +kernel
theorem dX3_number_182 : decode cX3_number 182 = .ok (.iconst 1, 1) := by decide +kernel
theorem dX3_number_183 : decode cX3_number 183 = .ok (.goto 4, 3) := by decide +kernel
theorem dX3_number_186 : decode cX3_number 186 = .ok (.iconst 0, 1) := by decide +kernel
theorem dX3_number_187 : decode cX3_number 187 = .ok (.invokevirtual 54, 3) := by decide +kernel
theorem dX3_number_190 : decode cX3_number 190 = .ok (.goto 80, 3) := by decide +kernel
theorem dX3_number_193 : decode cX3_number 193 = .ok (.aload_n 0, 1) := by decide +kernel
theorem dX3_number_194 : decode cX3_number 194 = .ok (.aload_n 0, 1) := by decide +kernel
theorem dX3_number_195 : decode cX3_number 195 = .ok (.invokevirtual 58, 3) := by decide +kernel
theorem dX3_number_198 : decode cX3_number 198 = .ok (.ineg, 1) := by decide +kernel
theorem dX3_number_199 : decode cX3_number 199 = .ok (.invokevirtual 54, 3) := by decide +kernel
theorem dX3_number_202 : decode cX3_number 202 = .ok (.goto 68, 3) := by decide +kernel
theorem dX3_number_205 : decode cX3_number 205 = .ok (.iload 6, 2) := by decide +kernel
theorem dX3_number_207 : decode cX3_number 207 = .ok (.aload_n 0, 1) := by decide +kernel
theorem dX3_number_208 : decode cX3_number 208 = .ok (.invokevirtual 58, 3) := by decide +kernel
theorem dX3_number_211 : decode cX3_number 211 = .ok (.ifCond .eq 10, 3) := by decide +kernel
theorem dX3_number_214 : decode cX3_number 214 = .ok (.iload 6, 2) := by decide +kernel
theorem dX3_number_216 : decode cX3_number 216 = .ok (.iconst 1, 1) := by decide +kernel
theorem dX3_number_217 : decode cX3_number 217 = .ok (.iadd, 1) := by decide +kernel
theorem dX3_number_218 : decode cX3_number 218 = .ok (.goto 9, 3) := by decide +kernel
theorem dX3_number_221 : decode cX3_number 221 = .ok (.aload_n 0, 1) := by decide +kernel
theorem dX3_number_222 : decode cX3_number 222 = .ok (.iload 6, 2) := by decide +kernel
theorem dX3_number_224 : decode cX3_number 224 = .ok (.invokevirtual 61, 3) := by decide +kernel
theorem dX3_number_227 : decode cX3_number 227 = .ok (.invokestatic 65, 3) := by decide +kernel
theorem dX3_number_230 : decode cX3_number 230 = .ok (.istore 6, 2) := by decide +kernel
theorem dX3_number_232 : decode cX3_number 232 = .ok (.goto 38, 3) := by decide +kernel
theorem dX3_number_235 : decode cX3_number 235 = .ok (.iconst 0, 1) := by decide +kernel
theorem dX3_number_236 : decode cX3_number 236 = .ok (.bipush 12, 2) := by decide +kernel
theorem dX3_number_238 : decode cX3_number 238 = .ok (.aload_n 0, 1) := by decide +kernel
theorem dX3_number_239 : decode cX3_number 239 = .ok (.invokevirtual 58, 3) := by decide +kernel
theorem dX3_number_242 : decode cX3_number 242 = .ok (.invokestatic 71, 3) := by decide +kernel
theorem dX3_number_245 : decode cX3_number 245 = .ok (.invokestatic 65, 3) := by decide +kernel
theorem dX3_number_248 : decode cX3_number 248 = .ok (.ireturn, 1) := by decide +kernel
theorem dX3_number_249 : decode cX3_number 249 = .ok (.aload_n 0, 1) := by decide +kernel
theorem dX3_number_250 : decode cX3_number 250 = .ok (.invokevirtual 58, 3) := by decide +kernel
theorem dX3_number_253 : decode cX3_number 253 = .ok (.istore 8, 2) := by decide +kernel
theorem dX3_number_255 : decode cX3_number 255 = .ok (.aload_n 0, 1) := by decide +kernel
theorem dX3_number_256 : decode cX3_number 256 = .ok (.iload 7, 2) := by decide +kernel
theorem dX3_number_258 : decode cX3_number 258 = .ok (.aload_n 0, 1) := by decide +kernel
theorem dX3_number_259 : decode cX3_number 259 = .ok (.invokevirtual 58, 3) := by decide +kernel
theorem dX3_number_262 : decode cX3_number 262 = .ok (.iload 8, 2) := by decide +kernel
theorem dX3_number_264 : decode cX3_number 264 = .ok (.invokestatic 74, 3) := by decide +kernel
theorem dX3_number_267 : decode cX3_number 267 = .ok (.invokevirtual 54, 3) := by decide +kernel
theorem dX3_number_270 : decode cX3_number 270 = .ok (.iinc 6 1, 3) := by decide +kernel
theorem dX3_number_273 : decode cX3_number 273 = .ok (.goto (-265), 3) := by decide +kernel
theorem dX3_number_276 : decode cX3_number 276 = .ok (.iconst 0, 1) := by decide +kernel
theorem dX3_number_277 : decode cX3_number 277 = .ok (.ireturn, 1) := by decide +kernel
theorem dX3_lastOfLine_0 : decode cX3_lastOfLine 0 = .ok (.iload_n 1, 1) := by decide +kernel
theorem dX3_lastOfLine_1 : decode cX3_lastOfLine 1 = .ok (.iconst 1, 1) := by decide +kernel
theorem dX3_lastOfLine_2 : decode cX3_lastOfLine 2 = .ok (.iadd, 1) := by decide +kernel
theorem dX3_lastOfLine_3 : decode cX3_lastOfLine 3 = .ok (.aload_n 0, 1) := by decide +kernel
theorem dX3_lastOfLine_4 : decode cX3_lastOfLine 4 = .ok (.getfield 25, 3) := by decide +kernel
theorem dX3_lastOfLine_7 : decode cX3_lastOfLine 7 = .ok (.if_icmp .ge 16, 3) := by decide +kernel
theorem dX3_lastOfLine_10 : decode cX3_lastOfLine 10 = .ok (.aload_n 0, 1) := by decide +kernel
theorem dX3_lastOfLine_11 : decode cX3_lastOfLine 11 = .ok (.getfield 22, 3) := by decide +kernel
theorem dX3_lastOfLine_14 : decode cX3_lastOfLine 14 = .ok (.iload_n 1, 1) := by decide +kernel
theorem dX3_lastOfLine_15 : decode cX3_lastOfLine 15 = .ok (.iconst 1, 1) := by decide +kernel
theorem dX3_lastOfLine_16 : decode cX3_lastOfLine 16 = .ok (.iadd, 1) := by decide +kernel
theorem dX3_lastOfLine_17 : decode cX3_lastOfLine 17 = .ok (.iaload, 1) := by decide +kernel
theorem dX3_lastOfLine_18 : decode cX3_lastOfLine 18 = .ok (.iconst 1, 1) := by decide +kernel
theorem dX3_lastOfLine_19 : decode cX3_lastOfLine 19 = .ok (.isub, 1) := by decide +kernel
theorem dX3_lastOfLine_20 : decode cX3_lastOfLine 20 = .ok (.goto 7, 3) := by decide +kernel
theorem dX3_lastOfLine_23 : decode cX3_lastOfLine 23 = .ok (.aload_n 0, 1) := by decide +kernel
theorem dX3_lastOfLine_24 : decode cX3_lastOfLine 24 = .ok (.getfield 25, 3) := by decide +kernel
theorem dX3_lastOfLine_27 : decode cX3_lastOfLine 27 = .ok (.ireturn, 1) := by decide +kernel
theorem dX3_joined_0 : decode cX3_joined 0 = .ok (.iload_n 0, 1) := by decide +kernel
theorem dX3_joined_1 : decode cX3_joined 1 = .ok (.lookupswitch 168 #[(38, 97), (42, 152), (43, 144), (45, 148), (47, 156), (60, 111), (61, 122), (62, 133), (124, 83)], 83) := by decide +kernel
theorem dX3_joined_84 : decode cX3_joined 84 = .ok (.iload_n 1, 1) := by decide +kernel
theorem dX3_joined_85 : decode cX3_joined 85 = .ok (.ifCond .ne 7, 3) := by decide +kernel
theorem dX3_joined_88 : decode cX3_joined 88 = .ok (.iload_n 2, 1) := by decide +kernel
theorem dX3_joined_89 : decode cX3_joined 89 = .ok (.ifCond .eq 7, 3) := by decide +kernel
theorem dX3_joined_92 : decode cX3_joined 92 = .ok (.iconst 1, 1) := by decide +kernel
theorem dX3_joined_93 : decode cX3_joined 93 = .ok (.goto 4, 3) := by decide +kernel
theorem dX3_joined_96 : decode cX3_joined 96 = .ok (.iconst 0, 1) := by decide +kernel
theorem dX3_joined_97 : decode cX3_joined 97 = .ok (.ireturn, 1) := by decide +kernel
theorem dX3_joined_98 : decode cX3_joined 98 = .ok (.iload_n 1, 1) := by decide +kernel
theorem dX3_joined_99 : decode cX3_joined 99 = .ok (.ifCond .eq 11, 3) := by decide +kernel
theorem dX3_joined_102 : decode cX3_joined 102 = .ok (.iload_n 2, 1) := by decide +kernel
theorem dX3_joined_103 : decode cX3_joined 103 = .ok (.ifCond .eq 7, 3) := by decide +kernel
theorem dX3_joined_106 : decode cX3_joined 106 = .ok (.iconst 1, 1) := by decide +kernel
theorem dX3_joined_107 : decode cX3_joined 107 = .ok (.goto 4, 3) := by decide +kernel
theorem dX3_joined_110 : decode cX3_joined 110 = .ok (.iconst 0, 1) := by decide +kernel
theorem dX3_joined_111 : decode cX3_joined 111 = .ok (.ireturn, 1) := by decide +kernel
theorem dX3_joined_112 : decode cX3_joined 112 = .ok (.iload_n 1, 1) := by decide +kernel
theorem dX3_joined_113 : decode cX3_joined 113 = .ok (.iload_n 2, 1) := by decide +kernel
theorem dX3_joined_114 : decode cX3_joined 114 = .ok (.if_icmp .ge 7, 3) := by decide +kernel
theorem dX3_joined_117 : decode cX3_joined 117 = .ok (.iconst 1, 1) := by decide +kernel
theorem dX3_joined_118 : decode cX3_joined 118 = .ok (.goto 4, 3) := by decide +kernel
theorem dX3_joined_121 : decode cX3_joined 121 = .ok (.iconst 0, 1) := by decide +kernel
theorem dX3_joined_122 : decode cX3_joined 122 = .ok (.ireturn, 1) := by decide +kernel
theorem dX3_joined_123 : decode cX3_joined 123 = .ok (.iload_n 1, 1) := by decide +kernel
theorem dX3_joined_124 : decode cX3_joined 124 = .ok (.iload_n 2, 1) := by decide +kernel
theorem dX3_joined_125 : decode cX3_joined 125 = .ok (.if_icmp .ne 7, 3) := by decide +kernel
theorem dX3_joined_128 : decode cX3_joined 128 = .ok (.iconst 1, 1) := by decide +kernel
theorem dX3_joined_129 : decode cX3_joined 129 = .ok (.goto 4, 3) := by decide +kernel
theorem dX3_joined_132 : decode cX3_joined 132 = .ok (.iconst 0, 1) := by decide +kernel
theorem dX3_joined_133 : decode cX3_joined 133 = .ok (.ireturn, 1) := by decide +kernel
theorem dX3_joined_134 : decode cX3_joined 134 = .ok (.iload_n 1, 1) := by decide +kernel
theorem dX3_joined_135 : decode cX3_joined 135 = .ok (.iload_n 2, 1) := by decide +kernel
theorem dX3_joined_136 : decode cX3_joined 136 = .ok (.if_icmp .le 7, 3) := by decide +kernel
theorem dX3_joined_139 : decode cX3_joined 139 = .ok (.iconst 1, 1) := by decide +kernel
theorem dX3_joined_140 : decode cX3_joined 140 = .ok (.goto 4, 3) := by decide +kernel
theorem dX3_joined_143 : decode cX3_joined 143 = .ok (.iconst 0, 1) := by decide +kernel
theorem dX3_joined_144 : decode cX3_joined 144 = .ok (.ireturn, 1) := by decide +kernel
theorem dX3_joined_145 : decode cX3_joined 145 = .ok (.iload_n 1, 1) := by decide +kernel
theorem dX3_joined_146 : decode cX3_joined 146 = .ok (.iload_n 2, 1) := by decide +kernel
theorem dX3_joined_147 : decode cX3_joined 147 = .ok (.iadd, 1) := by decide +kernel
theorem dX3_joined_148 : decode cX3_joined 148 = .ok (.ireturn, 1) := by decide +kernel
theorem dX3_joined_149 : decode cX3_joined 149 = .ok (.iload_n 1, 1) := by decide +kernel
theorem dX3_joined_150 : decode cX3_joined 150 = .ok (.iload_n 2, 1) := by decide +kernel
theorem dX3_joined_151 : decode cX3_joined 151 = .ok (.isub, 1) := by decide +kernel
theorem dX3_joined_152 : decode cX3_joined 152 = .ok (.ireturn, 1) := by decide +kernel
theorem dX3_joined_153 : decode cX3_joined 153 = .ok (.iload_n 1, 1) := by decide +kernel
theorem dX3_joined_154 : decode cX3_joined 154 = .ok (.iload_n 2, 1) := by decide +kernel
theorem dX3_joined_155 : decode cX3_joined 155 = .ok (.imul, 1) := by decide +kernel
theorem dX3_joined_156 : decode cX3_joined 156 = .ok (.ireturn, 1) := by decide +kernel
theorem dX3_joined_157 : decode cX3_joined 157 = .ok (.iload_n 2, 1) := by decide +kernel
theorem dX3_joined_158 : decode cX3_joined 158 = .ok (.ifCond .ne 7, 3) := by decide +kernel
theorem dX3_joined_161 : decode cX3_joined 161 = .ok (.iconst 0, 1) := by decide +kernel
theorem dX3_joined_162 : decode cX3_joined 162 = .ok (.goto 6, 3) := by decide +kernel
theorem dX3_joined_165 : decode cX3_joined 165 = .ok (.iload_n 1, 1) := by decide +kernel
theorem dX3_joined_166 : decode cX3_joined 166 = .ok (.iload_n 2, 1) := by decide +kernel
theorem dX3_joined_167 : decode cX3_joined 167 = .ok (.idiv, 1) := by decide +kernel
theorem dX3_joined_168 : decode cX3_joined 168 = .ok (.ireturn, 1) := by decide +kernel
theorem dX3_joined_169 : decode cX3_joined 169 = .ok (.iload_n 2, 1) := by decide +kernel
theorem dX3_joined_170 : decode cX3_joined 170 = .ok (.ifCond .ne 7, 3) := by decide +kernel
theorem dX3_joined_173 : decode cX3_joined 173 = .ok (.iconst 0, 1) := by decide +kernel
theorem dX3_joined_174 : decode cX3_joined 174 = .ok (.goto 6, 3) := by decide +kernel
theorem dX3_joined_177 : decode cX3_joined 177 = .ok (.iload_n 1, 1) := by decide +kernel
theorem dX3_joined_178 : decode cX3_joined 178 = .ok (.iload_n 2, 1) := by decide +kernel
theorem dX3_joined_179 : decode cX3_joined 179 = .ok (.irem, 1) := by decide +kernel
theorem dX3_joined_180 : decode cX3_joined 180 = .ok (.ireturn, 1) := by decide +kernel
theorem dX3_push_0 : decode cX3_push 0 = .ok (.aload_n 0, 1) := by decide +kernel
theorem dX3_push_1 : decode cX3_push 1 = .ok (.getfield 51, 3) := by decide +kernel
theorem dX3_push_4 : decode cX3_push 4 = .ok (.bipush 120, 2) := by decide +kernel
theorem dX3_push_6 : decode cX3_push 6 = .ok (.if_icmp .ge 23, 3) := by decide +kernel
theorem dX3_push_9 : decode cX3_push 9 = .ok (.aload_n 0, 1) := by decide +kernel
theorem dX3_push_10 : decode cX3_push 10 = .ok (.getfield 28, 3) := by decide +kernel
theorem dX3_push_13 : decode cX3_push 13 = .ok (.aload_n 0, 1) := by decide +kernel
theorem dX3_push_14 : decode cX3_push 14 = .ok (.getfield 51, 3) := by decide +kernel
theorem dX3_push_17 : decode cX3_push 17 = .ok (.iload_n 1, 1) := by decide +kernel
theorem dX3_push_18 : decode cX3_push 18 = .ok (.iastore, 1) := by decide +kernel
theorem dX3_push_19 : decode cX3_push 19 = .ok (.aload_n 0, 1) := by decide +kernel
theorem dX3_push_20 : decode cX3_push 20 = .ok (.dup, 1) := by decide +kernel
theorem dX3_push_21 : decode cX3_push 21 = .ok (.getfield 51, 3) := by decide +kernel
theorem dX3_push_24 : decode cX3_push 24 = .ok (.iconst 1, 1) := by decide +kernel
theorem dX3_push_25 : decode cX3_push 25 = .ok (.iadd, 1) := by decide +kernel
theorem dX3_push_26 : decode cX3_push 26 = .ok (.putfield 51, 3) := by decide +kernel
theorem dX3_push_29 : decode cX3_push 29 = .ok (.return_, 1) := by decide +kernel
theorem dX3_pop_0 : decode cX3_pop 0 = .ok (.aload_n 0, 1) := by decide +kernel
theorem dX3_pop_1 : decode cX3_pop 1 = .ok (.getfield 51, 3) := by decide +kernel
theorem dX3_pop_4 : decode cX3_pop 4 = .ok (.ifCond .gt 5, 3) := by decide +kernel
theorem dX3_pop_7 : decode cX3_pop 7 = .ok (.iconst 0, 1) := by decide +kernel
theorem dX3_pop_8 : decode cX3_pop 8 = .ok (.ireturn, 1) := by decide +kernel
theorem dX3_pop_9 : decode cX3_pop 9 = .ok (.aload_n 0, 1) := by decide +kernel
theorem dX3_pop_10 : decode cX3_pop 10 = .ok (.dup, 1) := by decide +kernel
theorem dX3_pop_11 : decode cX3_pop 11 = .ok (.getfield 51, 3) := by decide +kernel
theorem dX3_pop_14 : decode cX3_pop 14 = .ok (.iconst 1, 1) := by decide +kernel
theorem dX3_pop_15 : decode cX3_pop 15 = .ok (.isub, 1) := by decide +kernel
theorem dX3_pop_16 : decode cX3_pop 16 = .ok (.putfield 51, 3) := by decide +kernel
theorem dX3_pop_19 : decode cX3_pop 19 = .ok (.aload_n 0, 1) := by decide +kernel
theorem dX3_pop_20 : decode cX3_pop 20 = .ok (.getfield 28, 3) := by decide +kernel
theorem dX3_pop_23 : decode cX3_pop 23 = .ok (.aload_n 0, 1) := by decide +kernel
theorem dX3_pop_24 : decode cX3_pop 24 = .ok (.getfield 51, 3) := by decide +kernel
theorem dX3_pop_27 : decode cX3_pop 27 = .ok (.iaload, 1) := by decide +kernel
theorem dX3_pop_28 : decode cX3_pop 28 = .ok (.ireturn, 1) := by decide +kernel
theorem dX3_next_0 : decode cX3_next 0 = .ok (.aload_n 0, 1) := by decide +kernel
theorem dX3_next_1 : decode cX3_next 1 = .ok (.getfield 31, 3) := by decide +kernel
theorem dX3_next_4 : decode cX3_next 4 = .ok (.aload_n 0, 1) := by decide +kernel
theorem dX3_next_5 : decode cX3_next 5 = .ok (.getfield 9, 3) := by decide +kernel
theorem dX3_next_8 : decode cX3_next 8 = .ok (.if_icmp .ge 15, 3) := by decide +kernel
theorem dX3_next_11 : decode cX3_next 11 = .ok (.aload_n 0, 1) := by decide +kernel
theorem dX3_next_12 : decode cX3_next 12 = .ok (.getfield 15, 3) := by decide +kernel
theorem dX3_next_15 : decode cX3_next 15 = .ok (.aload_n 0, 1) := by decide +kernel
theorem dX3_next_16 : decode cX3_next 16 = .ok (.getfield 31, 3) := by decide +kernel
theorem dX3_next_19 : decode cX3_next 19 = .ok (.iaload, 1) := by decide +kernel
theorem dX3_next_20 : decode cX3_next 20 = .ok (.goto 4, 3) := by decide +kernel
theorem dX3_next_23 : decode cX3_next 23 = .ok (.iconst (-1), 1) := by decide +kernel
theorem dX3_next_24 : decode cX3_next 24 = .ok (.ireturn, 1) := by decide +kernel
theorem dX3_write_0 : decode cX3_write 0 = .ok (.aload_n 0, 1) := by decide +kernel
theorem dX3_write_1 : decode cX3_write 1 = .ok (.getfield 34, 3) := by decide +kernel
theorem dX3_write_4 : decode cX3_write 4 = .ok (.sipush 256, 3) := by decide +kernel
theorem dX3_write_7 : decode cX3_write 7 = .ok (.if_icmp .ge 23, 3) := by decide +kernel
theorem dX3_write_10 : decode cX3_write 10 = .ok (.aload_n 0, 1) := by decide +kernel
theorem dX3_write_11 : decode cX3_write 11 = .ok (.getfield 19, 3) := by decide +kernel
theorem dX3_write_14 : decode cX3_write 14 = .ok (.aload_n 0, 1) := by decide +kernel
theorem dX3_write_15 : decode cX3_write 15 = .ok (.getfield 34, 3) := by decide +kernel
theorem dX3_write_18 : decode cX3_write 18 = .ok (.iload_n 1, 1) := by decide +kernel
theorem dX3_write_19 : decode cX3_write 19 = .ok (.iastore, 1) := by decide +kernel
theorem dX3_write_20 : decode cX3_write 20 = .ok (.aload_n 0, 1) := by decide +kernel
theorem dX3_write_21 : decode cX3_write 21 = .ok (.dup, 1) := by decide +kernel
theorem dX3_write_22 : decode cX3_write 22 = .ok (.getfield 34, 3) := by decide +kernel
theorem dX3_write_25 : decode cX3_write 25 = .ok (.iconst 1, 1) := by decide +kernel
theorem dX3_write_26 : decode cX3_write 26 = .ok (.iadd, 1) := by decide +kernel
theorem dX3_write_27 : decode cX3_write 27 = .ok (.putfield 34, 3) := by decide +kernel
theorem dX3_write_30 : decode cX3_write 30 = .ok (.return_, 1) := by decide +kernel
theorem dX3_readLine_0 : decode cX3_readLine 0 = .ok (.aload_n 0, 1) := by decide +kernel
theorem dX3_readLine_1 : decode cX3_readLine 1 = .ok (.iconst 0, 1) := by decide +kernel
theorem dX3_readLine_2 : decode cX3_readLine 2 = .ok (.iconst 0, 1) := by decide +kernel
theorem dX3_readLine_3 : decode cX3_readLine 3 = .ok (.invokevirtual 78, 3) := by decide +kernel
theorem dX3_readLine_6 : decode cX3_readLine 6 = .ok (.ifCond .ne 5, 3) := by decide +kernel
theorem dX3_readLine_9 : decode cX3_readLine 9 = .ok (.iconst 0, 1) := by decide +kernel
theorem dX3_readLine_10 : decode cX3_readLine 10 = .ok (.ireturn, 1) := by decide +kernel
theorem dX3_readLine_11 : decode cX3_readLine 11 = .ok (.bipush (-2), 2) := by decide +kernel
theorem dX3_readLine_13 : decode cX3_readLine 13 = .ok (.istore_n 1, 1) := by decide +kernel
theorem dX3_readLine_14 : decode cX3_readLine 14 = .ok (.aload_n 0, 1) := by decide +kernel
theorem dX3_readLine_15 : decode cX3_readLine 15 = .ok (.invokevirtual 41, 3) := by decide +kernel
theorem dX3_readLine_18 : decode cX3_readLine 18 = .ok (.bipush 63, 2) := by decide +kernel
theorem dX3_readLine_20 : decode cX3_readLine 20 = .ok (.if_icmp .ne 40, 3) := by decide +kernel
theorem dX3_readLine_23 : decode cX3_readLine 23 = .ok (.aload_n 0, 1) := by decide +kernel
theorem dX3_readLine_24 : decode cX3_readLine 24 = .ok (.dup, 1) := by decide +kernel
theorem dX3_readLine_25 : decode cX3_readLine 25 = .ok (.getfield 31, 3) := by decide +kernel
theorem dX3_readLine_28 : decode cX3_readLine 28 = .ok (.iconst 1, 1) := by decide +kernel
theorem dX3_readLine_29 : decode cX3_readLine 29 = .ok (.iadd, 1) := by decide +kernel
theorem dX3_readLine_30 : decode cX3_readLine 30 = .ok (.putfield 31, 3) := by decide +kernel
theorem dX3_readLine_33 : decode cX3_readLine 33 = .ok (.aload_n 0, 1) := by decide +kernel
theorem dX3_readLine_34 : decode cX3_readLine 34 = .ok (.bipush (-63), 2) := by decide +kernel
theorem dX3_readLine_36 : decode cX3_readLine 36 = .ok (.invokevirtual 82, 3) := by decide +kernel
theorem dX3_readLine_39 : decode cX3_readLine 39 = .ok (.aload_n 0, 1) := by decide +kernel
theorem dX3_readLine_40 : decode cX3_readLine 40 = .ok (.getfield 34, 3) := by decide +kernel
theorem dX3_readLine_43 : decode cX3_readLine 43 = .ok (.istore_n 1, 1) := by decide +kernel
theorem dX3_readLine_44 : decode cX3_readLine 44 = .ok (.aload_n 0, 1) := by decide +kernel
theorem dX3_readLine_45 : decode cX3_readLine 45 = .ok (.iconst 0, 1) := by decide +kernel
theorem dX3_readLine_46 : decode cX3_readLine 46 = .ok (.invokevirtual 82, 3) := by decide +kernel
theorem dX3_readLine_49 : decode cX3_readLine 49 = .ok (.aload_n 0, 1) := by decide +kernel
theorem dX3_readLine_50 : decode cX3_readLine 50 = .ok (.iconst 0, 1) := by decide +kernel
theorem dX3_readLine_51 : decode cX3_readLine 51 = .ok (.iconst 0, 1) := by decide +kernel
theorem dX3_readLine_52 : decode cX3_readLine 52 = .ok (.invokevirtual 78, 3) := by decide +kernel
theorem dX3_readLine_55 : decode cX3_readLine 55 = .ok (.ifCond .ne 5, 3) := by decide +kernel
theorem dX3_readLine_58 : decode cX3_readLine 58 = .ok (.iconst 0, 1) := by decide +kernel
theorem dX3_readLine_59 : decode cX3_readLine 59 = .ok (.ireturn, 1) := by decide +kernel
theorem dX3_readLine_60 : decode cX3_readLine 60 = .ok (.aload_n 0, 1) := by decide +kernel
theorem dX3_readLine_61 : decode cX3_readLine 61 = .ok (.bipush (-59), 2) := by decide +kernel
theorem dX3_readLine_63 : decode cX3_readLine 63 = .ok (.invokevirtual 82, 3) := by decide +kernel
theorem dX3_readLine_66 : decode cX3_readLine 66 = .ok (.iload_n 1, 1) := by decide +kernel
theorem dX3_readLine_67 : decode cX3_readLine 67 = .ok (.ifCond .lt 20, 3) := by decide +kernel
theorem dX3_readLine_70 : decode cX3_readLine 70 = .ok (.iload_n 1, 1) := by decide +kernel
theorem dX3_readLine_71 : decode cX3_readLine 71 = .ok (.sipush 256, 3) := by decide +kernel
theorem dX3_readLine_74 : decode cX3_readLine 74 = .ok (.if_icmp .ge 13, 3) := by decide +kernel
theorem dX3_readLine_77 : decode cX3_readLine 77 = .ok (.aload_n 0, 1) := by decide +kernel
theorem dX3_readLine_78 : decode cX3_readLine 78 = .ok (.getfield 19, 3) := by decide +kernel
theorem dX3_readLine_81 : decode cX3_readLine 81 = .ok (.iload_n 1, 1) := by decide +kernel
theorem dX3_readLine_82 : decode cX3_readLine 82 = .ok (.aload_n 0, 1) := by decide +kernel
theorem dX3_readLine_83 : decode cX3_readLine 83 = .ok (.getfield 34, 3) := by decide +kernel
theorem dX3_readLine_86 : decode cX3_readLine 86 = .ok (.iastore, 1) := by decide +kernel
theorem dX3_readLine_87 : decode cX3_readLine 87 = .ok (.iconst 1, 1) := by decide +kernel
theorem dX3_readLine_88 : decode cX3_readLine 88 = .ok (.ireturn, 1) := by decide +kernel
theorem dX3_readJoined_0 : decode cX3_readJoined 0 = .ok (.iload_n 1, 1) := by decide +kernel
theorem dX3_readJoined_1 : decode cX3_readJoined 1 = .ok (.iconst 5, 1) := by decide +kernel
theorem dX3_readJoined_2 : decode cX3_readJoined 2 = .ok (.if_icmp .lt 9, 3) := by decide +kernel
theorem dX3_readJoined_5 : decode cX3_readJoined 5 = .ok (.aload_n 0, 1) := by decide +kernel
theorem dX3_readJoined_6 : decode cX3_readJoined 6 = .ok (.iload_n 2, 1) := by decide +kernel
theorem dX3_readJoined_7 : decode cX3_readJoined 7 = .ok (.invokevirtual 85, 3) := by decide +kernel
theorem dX3_readJoined_10 : decode cX3_readJoined 10 = .ok (.ireturn, 1) := by decide +kernel
theorem dX3_readJoined_11 : decode cX3_readJoined 11 = .ok (.aload_n 0, 1) := by decide +kernel
theorem dX3_readJoined_12 : decode cX3_readJoined 12 = .ok (.iload_n 1, 1) := by decide +kernel
theorem dX3_readJoined_13 : decode cX3_readJoined 13 = .ok (.iconst 1, 1) := by decide +kernel
theorem dX3_readJoined_14 : decode cX3_readJoined 14 = .ok (.iadd, 1) := by decide +kernel
theorem dX3_readJoined_15 : decode cX3_readJoined 15 = .ok (.iload_n 2, 1) := by decide +kernel
theorem dX3_readJoined_16 : decode cX3_readJoined 16 = .ok (.invokevirtual 78, 3) := by decide +kernel
theorem dX3_readJoined_19 : decode cX3_readJoined 19 = .ok (.istore_n 3, 1) := by decide +kernel
theorem dX3_readJoined_20 : decode cX3_readJoined 20 = .ok (.iconst 0, 1) := by decide +kernel
theorem dX3_readJoined_21 : decode cX3_readJoined 21 = .ok (.istore 4, 2) := by decide +kernel
theorem dX3_readJoined_23 : decode cX3_readJoined 23 = .ok (.iload 4, 2) := by decide +kernel
theorem dX3_readJoined_25 : decode cX3_readJoined 25 = .ok (.bipush 120, 2) := by decide +kernel
theorem dX3_readJoined_27 : decode cX3_readJoined 27 = .ok (.if_icmp .ge 64, 3) := by decide +kernel
theorem dX3_readJoined_30 : decode cX3_readJoined 30 = .ok (.iload_n 3, 1) := by decide +kernel
theorem dX3_readJoined_31 : decode cX3_readJoined 31 = .ok (.ifCond .eq 60, 3) := by decide +kernel
theorem dX3_readJoined_34 : decode cX3_readJoined 34 = .ok (.aload_n 0, 1) := by decide +kernel
theorem dX3_readJoined_35 : decode cX3_readJoined 35 = .ok (.invokevirtual 41, 3) := by decide +kernel
theorem dX3_readJoined_38 : decode cX3_readJoined 38 = .ok (.iload_n 1, 1) := by decide +kernel
theorem dX3_readJoined_39 : decode cX3_readJoined 39 = .ok (.invokestatic 89, 3) := by decide +kernel
theorem dX3_readJoined_42 : decode cX3_readJoined 42 = .ok (.ifCond .eq 49, 3) := by decide +kernel
theorem dX3_readJoined_45 : decode cX3_readJoined 45 = .ok (.aload_n 0, 1) := by decide +kernel
theorem dX3_readJoined_46 : decode cX3_readJoined 46 = .ok (.invokevirtual 41, 3) := by decide +kernel
theorem dX3_readJoined_49 : decode cX3_readJoined 49 = .ok (.istore 5, 2) := by decide +kernel
theorem dX3_readJoined_51 : decode cX3_readJoined 51 = .ok (.aload_n 0, 1) := by decide +kernel
theorem dX3_readJoined_52 : decode cX3_readJoined 52 = .ok (.dup, 1) := by decide +kernel
theorem dX3_readJoined_53 : decode cX3_readJoined 53 = .ok (.getfield 31, 3) := by decide +kernel
theorem dX3_readJoined_56 : decode cX3_readJoined 56 = .ok (.iconst 1, 1) := by decide +kernel
theorem dX3_readJoined_57 : decode cX3_readJoined 57 = .ok (.iadd, 1) := by decide +kernel
theorem dX3_readJoined_58 : decode cX3_readJoined 58 = .ok (.putfield 31, 3) := by decide +kernel
theorem dX3_readJoined_61 : decode cX3_readJoined 61 = .ok (.aload_n 0, 1) := by decide +kernel
theorem dX3_readJoined_62 : decode cX3_readJoined 62 = .ok (.iload_n 1, 1) := by decide +kernel
theorem dX3_readJoined_63 : decode cX3_readJoined 63 = .ok (.iconst 1, 1) := by decide +kernel
theorem dX3_readJoined_64 : decode cX3_readJoined 64 = .ok (.iadd, 1) := by decide +kernel
theorem dX3_readJoined_65 : decode cX3_readJoined 65 = .ok (.iload_n 2, 1) := by decide +kernel
theorem dX3_readJoined_66 : decode cX3_readJoined 66 = .ok (.invokevirtual 78, 3) := by decide +kernel
theorem dX3_readJoined_69 : decode cX3_readJoined 69 = .ok (.istore_n 3, 1) := by decide +kernel
theorem dX3_readJoined_70 : decode cX3_readJoined 70 = .ok (.aload_n 0, 1) := by decide +kernel
theorem dX3_readJoined_71 : decode cX3_readJoined 71 = .ok (.iload 5, 2) := by decide +kernel
theorem dX3_readJoined_73 : decode cX3_readJoined 73 = .ok (.ineg, 1) := by decide +kernel
theorem dX3_readJoined_74 : decode cX3_readJoined 74 = .ok (.invokevirtual 82, 3) := by decide +kernel
theorem dX3_readJoined_77 : decode cX3_readJoined 77 = .ok (.iload_n 1, 1) := by decide +kernel
theorem dX3_readJoined_78 : decode cX3_readJoined 78 = .ok (.iconst 2, 1) := by decide +kernel
theorem dX3_readJoined_79 : decode cX3_readJoined 79 = .ok (.if_icmp .ne 6, 3) := by decide +kernel
theorem dX3_readJoined_82 : decode cX3_readJoined 82 = .ok (.goto 9, 3) := by decide +kernel
theorem dX3_readJoined_85 : decode cX3_readJoined 85 = .ok (.iinc 4 1, 3) := by decide +kernel
theorem dX3_readJoined_88 : decode cX3_readJoined 88 = .ok (.goto (-65), 3) := by decide +kernel
theorem dX3_readJoined_91 : decode cX3_readJoined 91 = .ok (.iload_n 3, 1) := by decide +kernel
theorem dX3_readJoined_92 : decode cX3_readJoined 92 = .ok (.ireturn, 1) := by decide +kernel
theorem dX3_isSign_0 : decode cX3_isSign 0 = .ok (.iload_n 1, 1) := by decide +kernel
theorem dX3_isSign_1 : decode cX3_isSign 1 = .ok (.tableswitch 97 0 3 #[31, 43, 55, 79], 31) := by decide +kernel
theorem dX3_isSign_32 : decode cX3_isSign 32 = .ok (.iload_n 0, 1) := by decide +kernel
theorem dX3_isSign_33 : decode cX3_isSign 33 = .ok (.bipush 124, 2) := by decide +kernel
theorem dX3_isSign_35 : decode cX3_isSign 35 = .ok (.if_icmp .ne 7, 3) := by decide +kernel
theorem dX3_isSign_38 : decode cX3_isSign 38 = .ok (.iconst 1, 1) := by decide +kernel
theorem dX3_isSign_39 : decode cX3_isSign 39 = .ok (.goto 4, 3) := by decide +kernel
theorem dX3_isSign_42 : decode cX3_isSign 42 = .ok (.iconst 0, 1) := by decide +kernel
theorem dX3_isSign_43 : decode cX3_isSign 43 = .ok (.ireturn, 1) := by decide +kernel
theorem dX3_isSign_44 : decode cX3_isSign 44 = .ok (.iload_n 0, 1) := by decide +kernel
theorem dX3_isSign_45 : decode cX3_isSign 45 = .ok (.bipush 38, 2) := by decide +kernel
theorem dX3_isSign_47 : decode cX3_isSign 47 = .ok (.if_icmp .ne 7, 3) := by decide +kernel
theorem dX3_isSign_50 : decode cX3_isSign 50 = .ok (.iconst 1, 1) := by decide +kernel
theorem dX3_isSign_51 : decode cX3_isSign 51 = .ok (.goto 4, 3) := by decide +kernel
theorem dX3_isSign_54 : decode cX3_isSign 54 = .ok (.iconst 0, 1) := by decide +kernel
theorem dX3_isSign_55 : decode cX3_isSign 55 = .ok (.ireturn, 1) := by decide +kernel
theorem dX3_isSign_56 : decode cX3_isSign 56 = .ok (.iload_n 0, 1) := by decide +kernel
theorem dX3_isSign_57 : decode cX3_isSign 57 = .ok (.bipush 60, 2) := by decide +kernel
theorem dX3_isSign_59 : decode cX3_isSign 59 = .ok (.if_icmp .eq 15, 3) := by decide +kernel
theorem dX3_isSign_62 : decode cX3_isSign 62 = .ok (.iload_n 0, 1) := by decide +kernel
theorem dX3_isSign_63 : decode cX3_isSign 63 = .ok (.bipush 61, 2) := by decide +kernel
theorem dX3_isSign_65 : decode cX3_isSign 65 = .ok (.if_icmp .eq 9, 3) := by decide +kernel
theorem dX3_isSign_68 : decode cX3_isSign 68 = .ok (.iload_n 0, 1) := by decide +kernel
theorem dX3_isSign_69 : decode cX3_isSign 69 = .ok (.bipush 62, 2) := by decide +kernel
theorem dX3_isSign_71 : decode cX3_isSign 71 = .ok (.if_icmp .ne 7, 3) := by decide +kernel
theorem dX3_isSign_74 : decode cX3_isSign 74 = .ok (.iconst 1, 1) := by decide +kernel
theorem dX3_isSign_75 : decode cX3_isSign 75 = .ok (.goto 4, 3) := by decide +kernel
theorem dX3_isSign_78 : decode cX3_isSign 78 = .ok (.iconst 0, 1) := by decide +kernel
theorem dX3_isSign_79 : decode cX3_isSign 79 = .ok (.ireturn, 1) := by decide +kernel
theorem dX3_isSign_80 : decode cX3_isSign 80 = .ok (.iload_n 0, 1) := by decide +kernel
theorem dX3_isSign_81 : decode cX3_isSign 81 = .ok (.bipush 43, 2) := by decide +kernel
theorem dX3_isSign_83 : decode cX3_isSign 83 = .ok (.if_icmp .eq 9, 3) := by decide +kernel
theorem dX3_isSign_86 : decode cX3_isSign 86 = .ok (.iload_n 0, 1) := by decide +kernel
theorem dX3_isSign_87 : decode cX3_isSign 87 = .ok (.bipush 45, 2) := by decide +kernel
theorem dX3_isSign_89 : decode cX3_isSign 89 = .ok (.if_icmp .ne 7, 3) := by decide +kernel
theorem dX3_isSign_92 : decode cX3_isSign 92 = .ok (.iconst 1, 1) := by decide +kernel
theorem dX3_isSign_93 : decode cX3_isSign 93 = .ok (.goto 4, 3) := by decide +kernel
theorem dX3_isSign_96 : decode cX3_isSign 96 = .ok (.iconst 0, 1) := by decide +kernel
theorem dX3_isSign_97 : decode cX3_isSign 97 = .ok (.ireturn, 1) := by decide +kernel
theorem dX3_isSign_98 : decode cX3_isSign 98 = .ok (.iload_n 0, 1) := by decide +kernel
theorem dX3_isSign_99 : decode cX3_isSign 99 = .ok (.bipush 42, 2) := by decide +kernel
theorem dX3_isSign_101 : decode cX3_isSign 101 = .ok (.if_icmp .eq 15, 3) := by decide +kernel
theorem dX3_isSign_104 : decode cX3_isSign 104 = .ok (.iload_n 0, 1) := by decide +kernel
theorem dX3_isSign_105 : decode cX3_isSign 105 = .ok (.bipush 47, 2) := by decide +kernel
theorem dX3_isSign_107 : decode cX3_isSign 107 = .ok (.if_icmp .eq 9, 3) := by decide +kernel
theorem dX3_isSign_110 : decode cX3_isSign 110 = .ok (.iload_n 0, 1) := by decide +kernel
theorem dX3_isSign_111 : decode cX3_isSign 111 = .ok (.bipush 37, 2) := by decide +kernel
theorem dX3_isSign_113 : decode cX3_isSign 113 = .ok (.if_icmp .ne 7, 3) := by decide +kernel
theorem dX3_isSign_116 : decode cX3_isSign 116 = .ok (.iconst 1, 1) := by decide +kernel
theorem dX3_isSign_117 : decode cX3_isSign 117 = .ok (.goto 4, 3) := by decide +kernel
theorem dX3_isSign_120 : decode cX3_isSign 120 = .ok (.iconst 0, 1) := by decide +kernel
theorem dX3_isSign_121 : decode cX3_isSign 121 = .ok (.ireturn, 1) := by decide +kernel
theorem dX3_readOperand_0 : decode cX3_readOperand 0 = .ok (.aload_n 0, 1) := by decide +kernel
theorem dX3_readOperand_1 : decode cX3_readOperand 1 = .ok (.invokevirtual 41, 3) := by decide +kernel
theorem dX3_readOperand_4 : decode cX3_readOperand 4 = .ok (.istore_n 2, 1) := by decide +kernel
theorem dX3_readOperand_5 : decode cX3_readOperand 5 = .ok (.iload_n 2, 1) := by decide +kernel
theorem dX3_readOperand_6 : decode cX3_readOperand 6 = .ok (.invokestatic 92, 3) := by decide +kernel
theorem dX3_readOperand_9 : decode cX3_readOperand 9 = .ok (.ifCond .eq 8, 3) := by decide +kernel
theorem dX3_readOperand_12 : decode cX3_readOperand 12 = .ok (.aload_n 0, 1) := by decide +kernel
theorem dX3_readOperand_13 : decode cX3_readOperand 13 = .ok (.invokevirtual 95, 3) := by decide +kernel
theorem dX3_readOperand_16 : decode cX3_readOperand 16 = .ok (.ireturn, 1) := by decide +kernel
theorem dX3_readOperand_17 : decode cX3_readOperand 17 = .ok (.iload_n 2, 1) := by decide +kernel
theorem dX3_readOperand_18 : decode cX3_readOperand 18 = .ok (.bipush 104, 2) := by decide +kernel
theorem dX3_readOperand_20 : decode cX3_readOperand 20 = .ok (.if_icmp .eq 27, 3) := by decide +kernel
theorem dX3_readOperand_23 : decode cX3_readOperand 23 = .ok (.iload_n 2, 1) := by decide +kernel
theorem dX3_readOperand_24 : decode cX3_readOperand 24 = .ok (.bipush 97, 2) := by decide +kernel
theorem dX3_readOperand_26 : decode cX3_readOperand 26 = .ok (.if_icmp .eq 21, 3) := by decide +kernel
theorem dX3_readOperand_29 : decode cX3_readOperand 29 = .ok (.iload_n 2, 1) := by decide +kernel
theorem dX3_readOperand_30 : decode cX3_readOperand 30 = .ok (.bipush 116, 2) := by decide +kernel
theorem dX3_readOperand_32 : decode cX3_readOperand 32 = .ok (.if_icmp .eq 15, 3) := by decide +kernel
theorem dX3_readOperand_35 : decode cX3_readOperand 35 = .ok (.iload_n 2, 1) := by decide +kernel
theorem dX3_readOperand_36 : decode cX3_readOperand 36 = .ok (.bipush 109, 2) := by decide +kernel
theorem dX3_readOperand_38 : decode cX3_readOperand 38 = .ok (.if_icmp .eq 9, 3) := by decide +kernel
theorem dX3_readOperand_41 : decode cX3_readOperand 41 = .ok (.iload_n 2, 1) := by decide +kernel
theorem dX3_readOperand_42 : decode cX3_readOperand 42 = .ok (.bipush 110, 2) := by decide +kernel
theorem dX3_readOperand_44 : decode cX3_readOperand 44 = .ok (.if_icmp .ne 21, 3) := by decide +kernel
theorem dX3_readOperand_47 : decode cX3_readOperand 47 = .ok (.aload_n 0, 1) := by decide +kernel
theorem dX3_readOperand_48 : decode cX3_readOperand 48 = .ok (.dup, 1) := by decide +kernel
theorem dX3_readOperand_49 : decode cX3_readOperand 49 = .ok (.getfield 31, 3) := by decide +kernel
theorem dX3_readOperand_52 : decode cX3_readOperand 52 = .ok (.iconst 1, 1) := by decide +kernel
theorem dX3_readOperand_53 : decode cX3_readOperand 53 = .ok (.iadd, 1) := by decide +kernel
theorem dX3_readOperand_54 : decode cX3_readOperand 54 = .ok (.putfield 31, 3) := by decide +kernel
theorem dX3_readOperand_57 : decode cX3_readOperand 57 = .ok (.aload_n 0, 1) := by decide +kernel
theorem dX3_readOperand_58 : decode cX3_readOperand 58 = .ok (.iload_n 2, 1) := by decide +kernel
theorem dX3_readOperand_59 : decode cX3_readOperand 59 = .ok (.ineg, 1) := by decide +kernel
theorem dX3_readOperand_60 : decode cX3_readOperand 60 = .ok (.invokevirtual 82, 3) := by decide +kernel
theorem dX3_readOperand_63 : decode cX3_readOperand 63 = .ok (.iconst 1, 1) := by decide +kernel
theorem dX3_readOperand_64 : decode cX3_readOperand 64 = .ok (.ireturn, 1) := by decide +kernel
theorem dX3_readOperand_65 : decode cX3_readOperand 65 = .ok (.iload_n 1, 1) := by decide +kernel
theorem dX3_readOperand_66 : decode cX3_readOperand 66 = .ok (.bipush 6, 2) := by decide +kernel
theorem dX3_readOperand_68 : decode cX3_readOperand 68 = .ok (.if_icmp .lt 5, 3) := by decide +kernel
theorem dX3_readOperand_71 : decode cX3_readOperand 71 = .ok (.iconst 0, 1) := by decide +kernel
theorem dX3_readOperand_72 : decode cX3_readOperand 72 = .ok (.ireturn, 1) := by decide +kernel
theorem dX3_readOperand_73 : decode cX3_readOperand 73 = .ok (.iload_n 2, 1) := by decide +kernel
theorem dX3_readOperand_74 : decode cX3_readOperand 74 = .ok (.bipush 40, 2) := by decide +kernel
theorem dX3_readOperand_76 : decode cX3_readOperand 76 = .ok (.if_icmp .ne 47, 3) := by decide +kernel
theorem dX3_readOperand_79 : decode cX3_readOperand 79 = .ok (.aload_n 0, 1) := by decide +kernel
theorem dX3_readOperand_80 : decode cX3_readOperand 80 = .ok (.dup, 1) := by decide +kernel
theorem dX3_readOperand_81 : decode cX3_readOperand 81 = .ok (.getfield 31, 3) := by decide +kernel
theorem dX3_readOperand_84 : decode cX3_readOperand 84 = .ok (.iconst 1, 1) := by decide +kernel
theorem dX3_readOperand_85 : decode cX3_readOperand 85 = .ok (.iadd, 1) := by decide +kernel
theorem dX3_readOperand_86 : decode cX3_readOperand 86 = .ok (.putfield 31, 3) := by decide +kernel
theorem dX3_readOperand_89 : decode cX3_readOperand 89 = .ok (.aload_n 0, 1) := by decide +kernel
theorem dX3_readOperand_90 : decode cX3_readOperand 90 = .ok (.iconst 0, 1) := by decide +kernel
theorem dX3_readOperand_91 : decode cX3_readOperand 91 = .ok (.iload_n 1, 1) := by decide +kernel
theorem dX3_readOperand_92 : decode cX3_readOperand 92 = .ok (.iconst 1, 1) := by decide +kernel
theorem dX3_readOperand_93 : decode cX3_readOperand 93 = .ok (.iadd, 1) := by decide +kernel
theorem dX3_readOperand_94 : decode cX3_readOperand 94 = .ok (.invokevirtual 78, 3) := by decide +kernel
theorem dX3_readOperand_97 : decode cX3_readOperand 97 = .ok (.ifCond .eq 12, 3) := by decide +kernel
theorem dX3_readOperand_100 : decode cX3_readOperand 100 = .ok (.aload_n 0, 1) := by decide +kernel
theorem dX3_readOperand_101 : decode cX3_readOperand 101 = .ok (.invokevirtual 41, 3) := by decide +kernel
theorem dX3_readOperand_104 : decode cX3_readOperand 104 = .ok (.bipush 41, 2) := by decide +kernel
theorem dX3_readOperand_106 : decode cX3_readOperand 106 = .ok (.if_icmp .eq 5, 3) := by decide +kernel
theorem dX3_readOperand_109 : decode cX3_readOperand 109 = .ok (.iconst 0, 1) := by decide +kernel
theorem dX3_readOperand_110 : decode cX3_readOperand 110 = .ok (.ireturn, 1) := by decide +kernel
theorem dX3_readOperand_111 : decode cX3_readOperand 111 = .ok (.aload_n 0, 1) := by decide +kernel
theorem dX3_readOperand_112 : decode cX3_readOperand 112 = .ok (.dup, 1) := by decide +kernel
theorem dX3_readOperand_113 : decode cX3_readOperand 113 = .ok (.getfield 31, 3) := by decide +kernel
theorem dX3_readOperand_116 : decode cX3_readOperand 116 = .ok (.iconst 1, 1) := by decide +kernel
theorem dX3_readOperand_117 : decode cX3_readOperand 117 = .ok (.iadd, 1) := by decide +kernel
theorem dX3_readOperand_118 : decode cX3_readOperand 118 = .ok (.putfield 31, 3) := by decide +kernel
theorem dX3_readOperand_121 : decode cX3_readOperand 121 = .ok (.iconst 1, 1) := by decide +kernel
theorem dX3_readOperand_122 : decode cX3_readOperand 122 = .ok (.ireturn, 1) := by decide +kernel
theorem dX3_readOperand_123 : decode cX3_readOperand 123 = .ok (.iload_n 2, 1) := by decide +kernel
theorem dX3_readOperand_124 : decode cX3_readOperand 124 = .ok (.bipush 33, 2) := by decide +kernel
theorem dX3_readOperand_126 : decode cX3_readOperand 126 = .ok (.if_icmp .eq 11, 3) := by decide +kernel
theorem dX3_readOperand_129 : decode cX3_readOperand 129 = .ok (.iload_n 2, 1) := by decide +kernel
theorem dX3_readOperand_130 : decode cX3_readOperand 130 = .ok (.bipush 45, 2) := by decide +kernel
theorem dX3_readOperand_132 : decode cX3_readOperand 132 = .ok (.if_icmp .eq 5, 3) := by decide +kernel
theorem dX3_readOperand_135 : decode cX3_readOperand 135 = .ok (.iconst 0, 1) := by decide +kernel
theorem dX3_readOperand_136 : decode cX3_readOperand 136 = .ok (.ireturn, 1) := by decide +kernel
theorem dX3_readOperand_137 : decode cX3_readOperand 137 = .ok (.aload_n 0, 1) := by decide +kernel
theorem dX3_readOperand_138 : decode cX3_readOperand 138 = .ok (.dup, 1) := by decide +kernel
theorem dX3_readOperand_139 : decode cX3_readOperand 139 = .ok (.getfield 31, 3) := by decide +kernel
theorem dX3_readOperand_142 : decode cX3_readOperand 142 = .ok (.iconst 1, 1) := by decide +kernel
theorem dX3_readOperand_143 : decode cX3_readOperand 143 = .ok (.iadd, 1) := by decide +kernel
theorem dX3_readOperand_144 : decode cX3_readOperand 144 = .ok (.putfield 31, 3) := by decide +kernel
theorem dX3_readOperand_147 : decode cX3_readOperand 147 = .ok (.aload_n 0, 1) := by decide +kernel
theorem dX3_readOperand_148 : decode cX3_readOperand 148 = .ok (.iload_n 1, 1) := by decide +kernel
theorem dX3_readOperand_149 : decode cX3_readOperand 149 = .ok (.iconst 1, 1) := by decide +kernel
theorem dX3_readOperand_150 : decode cX3_readOperand 150 = .ok (.iadd, 1) := by decide +kernel
theorem dX3_readOperand_151 : decode cX3_readOperand 151 = .ok (.invokevirtual 85, 3) := by decide +kernel
theorem dX3_readOperand_154 : decode cX3_readOperand 154 = .ok (.istore_n 3, 1) := by decide +kernel
theorem dX3_readOperand_155 : decode cX3_readOperand 155 = .ok (.aload_n 0, 1) := by decide +kernel
theorem dX3_readOperand_156 : decode cX3_readOperand 156 = .ok (.iload_n 2, 1) := by decide +kernel
theorem dX3_readOperand_157 : decode cX3_readOperand 157 = .ok (.bipush 33, 2) := by decide +kernel
theorem dX3_readOperand_159 : decode cX3_readOperand 159 = .ok (.if_icmp .ne 8, 3) := by decide +kernel
theorem dX3_readOperand_162 : decode cX3_readOperand 162 = .ok (.bipush (-33), 2) := by decide +kernel
theorem dX3_readOperand_164 : decode cX3_readOperand 164 = .ok (.goto 5, 3) := by decide +kernel
theorem dX3_readOperand_167 : decode cX3_readOperand 167 = .ok (.bipush (-126), 2) := by decide +kernel
theorem dX3_readOperand_169 : decode cX3_readOperand 169 = .ok (.invokevirtual 82, 3) := by decide +kernel
theorem dX3_readOperand_172 : decode cX3_readOperand 172 = .ok (.iload_n 3, 1) := by decide +kernel
theorem dX3_readOperand_173 : decode cX3_readOperand 173 = .ok (.ireturn, 1) := by decide +kernel
theorem dX3_readNumber_0 : decode cX3_readNumber 0 = .ok (.iconst 0, 1) := by decide +kernel
theorem dX3_readNumber_1 : decode cX3_readNumber 1 = .ok (.istore_n 1, 1) := by decide +kernel
theorem dX3_readNumber_2 : decode cX3_readNumber 2 = .ok (.iconst 0, 1) := by decide +kernel
theorem dX3_readNumber_3 : decode cX3_readNumber 3 = .ok (.istore_n 2, 1) := by decide +kernel
theorem dX3_readNumber_4 : decode cX3_readNumber 4 = .ok (.iload_n 2, 1) := by decide +kernel
theorem dX3_readNumber_5 : decode cX3_readNumber 5 = .ok (.iconst 4, 1) := by decide +kernel
theorem dX3_readNumber_6 : decode cX3_readNumber 6 = .ok (.if_icmp .ge 42, 3) := by decide +kernel
theorem dX3_readNumber_9 : decode cX3_readNumber 9 = .ok (.aload_n 0, 1) := by decide +kernel
theorem dX3_readNumber_10 : decode cX3_readNumber 10 = .ok (.invokevirtual 41, 3) := by decide +kernel
theorem dX3_readNumber_13 : decode cX3_readNumber 13 = .ok (.invokestatic 92, 3) := by decide +kernel
theorem dX3_readNumber_16 : decode cX3_readNumber 16 = .ok (.ifCond .eq 32, 3) := by decide +kernel
theorem dX3_readNumber_19 : decode cX3_readNumber 19 = .ok (.iload_n 1, 1) := by decide +kernel
theorem dX3_readNumber_20 : decode cX3_readNumber 20 = .ok (.bipush 10, 2) := by decide +kernel
theorem dX3_readNumber_22 : decode cX3_readNumber 22 = .ok (.imul, 1) := by decide +kernel
theorem dX3_readNumber_23 : decode cX3_readNumber 23 = .ok (.aload_n 0, 1) := by decide +kernel
theorem dX3_readNumber_24 : decode cX3_readNumber 24 = .ok (.invokevirtual 41, 3) := by decide +kernel
theorem dX3_readNumber_27 : decode cX3_readNumber 27 = .ok (.iadd, 1) := by decide +kernel
theorem dX3_readNumber_28 : decode cX3_readNumber 28 = .ok (.bipush 48, 2) := by decide +kernel
theorem dX3_readNumber_30 : decode cX3_readNumber 30 = .ok (.isub, 1) := by decide +kernel
theorem dX3_readNumber_31 : decode cX3_readNumber 31 = .ok (.istore_n 1, 1) := by decide +kernel
theorem dX3_readNumber_32 : decode cX3_readNumber 32 = .ok (.aload_n 0, 1) := by decide +kernel
theorem dX3_readNumber_33 : decode cX3_readNumber 33 = .ok (.dup, 1) := by decide +kernel
theorem dX3_readNumber_34 : decode cX3_readNumber 34 = .ok (.getfield 31, 3) := by decide +kernel
theorem dX3_readNumber_37 : decode cX3_readNumber 37 = .ok (.iconst 1, 1) := by decide +kernel
theorem dX3_readNumber_38 : decode cX3_readNumber 38 = .ok (.iadd, 1) := by decide +kernel
theorem dX3_readNumber_39 : decode cX3_readNumber 39 = .ok (.putfield 31, 3) := by decide +kernel
theorem dX3_readNumber_42 : decode cX3_readNumber 42 = .ok (.iinc 2 1, 3) := by decide +kernel
theorem dX3_readNumber_45 : decode cX3_readNumber 45 = .ok (.goto (-41), 3) := by decide +kernel
theorem dX3_readNumber_48 : decode cX3_readNumber 48 = .ok (.aload_n 0, 1) := by decide +kernel
theorem dX3_readNumber_49 : decode cX3_readNumber 49 = .ok (.iload_n 1, 1) := by decide +kernel
theorem dX3_readNumber_50 : decode cX3_readNumber 50 = .ok (.invokevirtual 82, 3) := by decide +kernel
theorem dX3_readNumber_53 : decode cX3_readNumber 53 = .ok (.iconst 1, 1) := by decide +kernel
theorem dX3_readNumber_54 : decode cX3_readNumber 54 = .ok (.ireturn, 1) := by decide +kernel
theorem dX3_isDigit_0 : decode cX3_isDigit 0 = .ok (.iload_n 0, 1) := by decide +kernel
theorem dX3_isDigit_1 : decode cX3_isDigit 1 = .ok (.bipush 48, 2) := by decide +kernel
theorem dX3_isDigit_3 : decode cX3_isDigit 3 = .ok (.if_icmp .lt 13, 3) := by decide +kernel
theorem dX3_isDigit_6 : decode cX3_isDigit 6 = .ok (.iload_n 0, 1) := by decide +kernel
theorem dX3_isDigit_7 : decode cX3_isDigit 7 = .ok (.bipush 57, 2) := by decide +kernel
theorem dX3_isDigit_9 : decode cX3_isDigit 9 = .ok (.if_icmp .gt 7, 3) := by decide +kernel
theorem dX3_isDigit_12 : decode cX3_isDigit 12 = .ok (.iconst 1, 1) := by decide +kernel
theorem dX3_isDigit_13 : decode cX3_isDigit 13 = .ok (.goto 4, 3) := by decide +kernel
theorem dX3_isDigit_16 : decode cX3_isDigit 16 = .ok (.iconst 0, 1) := by decide +kernel
theorem dX3_isDigit_17 : decode cX3_isDigit 17 = .ok (.ireturn, 1) := by decide +kernel
theorem dX5_init_0 : decode cX5_init 0 = .ok (.aload_n 0, 1) := by decide +kernel
theorem dX5_init_1 : decode cX5_init 1 = .ok (.invokespecial 3, 3) := by decide +kernel
theorem dX5_init_4 : decode cX5_init 4 = .ok (.aload_n 0, 1) := by decide +kernel
theorem dX5_init_5 : decode cX5_init 5 = .ok (.bipush (-2), 2) := by decide +kernel
theorem dX5_init_7 : decode cX5_init 7 = .ok (.putfield 11, 3) := by decide +kernel
theorem dX5_init_10 : decode cX5_init 10 = .ok (.aload_n 0, 1) := by decide +kernel
theorem dX5_init_11 : decode cX5_init 11 = .ok (.iconst (-1), 1) := by decide +kernel
theorem dX5_init_12 : decode cX5_init 12 = .ok (.putfield 15, 3) := by decide +kernel
theorem dX5_init_15 : decode cX5_init 15 = .ok (.aload_n 0, 1) := by decide +kernel
theorem dX5_init_16 : decode cX5_init 16 = .ok (.iconst 0, 1) := by decide +kernel
theorem dX5_init_17 : decode cX5_init 17 = .ok (.putfield 18, 3) := by decide +kernel
theorem dX5_init_20 : decode cX5_init 20 = .ok (.aload_n 0, 1) := by decide +kernel
theorem dX5_init_21 : decode cX5_init 21 = .ok (.bipush 60, 2) := by decide +kernel
theorem dX5_init_23 : decode cX5_init 23 = .ok (.newarray .long, 2) := by decide +kernel
theorem dX5_init_25 : decode cX5_init 25 = .ok (.putfield 21, 3) := by decide +kernel
theorem dX5_init_28 : decode cX5_init 28 = .ok (.return_, 1) := by decide +kernel
theorem dX5_holdBody_0 : decode cX5_holdBody 0 = .ok (.aload_n 0, 1) := by decide +kernel
theorem dX5_holdBody_1 : decode cX5_holdBody 1 = .ok (.iload_n 1, 1) := by decide +kernel
theorem dX5_holdBody_2 : decode cX5_holdBody 2 = .ok (.ifCond .ge 8, 3) := by decide +kernel
theorem dX5_holdBody_5 : decode cX5_holdBody 5 = .ok (.bipush (-2), 2) := by decide +kernel
theorem dX5_holdBody_7 : decode cX5_holdBody 7 = .ok (.goto 4, 3) := by decide +kernel
theorem dX5_holdBody_10 : decode cX5_holdBody 10 = .ok (.iconst (-1), 1) := by decide +kernel
theorem dX5_holdBody_11 : decode cX5_holdBody 11 = .ok (.putfield 11, 3) := by decide +kernel
theorem dX5_holdBody_14 : decode cX5_holdBody 14 = .ok (.aload_n 0, 1) := by decide +kernel
theorem dX5_holdBody_15 : decode cX5_holdBody 15 = .ok (.iload_n 1, 1) := by decide +kernel
theorem dX5_holdBody_16 : decode cX5_holdBody 16 = .ok (.putfield 15, 3) := by decide +kernel
theorem dX5_holdBody_19 : decode cX5_holdBody 19 = .ok (.aload_n 0, 1) := by decide +kernel
theorem dX5_holdBody_20 : decode cX5_holdBody 20 = .ok (.iconst 0, 1) := by decide +kernel
theorem dX5_holdBody_21 : decode cX5_holdBody 21 = .ok (.putfield 18, 3) := by decide +kernel
theorem dX5_holdBody_24 : decode cX5_holdBody 24 = .ok (.return_, 1) := by decide +kernel
theorem dX5_holdRow_0 : decode cX5_holdRow 0 = .ok (.aload_n 0, 1) := by decide +kernel
theorem dX5_holdRow_1 : decode cX5_holdRow 1 = .ok (.iload_n 1, 1) := by decide +kernel
theorem dX5_holdRow_2 : decode cX5_holdRow 2 = .ok (.putfield 11, 3) := by decide +kernel
theorem dX5_holdRow_5 : decode cX5_holdRow 5 = .ok (.aload_n 0, 1) := by decide +kernel
theorem dX5_holdRow_6 : decode cX5_holdRow 6 = .ok (.iconst (-1), 1) := by decide +kernel
theorem dX5_holdRow_7 : decode cX5_holdRow 7 = .ok (.putfield 15, 3) := by decide +kernel
theorem dX5_holdRow_10 : decode cX5_holdRow 10 = .ok (.aload_n 0, 1) := by decide +kernel
theorem dX5_holdRow_11 : decode cX5_holdRow 11 = .ok (.iload_n 2, 1) := by decide +kernel
theorem dX5_holdRow_12 : decode cX5_holdRow 12 = .ok (.putfield 18, 3) := by decide +kernel
theorem dX5_holdRow_15 : decode cX5_holdRow 15 = .ok (.iconst 0, 1) := by decide +kernel
theorem dX5_holdRow_16 : decode cX5_holdRow 16 = .ok (.istore_n 3, 1) := by decide +kernel
theorem dX5_holdRow_17 : decode cX5_holdRow 17 = .ok (.iload_n 3, 1) := by decide +kernel
theorem dX5_holdRow_18 : decode cX5_holdRow 18 = .ok (.iload_n 2, 1) := by decide +kernel
theorem dX5_holdRow_19 : decode cX5_holdRow 19 = .ok (.if_icmp .ge 16, 3) := by decide +kernel
theorem dX5_holdRow_22 : decode cX5_holdRow 22 = .ok (.aload_n 0, 1) := by decide +kernel
theorem dX5_holdRow_23 : decode cX5_holdRow 23 = .ok (.getfield 21, 3) := by decide +kernel
theorem dX5_holdRow_26 : decode cX5_holdRow 26 = .ok (.iload_n 3, 1) := by decide +kernel
theorem dX5_holdRow_27 : decode cX5_holdRow 27 = .ok (.lconst 0, 1) := by decide +kernel
theorem dX5_holdRow_28 : decode cX5_holdRow 28 = .ok (.lastore, 1) := by decide +kernel
theorem dX5_holdRow_29 : decode cX5_holdRow 29 = .ok (.iinc 3 1, 3) := by decide +kernel
theorem dX5_holdRow_32 : decode cX5_holdRow 32 = .ok (.goto (-15), 3) := by decide +kernel
theorem dX5_holdRow_35 : decode cX5_holdRow 35 = .ok (.return_, 1) := by decide +kernel
theorem dX5_setElement_0 : decode cX5_setElement 0 = .ok (.aload_n 0, 1) := by decide +kernel
theorem dX5_setElement_1 : decode cX5_setElement 1 = .ok (.getfield 21, 3) := by decide +kernel
theorem dX5_setElement_4 : decode cX5_setElement 4 = .ok (.iload_n 1, 1) := by decide +kernel
theorem dX5_setElement_5 : decode cX5_setElement 5 = .ok (.aload_n 0, 1) := by decide +kernel
theorem dX5_setElement_6 : decode cX5_setElement 6 = .ok (.lload_n 2, 1) := by decide +kernel
theorem dX5_setElement_7 : decode cX5_setElement 7 = .ok (.invokevirtual 25, 3) := by decide +kernel
theorem dX5_setElement_10 : decode cX5_setElement 10 = .ok (.lastore, 1) := by decide +kernel
theorem dX5_setElement_11 : decode cX5_setElement 11 = .ok (.return_, 1) := by decide +kernel
theorem dX5_lowestBits_0 : decode cX5_lowestBits 0 = .ok (.aload_n 0, 1) := by decide +kernel
theorem dX5_lowestBits_1 : decode cX5_lowestBits 1 = .ok (.getfield 11, 3) := by decide +kernel
theorem dX5_lowestBits_4 : decode cX5_lowestBits 4 = .ok (.tableswitch 48 0 3 #[32, 37, 42, 46], 32) := by decide +kernel
theorem dX5_lowestBits_36 : decode cX5_lowestBits 36 = .ok (.lload_n 1, 1) := by decide +kernel
theorem dX5_lowestBits_37 : decode cX5_lowestBits 37 = .ok (.l2i, 1) := by decide +kernel
theorem dX5_lowestBits_38 : decode cX5_lowestBits 38 = .ok (.i2b, 1) := by decide +kernel
theorem dX5_lowestBits_39 : decode cX5_lowestBits 39 = .ok (.i2l, 1) := by decide +kernel
theorem dX5_lowestBits_40 : decode cX5_lowestBits 40 = .ok (.lreturn, 1) := by decide +kernel
theorem dX5_lowestBits_41 : decode cX5_lowestBits 41 = .ok (.lload_n 1, 1) := by decide +kernel
theorem dX5_lowestBits_42 : decode cX5_lowestBits 42 = .ok (.l2i, 1) := by decide +kernel
theorem dX5_lowestBits_43 : decode cX5_lowestBits 43 = .ok (.i2s, 1) := by decide +kernel
theorem dX5_lowestBits_44 : decode cX5_lowestBits 44 = .ok (.i2l, 1) := by decide +kernel
theorem dX5_lowestBits_45 : decode cX5_lowestBits 45 = .ok (.lreturn, 1) := by decide +kernel
theorem dX5_lowestBits_46 : decode cX5_lowestBits 46 = .ok (.lload_n 1, 1) := by decide +kernel
theorem dX5_lowestBits_47 : decode cX5_lowestBits 47 = .ok (.l2i, 1) := by decide +kernel
theorem dX5_lowestBits_48 : decode cX5_lowestBits 48 = .ok (.i2l, 1) := by decide +kernel
theorem dX5_lowestBits_49 : decode cX5_lowestBits 49 = .ok (.lreturn, 1) := by decide +kernel
theorem dX5_lowestBits_50 : decode cX5_lowestBits 50 = .ok (.lload_n 1, 1) := by decide +kernel
theorem dX5_lowestBits_51 : decode cX5_lowestBits 51 = .ok (.lreturn, 1) := by decide +kernel
theorem dX5_lowestBits_52 : decode cX5_lowestBits 52 = .ok (.lload_n 1, 1) := by decide +kernel
theorem dX5_lowestBits_53 : decode cX5_lowestBits 53 = .ok (.lconst 0, 1) := by decide +kernel
theorem dX5_lowestBits_54 : decode cX5_lowestBits 54 = .ok (.lcmp, 1) := by decide +kernel
theorem dX5_lowestBits_55 : decode cX5_lowestBits 55 = .ok (.ifCond .eq 7, 3) := by decide +kernel
theorem dX5_lowestBits_58 : decode cX5_lowestBits 58 = .ok (.lconst 1, 1) := by decide +kernel
theorem dX5_lowestBits_59 : decode cX5_lowestBits 59 = .ok (.goto 4, 3) := by decide +kernel
theorem dX5_lowestBits_62 : decode cX5_lowestBits 62 = .ok (.lconst 0, 1) := by decide +kernel
theorem dX5_lowestBits_63 : decode cX5_lowestBits 63 = .ok (.lreturn, 1) := by decide +kernel
theorem dX6_init_0 : decode cX6_init 0 = .ok (.aload_n 0, 1) := by decide +kernel
theorem dX6_init_1 : decode cX6_init 1 = .ok (.invokespecial 3, 3) := by decide +kernel
theorem dX6_init_4 : decode cX6_init 4 = .ok (.aload_n 0, 1) := by decide +kernel
theorem dX6_init_5 : decode cX6_init 5 = .ok (.bipush 50, 2) := by decide +kernel
theorem dX6_init_7 : decode cX6_init 7 = .ok (.newarray .int, 2) := by decide +kernel
theorem dX6_init_9 : decode cX6_init 9 = .ok (.putfield 11, 3) := by decide +kernel
theorem dX6_init_12 : decode cX6_init 12 = .ok (.aload_n 0, 1) := by decide +kernel
theorem dX6_init_13 : decode cX6_init 13 = .ok (.iconst 0, 1) := by decide +kernel
theorem dX6_init_14 : decode cX6_init 14 = .ok (.putfield 15, 3) := by decide +kernel
theorem dX6_init_17 : decode cX6_init 17 = .ok (.aload_n 0, 1) := by decide +kernel
theorem dX6_init_18 : decode cX6_init 18 = .ok (.bipush 24, 2) := by decide +kernel
theorem dX6_init_20 : decode cX6_init 20 = .ok (.newarray .int, 2) := by decide +kernel
theorem dX6_init_22 : decode cX6_init 22 = .ok (.putfield 19, 3) := by decide +kernel
theorem dX6_init_25 : decode cX6_init 25 = .ok (.aload_n 0, 1) := by decide +kernel
theorem dX6_init_26 : decode cX6_init 26 = .ok (.iconst 0, 1) := by decide +kernel
theorem dX6_init_27 : decode cX6_init 27 = .ok (.putfield 22, 3) := by decide +kernel
theorem dX6_init_30 : decode cX6_init 30 = .ok (.return_, 1) := by decide +kernel
theorem dX6_come_0 : decode cX6_come 0 = .ok (.aload_n 0, 1) := by decide +kernel
theorem dX6_come_1 : decode cX6_come 1 = .ok (.getfield 15, 3) := by decide +kernel
theorem dX6_come_4 : decode cX6_come 4 = .ok (.bipush 50, 2) := by decide +kernel
theorem dX6_come_6 : decode cX6_come 6 = .ok (.if_icmp .lt 6, 3) := by decide +kernel
theorem dX6_come_9 : decode cX6_come 9 = .ok (.bipush (-3), 2) := by decide +kernel
theorem dX6_come_11 : decode cX6_come 11 = .ok (.ireturn, 1) := by decide +kernel
theorem dX6_come_12 : decode cX6_come 12 = .ok (.aload_n 0, 1) := by decide +kernel
theorem dX6_come_13 : decode cX6_come 13 = .ok (.getfield 11, 3) := by decide +kernel
theorem dX6_come_16 : decode cX6_come 16 = .ok (.aload_n 0, 1) := by decide +kernel
theorem dX6_come_17 : decode cX6_come 17 = .ok (.getfield 15, 3) := by decide +kernel
theorem dX6_come_20 : decode cX6_come 20 = .ok (.iload_n 1, 1) := by decide +kernel
theorem dX6_come_21 : decode cX6_come 21 = .ok (.iastore, 1) := by decide +kernel
theorem dX6_come_22 : decode cX6_come 22 = .ok (.aload_n 0, 1) := by decide +kernel
theorem dX6_come_23 : decode cX6_come 23 = .ok (.dup, 1) := by decide +kernel
theorem dX6_come_24 : decode cX6_come 24 = .ok (.getfield 15, 3) := by decide +kernel
theorem dX6_come_27 : decode cX6_come 27 = .ok (.iconst 1, 1) := by decide +kernel
theorem dX6_come_28 : decode cX6_come 28 = .ok (.iadd, 1) := by decide +kernel
theorem dX6_come_29 : decode cX6_come 29 = .ok (.putfield 15, 3) := by decide +kernel
theorem dX6_come_32 : decode cX6_come 32 = .ok (.aload_n 0, 1) := by decide +kernel
theorem dX6_come_33 : decode cX6_come 33 = .ok (.getfield 15, 3) := by decide +kernel
theorem dX6_come_36 : decode cX6_come 36 = .ok (.iconst 1, 1) := by decide +kernel
theorem dX6_come_37 : decode cX6_come 37 = .ok (.isub, 1) := by decide +kernel
theorem dX6_come_38 : decode cX6_come 38 = .ok (.ireturn, 1) := by decide +kernel
theorem dX6_isUnder_0 : decode cX6_isUnder 0 = .ok (.iload_n 0, 1) := by decide +kernel
theorem dX6_isUnder_1 : decode cX6_isUnder 1 = .ok (.istore_n 2, 1) := by decide +kernel
theorem dX6_isUnder_2 : decode cX6_isUnder 2 = .ok (.iconst 0, 1) := by decide +kernel
theorem dX6_isUnder_3 : decode cX6_isUnder 3 = .ok (.istore_n 3, 1) := by decide +kernel
theorem dX6_isUnder_4 : decode cX6_isUnder 4 = .ok (.iload_n 3, 1) := by decide +kernel
theorem dX6_isUnder_5 : decode cX6_isUnder 5 = .ok (.bipush 8, 2) := by decide +kernel
theorem dX6_isUnder_7 : decode cX6_isUnder 7 = .ok (.if_icmp .ge 24, 3) := by decide +kernel
theorem dX6_isUnder_10 : decode cX6_isUnder 10 = .ok (.iload_n 2, 1) := by decide +kernel
theorem dX6_isUnder_11 : decode cX6_isUnder 11 = .ok (.ifCond .lt 20, 3) := by decide +kernel
theorem dX6_isUnder_14 : decode cX6_isUnder 14 = .ok (.iload_n 2, 1) := by decide +kernel
theorem dX6_isUnder_15 : decode cX6_isUnder 15 = .ok (.iload_n 1, 1) := by decide +kernel
theorem dX6_isUnder_16 : decode cX6_isUnder 16 = .ok (.if_icmp .eq 15, 3) := by decide +kernel
theorem dX6_isUnder_19 : decode cX6_isUnder 19 = .ok (.getstatic 25, 3) := by decide +kernel
theorem dX6_isUnder_22 : decode cX6_isUnder 22 = .ok (.iload_n 2, 1) := by decide +kernel
theorem dX6_isUnder_23 : decode cX6_isUnder 23 = .ok (.iaload, 1) := by decide +kernel
theorem dX6_isUnder_24 : decode cX6_isUnder 24 = .ok (.istore_n 2, 1) := by decide +kernel
theorem dX6_isUnder_25 : decode cX6_isUnder 25 = .ok (.iinc 3 1, 3) := by decide +kernel
theorem dX6_isUnder_28 : decode cX6_isUnder 28 = .ok (.goto (-24), 3) := by decide +kernel
theorem dX6_isUnder_31 : decode cX6_isUnder 31 = .ok (.iload_n 2, 1) := by decide +kernel
theorem dX6_isUnder_32 : decode cX6_isUnder 32 = .ok (.iload_n 1, 1) := by decide +kernel
theorem dX6_isUnder_33 : decode cX6_isUnder 33 = .ok (.if_icmp .ne 7, 3) := by decide +kernel
theorem dX6_isUnder_36 : decode cX6_isUnder 36 = .ok (.iconst 1, 1) := by decide +kernel
theorem dX6_isUnder_37 : decode cX6_isUnder 37 = .ok (.goto 4, 3) := by decide +kernel
theorem dX6_isUnder_40 : decode cX6_isUnder 40 = .ok (.iconst 0, 1) := by decide +kernel
theorem dX6_isUnder_41 : decode cX6_isUnder 41 = .ok (.ireturn, 1) := by decide +kernel
theorem dX6_doAct_0 : decode cX6_doAct 0 = .ok (.aload_n 0, 1) := by decide +kernel
theorem dX6_doAct_1 : decode cX6_doAct 1 = .ok (.iconst 0, 1) := by decide +kernel
theorem dX6_doAct_2 : decode cX6_doAct 2 = .ok (.putfield 22, 3) := by decide +kernel
theorem dX6_doAct_5 : decode cX6_doAct 5 = .ok (.iload_n 1, 1) := by decide +kernel
theorem dX6_doAct_6 : decode cX6_doAct 6 = .ok (.ifCond .lt 20, 3) := by decide +kernel
theorem dX6_doAct_9 : decode cX6_doAct 9 = .ok (.iload_n 1, 1) := by decide +kernel
theorem dX6_doAct_10 : decode cX6_doAct 10 = .ok (.aload_n 0, 1) := by decide +kernel
theorem dX6_doAct_11 : decode cX6_doAct 11 = .ok (.getfield 15, 3) := by decide +kernel
theorem dX6_doAct_14 : decode cX6_doAct 14 = .ok (.if_icmp .ge 12, 3) := by decide +kernel
theorem dX6_doAct_17 : decode cX6_doAct 17 = .ok (.iload_n 2, 1) := by decide +kernel
theorem dX6_doAct_18 : decode cX6_doAct 18 = .ok (.ifCond .lt 8, 3) := by decide +kernel
theorem dX6_doAct_21 : decode cX6_doAct 21 = .ok (.iload_n 2, 1) := by decide +kernel
theorem dX6_doAct_22 : decode cX6_doAct 22 = .ok (.iconst 4, 1) := by decide +kernel
theorem dX6_doAct_23 : decode cX6_doAct 23 = .ok (.if_icmp .lt 5, 3) := by decide +kernel
theorem dX6_doAct_26 : decode cX6_doAct 26 = .ok (.iconst 0, 1) := by decide +kernel
theorem dX6_doAct_27 : decode cX6_doAct 27 = .ok (.ireturn, 1) := by decide +kernel
theorem dX6_doAct_28 : decode cX6_doAct 28 = .ok (.aload_n 0, 1) := by decide +kernel
theorem dX6_doAct_29 : decode cX6_doAct 29 = .ok (.iload_n 1, 1) := by decide +kernel
theorem dX6_doAct_30 : decode cX6_doAct 30 = .ok (.putfield 28, 3) := by decide +kernel
theorem dX6_doAct_33 : decode cX6_doAct 33 = .ok (.aload_n 0, 1) := by decide +kernel
theorem dX6_doAct_34 : decode cX6_doAct 34 = .ok (.iload_n 2, 1) := by decide +kernel
theorem dX6_doAct_35 : decode cX6_doAct 35 = .ok (.iload_n 3, 1) := by decide +kernel
theorem dX6_doAct_36 : decode cX6_doAct 36 = .ok (.iconst 0, 1) := by decide +kernel
theorem dX6_doAct_37 : decode cX6_doAct 37 = .ok (.invokevirtual 31, 3) := by decide +kernel
theorem dX6_doAct_40 : decode cX6_doAct 40 = .ok (.ireturn, 1) := by decide +kernel
theorem dX6_own_0 : decode cX6_own 0 = .ok (.aload_n 0, 1) := by decide +kernel
theorem dX6_own_1 : decode cX6_own 1 = .ok (.aload_n 0, 1) := by decide +kernel
theorem dX6_own_2 : decode cX6_own 2 = .ok (.getfield 11, 3) := by decide +kernel
theorem dX6_own_5 : decode cX6_own 5 = .ok (.aload_n 0, 1) := by decide +kernel
theorem dX6_own_6 : decode cX6_own 6 = .ok (.getfield 28, 3) := by decide +kernel
theorem dX6_own_9 : decode cX6_own 9 = .ok (.iaload, 1) := by decide +kernel
theorem dX6_own_10 : decode cX6_own 10 = .ok (.iload_n 1, 1) := by decide +kernel
theorem dX6_own_11 : decode cX6_own 11 = .ok (.iload_n 2, 1) := by decide +kernel
theorem dX6_own_12 : decode cX6_own 12 = .ok (.iload_n 3, 1) := by decide +kernel
theorem dX6_own_13 : decode cX6_own 13 = .ok (.invokevirtual 35, 3) := by decide +kernel
theorem dX6_own_16 : decode cX6_own 16 = .ok (.ireturn, 1) := by decide +kernel
theorem dX6_run_0 : decode cX6_run 0 = .ok (.iload_n 1, 1) := by decide +kernel
theorem dX6_run_1 : decode cX6_run 1 = .ok (.istore 5, 2) := by decide +kernel
theorem dX6_run_3 : decode cX6_run 3 = .ok (.iconst 0, 1) := by decide +kernel
theorem dX6_run_4 : decode cX6_run 4 = .ok (.istore 6, 2) := by decide +kernel
theorem dX6_run_6 : decode cX6_run 6 = .ok (.iload 6, 2) := by decide +kernel
theorem dX6_run_8 : decode cX6_run 8 = .ok (.bipush 8, 2) := by decide +kernel
theorem dX6_run_10 : decode cX6_run 10 = .ok (.if_icmp .ge 35, 3) := by decide +kernel
theorem dX6_run_13 : decode cX6_run 13 = .ok (.iload 5, 2) := by decide +kernel
theorem dX6_run_15 : decode cX6_run 15 = .ok (.ifCond .le 30, 3) := by decide +kernel
theorem dX6_run_18 : decode cX6_run 18 = .ok (.getstatic 39, 3) := by decide +kernel
theorem dX6_run_21 : decode cX6_run 21 = .ok (.iload 5, 2) := by decide +kernel
theorem dX6_run_23 : decode cX6_run 23 = .ok (.iconst 4, 1) := by decide +kernel
theorem dX6_run_24 : decode cX6_run 24 = .ok (.imul, 1) := by decide +kernel
theorem dX6_run_25 : decode cX6_run 25 = .ok (.iload_n 2, 1) := by decide +kernel
theorem dX6_run_26 : decode cX6_run 26 = .ok (.iadd, 1) := by decide +kernel
theorem dX6_run_27 : decode cX6_run 27 = .ok (.iaload, 1) := by decide +kernel
theorem dX6_run_28 : decode cX6_run 28 = .ok (.ifCond .ne 17, 3) := by decide +kernel
theorem dX6_run_31 : decode cX6_run 31 = .ok (.getstatic 25, 3) := by decide +kernel
theorem dX6_run_34 : decode cX6_run 34 = .ok (.iload 5, 2) := by decide +kernel
theorem dX6_run_36 : decode cX6_run 36 = .ok (.iaload, 1) := by decide +kernel
theorem dX6_run_37 : decode cX6_run 37 = .ok (.istore 5, 2) := by decide +kernel
theorem dX6_run_39 : decode cX6_run 39 = .ok (.iinc 6 1, 3) := by decide +kernel
theorem dX6_run_42 : decode cX6_run 42 = .ok (.goto (-36), 3) := by decide +kernel
theorem dX6_run_45 : decode cX6_run 45 = .ok (.iload 5, 2) := by decide +kernel
theorem dX6_run_47 : decode cX6_run 47 = .ok (.ifCond .lt 10, 3) := by decide +kernel
theorem dX6_run_50 : decode cX6_run 50 = .ok (.iload 4, 2) := by decide +kernel
theorem dX6_run_52 : decode cX6_run 52 = .ok (.bipush 40, 2) := by decide +kernel
theorem dX6_run_54 : decode cX6_run 54 = .ok (.if_icmp .le 5, 3) := by decide +kernel
theorem dX6_run_57 : decode cX6_run 57 = .ok (.iconst 0, 1) := by decide +kernel
theorem dX6_run_58 : decode cX6_run 58 = .ok (.ireturn, 1) := by decide +kernel
theorem dX6_run_59 : decode cX6_run 59 = .ok (.getstatic 39, 3) := by decide +kernel
theorem dX6_run_62 : decode cX6_run 62 = .ok (.iload 5, 2) := by decide +kernel
theorem dX6_run_64 : decode cX6_run 64 = .ok (.iconst 4, 1) := by decide +kernel
theorem dX6_run_65 : decode cX6_run 65 = .ok (.imul, 1) := by decide +kernel
theorem dX6_run_66 : decode cX6_run 66 = .ok (.iload_n 2, 1) := by decide +kernel
theorem dX6_run_67 : decode cX6_run 67 = .ok (.iadd, 1) := by decide +kernel
theorem dX6_run_68 : decode cX6_run 68 = .ok (.iaload, 1) := by decide +kernel
theorem dX6_run_69 : decode cX6_run 69 = .ok (.istore 6, 2) := by decide +kernel
theorem dX6_run_71 : decode cX6_run 71 = .ok (.aload_n 0, 1) := by decide +kernel
theorem dX6_run_72 : decode cX6_run 72 = .ok (.getfield 22, 3) := by decide +kernel
theorem dX6_run_75 : decode cX6_run 75 = .ok (.bipush 24, 2) := by decide +kernel
theorem dX6_run_77 : decode cX6_run 77 = .ok (.if_icmp .ge 14, 3) := by decide +kernel
theorem dX6_run_80 : decode cX6_run 80 = .ok (.aload_n 0, 1) := by decide +kernel
theorem dX6_run_81 : decode cX6_run 81 = .ok (.getfield 19, 3) := by decide +kernel
theorem dX6_run_84 : decode cX6_run 84 = .ok (.aload_n 0, 1) := by decide +kernel
theorem dX6_run_85 : decode cX6_run 85 = .ok (.getfield 22, 3) := by decide +kernel
theorem dX6_run_88 : decode cX6_run 88 = .ok (.iload 6, 2) := by decide +kernel
theorem dX6_run_90 : decode cX6_run 90 = .ok (.iastore, 1) := by decide +kernel
theorem dX6_run_91 : decode cX6_run 91 = .ok (.aload_n 0, 1) := by decide +kernel
theorem dX6_run_92 : decode cX6_run 92 = .ok (.dup, 1) := by decide +kernel
theorem dX6_run_93 : decode cX6_run 93 = .ok (.getfield 22, 3) := by decide +kernel
theorem dX6_run_96 : decode cX6_run 96 = .ok (.iconst 1, 1) := by decide +kernel
theorem dX6_run_97 : decode cX6_run 97 = .ok (.iadd, 1) := by decide +kernel
theorem dX6_run_98 : decode cX6_run 98 = .ok (.putfield 22, 3) := by decide +kernel
theorem dX6_run_101 : decode cX6_run 101 = .ok (.aload_n 0, 1) := by decide +kernel
theorem dX6_run_102 : decode cX6_run 102 = .ok (.iload 6, 2) := by decide +kernel
theorem dX6_run_104 : decode cX6_run 104 = .ok (.getstatic 25, 3) := by decide +kernel
theorem dX6_run_107 : decode cX6_run 107 = .ok (.iload 5, 2) := by decide +kernel
theorem dX6_run_109 : decode cX6_run 109 = .ok (.iaload, 1) := by decide +kernel
theorem dX6_run_110 : decode cX6_run 110 = .ok (.iload_n 3, 1) := by decide +kernel
theorem dX6_run_111 : decode cX6_run 111 = .ok (.iload 4, 2) := by decide +kernel
theorem dX6_run_113 : decode cX6_run 113 = .ok (.iconst 1, 1) := by decide +kernel
theorem dX6_run_114 : decode cX6_run 114 = .ok (.iadd, 1) := by decide +kernel
theorem dX6_run_115 : decode cX6_run 115 = .ok (.invokevirtual 42, 3) := by decide +kernel
theorem dX6_run_118 : decode cX6_run 118 = .ok (.ireturn, 1) := by decide +kernel
theorem dX6_runBody_0 : decode cX6_runBody 0 = .ok (.iload_n 1, 1) := by decide +kernel
theorem dX6_runBody_1 : decode cX6_runBody 1 = .ok (.lookupswitch 259 #[(1, 107), (2, 114), (10, 132), (11, 143), (20, 150), (30, 162), (40, 173), (41, 185), (50, 197), (60, 216), (70, 228), (80, 240)], 107) := by decide +kernel
theorem dX6_runBody_108 : decode cX6_runBody 108 = .ok (.iload_n 3, 1) := by decide +kernel
theorem dX6_runBody_109 : decode cX6_runBody 109 = .ok (.aload_n 0, 1) := by decide +kernel
theorem dX6_runBody_110 : decode cX6_runBody 110 = .ok (.getfield 28, 3) := by decide +kernel
theorem dX6_runBody_113 : decode cX6_runBody 113 = .ok (.iadd, 1) := by decide +kernel
theorem dX6_runBody_114 : decode cX6_runBody 114 = .ok (.ireturn, 1) := by decide +kernel
theorem dX6_runBody_115 : decode cX6_runBody 115 = .ok (.aload_n 0, 1) := by decide +kernel
theorem dX6_runBody_116 : decode cX6_runBody 116 = .ok (.iconst 1, 1) := by decide +kernel
theorem dX6_runBody_117 : decode cX6_runBody 117 = .ok (.iload_n 3, 1) := by decide +kernel
theorem dX6_runBody_118 : decode cX6_runBody 118 = .ok (.iload 4, 2) := by decide +kernel
theorem dX6_runBody_120 : decode cX6_runBody 120 = .ok (.invokevirtual 31, 3) := by decide +kernel
theorem dX6_runBody_123 : decode cX6_runBody 123 = .ok (.aload_n 0, 1) := by decide +kernel
theorem dX6_runBody_124 : decode cX6_runBody 124 = .ok (.iconst 2, 1) := by decide +kernel
theorem dX6_runBody_125 : decode cX6_runBody 125 = .ok (.iconst 1, 1) := by decide +kernel
theorem dX6_runBody_126 : decode cX6_runBody 126 = .ok (.iload 4, 2) := by decide +kernel
theorem dX6_runBody_128 : decode cX6_runBody 128 = .ok (.invokevirtual 31, 3) := by decide +kernel
theorem dX6_runBody_131 : decode cX6_runBody 131 = .ok (.isub, 1) := by decide +kernel
theorem dX6_runBody_132 : decode cX6_runBody 132 = .ok (.ireturn, 1) := by decide +kernel
theorem dX6_runBody_133 : decode cX6_runBody 133 = .ok (.aload_n 0, 1) := by decide +kernel
theorem dX6_runBody_134 : decode cX6_runBody 134 = .ok (.iconst 0, 1) := by decide +kernel
theorem dX6_runBody_135 : decode cX6_runBody 135 = .ok (.iload_n 3, 1) := by decide +kernel
theorem dX6_runBody_136 : decode cX6_runBody 136 = .ok (.iload 4, 2) := by decide +kernel
theorem dX6_runBody_138 : decode cX6_runBody 138 = .ok (.invokevirtual 31, 3) := by decide +kernel
theorem dX6_runBody_141 : decode cX6_runBody 141 = .ok (.iconst 2, 1) := by decide +kernel
theorem dX6_runBody_142 : decode cX6_runBody 142 = .ok (.imul, 1) := by decide +kernel
theorem dX6_runBody_143 : decode cX6_runBody 143 = .ok (.ireturn, 1) := by decide +kernel
theorem dX6_runBody_144 : decode cX6_runBody 144 = .ok (.iload_n 3, 1) := by decide +kernel
theorem dX6_runBody_145 : decode cX6_runBody 145 = .ok (.aload_n 0, 1) := by decide +kernel
theorem dX6_runBody_146 : decode cX6_runBody 146 = .ok (.getfield 28, 3) := by decide +kernel
theorem dX6_runBody_149 : decode cX6_runBody 149 = .ok (.ixor, 1) := by decide +kernel
theorem dX6_runBody_150 : decode cX6_runBody 150 = .ok (.ireturn, 1) := by decide +kernel
theorem dX6_runBody_151 : decode cX6_runBody 151 = .ok (.aload_n 0, 1) := by decide +kernel
theorem dX6_runBody_152 : decode cX6_runBody 152 = .ok (.iload_n 2, 1) := by decide +kernel
theorem dX6_runBody_153 : decode cX6_runBody 153 = .ok (.iconst 0, 1) := by decide +kernel
theorem dX6_runBody_154 : decode cX6_runBody 154 = .ok (.iload_n 3, 1) := by decide +kernel
theorem dX6_runBody_155 : decode cX6_runBody 155 = .ok (.iload 4, 2) := by decide +kernel
theorem dX6_runBody_157 : decode cX6_runBody 157 = .ok (.invokevirtual 35, 3) := by decide +kernel
theorem dX6_runBody_160 : decode cX6_runBody 160 = .ok (.iconst 3, 1) := by decide +kernel
theorem dX6_runBody_161 : decode cX6_runBody 161 = .ok (.iadd, 1) := by decide +kernel
theorem dX6_runBody_162 : decode cX6_runBody 162 = .ok (.ireturn, 1) := by decide +kernel
theorem dX6_runBody_163 : decode cX6_runBody 163 = .ok (.aload_n 0, 1) := by decide +kernel
theorem dX6_runBody_164 : decode cX6_runBody 164 = .ok (.iload_n 2, 1) := by decide +kernel
theorem dX6_runBody_165 : decode cX6_runBody 165 = .ok (.iconst 1, 1) := by decide +kernel
theorem dX6_runBody_166 : decode cX6_runBody 166 = .ok (.iload_n 3, 1) := by decide +kernel
theorem dX6_runBody_167 : decode cX6_runBody 167 = .ok (.iload 4, 2) := by decide +kernel
theorem dX6_runBody_169 : decode cX6_runBody 169 = .ok (.invokevirtual 35, 3) := by decide +kernel
theorem dX6_runBody_172 : decode cX6_runBody 172 = .ok (.ineg, 1) := by decide +kernel
theorem dX6_runBody_173 : decode cX6_runBody 173 = .ok (.ireturn, 1) := by decide +kernel
theorem dX6_runBody_174 : decode cX6_runBody 174 = .ok (.aload_n 0, 1) := by decide +kernel
theorem dX6_runBody_175 : decode cX6_runBody 175 = .ok (.iload_n 2, 1) := by decide +kernel
theorem dX6_runBody_176 : decode cX6_runBody 176 = .ok (.iconst 2, 1) := by decide +kernel
theorem dX6_runBody_177 : decode cX6_runBody 177 = .ok (.iload_n 3, 1) := by decide +kernel
theorem dX6_runBody_178 : decode cX6_runBody 178 = .ok (.iload 4, 2) := by decide +kernel
theorem dX6_runBody_180 : decode cX6_runBody 180 = .ok (.invokevirtual 35, 3) := by decide +kernel
theorem dX6_runBody_183 : decode cX6_runBody 183 = .ok (.iconst 3, 1) := by decide +kernel
theorem dX6_runBody_184 : decode cX6_runBody 184 = .ok (.imul, 1) := by decide +kernel
theorem dX6_runBody_185 : decode cX6_runBody 185 = .ok (.ireturn, 1) := by decide +kernel
theorem dX6_runBody_186 : decode cX6_runBody 186 = .ok (.aload_n 0, 1) := by decide +kernel
theorem dX6_runBody_187 : decode cX6_runBody 187 = .ok (.iload_n 2, 1) := by decide +kernel
theorem dX6_runBody_188 : decode cX6_runBody 188 = .ok (.iconst 1, 1) := by decide +kernel
theorem dX6_runBody_189 : decode cX6_runBody 189 = .ok (.iload_n 3, 1) := by decide +kernel
theorem dX6_runBody_190 : decode cX6_runBody 190 = .ok (.iconst 1, 1) := by decide +kernel
theorem dX6_runBody_191 : decode cX6_runBody 191 = .ok (.iadd, 1) := by decide +kernel
theorem dX6_runBody_192 : decode cX6_runBody 192 = .ok (.iload 4, 2) := by decide +kernel
theorem dX6_runBody_194 : decode cX6_runBody 194 = .ok (.invokevirtual 35, 3) := by decide +kernel
theorem dX6_runBody_197 : decode cX6_runBody 197 = .ok (.ireturn, 1) := by decide +kernel
theorem dX6_runBody_198 : decode cX6_runBody 198 = .ok (.aload_n 0, 1) := by decide +kernel
theorem dX6_runBody_199 : decode cX6_runBody 199 = .ok (.iload_n 2, 1) := by decide +kernel
theorem dX6_runBody_200 : decode cX6_runBody 200 = .ok (.iconst 2, 1) := by decide +kernel
theorem dX6_runBody_201 : decode cX6_runBody 201 = .ok (.iload_n 3, 1) := by decide +kernel
theorem dX6_runBody_202 : decode cX6_runBody 202 = .ok (.iload 4, 2) := by decide +kernel
theorem dX6_runBody_204 : decode cX6_runBody 204 = .ok (.invokevirtual 35, 3) := by decide +kernel
theorem dX6_runBody_207 : decode cX6_runBody 207 = .ok (.aload_n 0, 1) := by decide +kernel
theorem dX6_runBody_208 : decode cX6_runBody 208 = .ok (.iconst 0, 1) := by decide +kernel
theorem dX6_runBody_209 : decode cX6_runBody 209 = .ok (.iconst 2, 1) := by decide +kernel
theorem dX6_runBody_210 : decode cX6_runBody 210 = .ok (.iload 4, 2) := by decide +kernel
theorem dX6_runBody_212 : decode cX6_runBody 212 = .ok (.invokevirtual 31, 3) := by decide +kernel
theorem dX6_runBody_215 : decode cX6_runBody 215 = .ok (.isub, 1) := by decide +kernel
theorem dX6_runBody_216 : decode cX6_runBody 216 = .ok (.ireturn, 1) := by decide +kernel
theorem dX6_runBody_217 : decode cX6_runBody 217 = .ok (.aload_n 0, 1) := by decide +kernel
theorem dX6_runBody_218 : decode cX6_runBody 218 = .ok (.iload_n 2, 1) := by decide +kernel
theorem dX6_runBody_219 : decode cX6_runBody 219 = .ok (.iconst 3, 1) := by decide +kernel
theorem dX6_runBody_220 : decode cX6_runBody 220 = .ok (.iload_n 3, 1) := by decide +kernel
theorem dX6_runBody_221 : decode cX6_runBody 221 = .ok (.iload 4, 2) := by decide +kernel
theorem dX6_runBody_223 : decode cX6_runBody 223 = .ok (.invokevirtual 35, 3) := by decide +kernel
theorem dX6_runBody_226 : decode cX6_runBody 226 = .ok (.iconst 5, 1) := by decide +kernel
theorem dX6_runBody_227 : decode cX6_runBody 227 = .ok (.ixor, 1) := by decide +kernel
theorem dX6_runBody_228 : decode cX6_runBody 228 = .ok (.ireturn, 1) := by decide +kernel
theorem dX6_runBody_229 : decode cX6_runBody 229 = .ok (.aload_n 0, 1) := by decide +kernel
theorem dX6_runBody_230 : decode cX6_runBody 230 = .ok (.iload_n 2, 1) := by decide +kernel
theorem dX6_runBody_231 : decode cX6_runBody 231 = .ok (.iconst 0, 1) := by decide +kernel
theorem dX6_runBody_232 : decode cX6_runBody 232 = .ok (.iload_n 3, 1) := by decide +kernel
theorem dX6_runBody_233 : decode cX6_runBody 233 = .ok (.iload 4, 2) := by decide +kernel
theorem dX6_runBody_235 : decode cX6_runBody 235 = .ok (.invokevirtual 35, 3) := by decide +kernel
theorem dX6_runBody_238 : decode cX6_runBody 238 = .ok (.iconst 2, 1) := by decide +kernel
theorem dX6_runBody_239 : decode cX6_runBody 239 = .ok (.imul, 1) := by decide +kernel
theorem dX6_runBody_240 : decode cX6_runBody 240 = .ok (.ireturn, 1) := by decide +kernel
theorem dX6_runBody_241 : decode cX6_runBody 241 = .ok (.aload_n 0, 1) := by decide +kernel
theorem dX6_runBody_242 : decode cX6_runBody 242 = .ok (.iload_n 2, 1) := by decide +kernel
theorem dX6_runBody_243 : decode cX6_runBody 243 = .ok (.iconst 1, 1) := by decide +kernel
theorem dX6_runBody_244 : decode cX6_runBody 244 = .ok (.iload_n 3, 1) := by decide +kernel
theorem dX6_runBody_245 : decode cX6_runBody 245 = .ok (.iload 4, 2) := by decide +kernel
theorem dX6_runBody_247 : decode cX6_runBody 247 = .ok (.invokevirtual 35, 3) := by decide +kernel
theorem dX6_runBody_250 : decode cX6_runBody 250 = .ok (.aload_n 0, 1) := by decide +kernel
theorem dX6_runBody_251 : decode cX6_runBody 251 = .ok (.iconst 2, 1) := by decide +kernel
theorem dX6_runBody_252 : decode cX6_runBody 252 = .ok (.iconst 2, 1) := by decide +kernel
theorem dX6_runBody_253 : decode cX6_runBody 253 = .ok (.iload 4, 2) := by decide +kernel
theorem dX6_runBody_255 : decode cX6_runBody 255 = .ok (.invokevirtual 31, 3) := by decide +kernel
theorem dX6_runBody_258 : decode cX6_runBody 258 = .ok (.iadd, 1) := by decide +kernel
theorem dX6_runBody_259 : decode cX6_runBody 259 = .ok (.ireturn, 1) := by decide +kernel
theorem dX6_runBody_260 : decode cX6_runBody 260 = .ok (.aload_n 0, 1) := by decide +kernel
theorem dX6_runBody_261 : decode cX6_runBody 261 = .ok (.iload_n 2, 1) := by decide +kernel
theorem dX6_runBody_262 : decode cX6_runBody 262 = .ok (.iconst 3, 1) := by decide +kernel
theorem dX6_runBody_263 : decode cX6_runBody 263 = .ok (.iload_n 3, 1) := by decide +kernel
theorem dX6_runBody_264 : decode cX6_runBody 264 = .ok (.iload 4, 2) := by decide +kernel
theorem dX6_runBody_266 : decode cX6_runBody 266 = .ok (.invokevirtual 35, 3) := by decide +kernel
theorem dX6_runBody_269 : decode cX6_runBody 269 = .ok (.iconst 1, 1) := by decide +kernel
theorem dX6_runBody_270 : decode cX6_runBody 270 = .ok (.isub, 1) := by decide +kernel
theorem dX6_runBody_271 : decode cX6_runBody 271 = .ok (.ireturn, 1) := by decide +kernel
theorem dX7_init_0 : decode cX7_init 0 = .ok (.aload_n 0, 1) := by decide +kernel
theorem dX7_init_1 : decode cX7_init 1 = .ok (.invokespecial 3, 3) := by decide +kernel
theorem dX7_init_4 : decode cX7_init 4 = .ok (.aload_n 0, 1) := by decide +kernel
theorem dX7_init_5 : decode cX7_init 5 = .ok (.aload_n 1, 1) := by decide +kernel
theorem dX7_init_6 : decode cX7_init 6 = .ok (.putfield 9, 3) := by decide +kernel
theorem dX7_init_9 : decode cX7_init 9 = .ok (.aload_n 0, 1) := by decide +kernel
theorem dX7_init_10 : decode cX7_init 10 = .ok (.aload_n 2, 1) := by decide +kernel
theorem dX7_init_11 : decode cX7_init 11 = .ok (.putfield 15, 3) := by decide +kernel
theorem dX7_init_14 : decode cX7_init 14 = .ok (.return_, 1) := by decide +kernel
theorem dX7_look_0 : decode cX7_look 0 = .ok (.aload_n 0, 1) := by decide +kernel
theorem dX7_look_1 : decode cX7_look 1 = .ok (.bipush (-2), 2) := by decide +kernel
theorem dX7_look_3 : decode cX7_look 3 = .ok (.putfield 19, 3) := by decide +kernel
theorem dX7_look_6 : decode cX7_look 6 = .ok (.aload_n 0, 1) := by decide +kernel
theorem dX7_look_7 : decode cX7_look 7 = .ok (.bipush (-2), 2) := by decide +kernel
theorem dX7_look_9 : decode cX7_look 9 = .ok (.putfield 23, 3) := by decide +kernel
theorem dX7_look_12 : decode cX7_look 12 = .ok (.aload_n 0, 1) := by decide +kernel
theorem dX7_look_13 : decode cX7_look 13 = .ok (.lconst 1, 1) := by decide +kernel
theorem dX7_look_14 : decode cX7_look 14 = .ok (.putfield 26, 3) := by decide +kernel
theorem dX7_look_17 : decode cX7_look 17 = .ok (.aload_n 0, 1) := by decide +kernel
theorem dX7_look_18 : decode cX7_look 18 = .ok (.lconst 1, 1) := by decide +kernel
theorem dX7_look_19 : decode cX7_look 19 = .ok (.putfield 30, 3) := by decide +kernel
theorem dX7_look_22 : decode cX7_look 22 = .ok (.aload_n 0, 1) := by decide +kernel
theorem dX7_look_23 : decode cX7_look 23 = .ok (.aload_n 0, 1) := by decide +kernel
theorem dX7_look_24 : decode cX7_look 24 = .ok (.getfield 9, 3) := by decide +kernel
theorem dX7_look_27 : decode cX7_look 27 = .ok (.invokevirtual 33, 3) := by decide +kernel
theorem dX7_look_30 : decode cX7_look 30 = .ok (.putfield 39, 3) := by decide +kernel
theorem dX7_look_33 : decode cX7_look 33 = .ok (.aload_n 0, 1) := by decide +kernel
theorem dX7_look_34 : decode cX7_look 34 = .ok (.aload_n 0, 1) := by decide +kernel
theorem dX7_look_35 : decode cX7_look 35 = .ok (.getfield 9, 3) := by decide +kernel
theorem dX7_look_38 : decode cX7_look 38 = .ok (.aload_n 0, 1) := by decide +kernel
theorem dX7_look_39 : decode cX7_look 39 = .ok (.getfield 39, 3) := by decide +kernel
theorem dX7_look_42 : decode cX7_look 42 = .ok (.invokevirtual 42, 3) := by decide +kernel
theorem dX7_look_45 : decode cX7_look 45 = .ok (.putfield 46, 3) := by decide +kernel
theorem dX7_look_48 : decode cX7_look 48 = .ok (.iconst 0, 1) := by decide +kernel
theorem dX7_look_49 : decode cX7_look 49 = .ok (.istore_n 2, 1) := by decide +kernel
theorem dX7_look_50 : decode cX7_look 50 = .ok (.iconst 2, 1) := by decide +kernel
theorem dX7_look_51 : decode cX7_look 51 = .ok (.iload_n 2, 1) := by decide +kernel
theorem dX7_look_52 : decode cX7_look 52 = .ok (.imul, 1) := by decide +kernel
theorem dX7_look_53 : decode cX7_look 53 = .ok (.aload_n 1, 1) := by decide +kernel
theorem dX7_look_54 : decode cX7_look 54 = .ok (.getfield 49, 3) := by decide +kernel
theorem dX7_look_57 : decode cX7_look 57 = .ok (.if_icmp .ge 98, 3) := by decide +kernel
theorem dX7_look_60 : decode cX7_look 60 = .ok (.aload_n 0, 1) := by decide +kernel
theorem dX7_look_61 : decode cX7_look 61 = .ok (.getfield 19, 3) := by decide +kernel
theorem dX7_look_64 : decode cX7_look 64 = .ok (.bipush (-2), 2) := by decide +kernel
theorem dX7_look_66 : decode cX7_look 66 = .ok (.if_icmp .ne 89, 3) := by decide +kernel
theorem dX7_look_69 : decode cX7_look 69 = .ok (.iconst 2, 1) := by decide +kernel
theorem dX7_look_70 : decode cX7_look 70 = .ok (.iload_n 2, 1) := by decide +kernel
theorem dX7_look_71 : decode cX7_look 71 = .ok (.imul, 1) := by decide +kernel
theorem dX7_look_72 : decode cX7_look 72 = .ok (.iconst 1, 1) := by decide +kernel
theorem dX7_look_73 : decode cX7_look 73 = .ok (.iadd, 1) := by decide +kernel
theorem dX7_look_74 : decode cX7_look 74 = .ok (.aload_n 1, 1) := by decide +kernel
theorem dX7_look_75 : decode cX7_look 75 = .ok (.getfield 49, 3) := by decide +kernel
theorem dX7_look_78 : decode cX7_look 78 = .ok (.if_icmp .ge 66, 3) := by decide +kernel
theorem dX7_look_81 : decode cX7_look 81 = .ok (.aload_n 0, 1) := by decide +kernel
theorem dX7_look_82 : decode cX7_look 82 = .ok (.iload_n 2, 1) := by decide +kernel
theorem dX7_look_83 : decode cX7_look 83 = .ok (.aload_n 1, 1) := by decide +kernel
theorem dX7_look_84 : decode cX7_look 84 = .ok (.getfield 54, 3) := by decide +kernel
theorem dX7_look_87 : decode cX7_look 87 = .ok (.iconst 2, 1) := by decide +kernel
theorem dX7_look_88 : decode cX7_look 88 = .ok (.iload_n 2, 1) := by decide +kernel
theorem dX7_look_89 : decode cX7_look 89 = .ok (.imul, 1) := by decide +kernel
theorem dX7_look_90 : decode cX7_look 90 = .ok (.laload, 1) := by decide +kernel
theorem dX7_look_91 : decode cX7_look 91 = .ok (.aload_n 1, 1) := by decide +kernel
theorem dX7_look_92 : decode cX7_look 92 = .ok (.getfield 54, 3) := by decide +kernel
theorem dX7_look_95 : decode cX7_look 95 = .ok (.iconst 2, 1) := by decide +kernel
theorem dX7_look_96 : decode cX7_look 96 = .ok (.iload_n 2, 1) := by decide +kernel
theorem dX7_look_97 : decode cX7_look 97 = .ok (.imul, 1) := by decide +kernel
theorem dX7_look_98 : decode cX7_look 98 = .ok (.iconst 1, 1) := by decide +kernel
theorem dX7_look_99 : decode cX7_look 99 = .ok (.iadd, 1) := by decide +kernel
theorem dX7_look_100 : decode cX7_look 100 = .ok (.laload, 1) := by decide +kernel
theorem dX7_look_101 : decode cX7_look 101 = .ok (.invokevirtual 58, 3) := by decide +kernel
theorem dX7_look_104 : decode cX7_look 104 = .ok (.ifCond .eq 40, 3) := by decide +kernel
theorem dX7_look_107 : decode cX7_look 107 = .ok (.aload_n 0, 1) := by decide +kernel
theorem dX7_look_108 : decode cX7_look 108 = .ok (.iload_n 2, 1) := by decide +kernel
theorem dX7_look_109 : decode cX7_look 109 = .ok (.aload_n 1, 1) := by decide +kernel
theorem dX7_look_110 : decode cX7_look 110 = .ok (.getfield 54, 3) := by decide +kernel
theorem dX7_look_113 : decode cX7_look 113 = .ok (.iconst 2, 1) := by decide +kernel
theorem dX7_look_114 : decode cX7_look 114 = .ok (.iload_n 2, 1) := by decide +kernel
theorem dX7_look_115 : decode cX7_look 115 = .ok (.imul, 1) := by decide +kernel
theorem dX7_look_116 : decode cX7_look 116 = .ok (.laload, 1) := by decide +kernel
theorem dX7_look_117 : decode cX7_look 117 = .ok (.l2i, 1) := by decide +kernel
theorem dX7_look_118 : decode cX7_look 118 = .ok (.aload_n 1, 1) := by decide +kernel
theorem dX7_look_119 : decode cX7_look 119 = .ok (.getfield 54, 3) := by decide +kernel
theorem dX7_look_122 : decode cX7_look 122 = .ok (.iconst 2, 1) := by decide +kernel
theorem dX7_look_123 : decode cX7_look 123 = .ok (.iload_n 2, 1) := by decide +kernel
theorem dX7_look_124 : decode cX7_look 124 = .ok (.imul, 1) := by decide +kernel
theorem dX7_look_125 : decode cX7_look 125 = .ok (.iconst 1, 1) := by decide +kernel
theorem dX7_look_126 : decode cX7_look 126 = .ok (.iadd, 1) := by decide +kernel
theorem dX7_look_127 : decode cX7_look 127 = .ok (.laload, 1) := by decide +kernel
theorem dX7_look_128 : decode cX7_look 128 = .ok (.lconst 1, 1) := by decide +kernel
theorem dX7_look_129 : decode cX7_look 129 = .ok (.lcmp, 1) := by decide +kernel
theorem dX7_look_130 : decode cX7_look 130 = .ok (.ifCond .ne 7, 3) := by decide +kernel
theorem dX7_look_133 : decode cX7_look 133 = .ok (.iconst 1, 1) := by decide +kernel
theorem dX7_look_134 : decode cX7_look 134 = .ok (.goto 4, 3) := by decide +kernel
theorem dX7_look_137 : decode cX7_look 137 = .ok (.iconst 0, 1) := by decide +kernel
theorem dX7_look_138 : decode cX7_look 138 = .ok (.invokevirtual 62, 3) := by decide +kernel
theorem dX7_look_141 : decode cX7_look 141 = .ok (.goto 8, 3) := by decide +kernel
theorem dX7_look_144 : decode cX7_look 144 = .ok (.aload_n 0, 1) := by decide +kernel
theorem dX7_look_145 : decode cX7_look 145 = .ok (.iload_n 2, 1) := by decide +kernel
theorem dX7_look_146 : decode cX7_look 146 = .ok (.putfield 19, 3) := by decide +kernel
theorem dX7_look_149 : decode cX7_look 149 = .ok (.iinc 2 1, 3) := by decide +kernel
theorem dX7_look_152 : decode cX7_look 152 = .ok (.goto (-102), 3) := by decide +kernel
theorem dX7_look_155 : decode cX7_look 155 = .ok (.aload_n 0, 1) := by decide +kernel
theorem dX7_look_156 : decode cX7_look 156 = .ok (.getfield 19, 3) := by decide +kernel
theorem dX7_look_159 : decode cX7_look 159 = .ok (.bipush (-2), 2) := by decide +kernel
theorem dX7_look_161 : decode cX7_look 161 = .ok (.if_icmp .eq 19, 3) := by decide +kernel
theorem dX7_look_164 : decode cX7_look 164 = .ok (.aload_n 0, 1) := by decide +kernel
theorem dX7_look_165 : decode cX7_look 165 = .ok (.bipush (-2), 2) := by decide +kernel
theorem dX7_look_167 : decode cX7_look 167 = .ok (.putfield 23, 3) := by decide +kernel
theorem dX7_look_170 : decode cX7_look 170 = .ok (.aload_n 0, 1) := by decide +kernel
theorem dX7_look_171 : decode cX7_look 171 = .ok (.lconst 0, 1) := by decide +kernel
theorem dX7_look_172 : decode cX7_look 172 = .ok (.putfield 26, 3) := by decide +kernel
theorem dX7_look_175 : decode cX7_look 175 = .ok (.aload_n 0, 1) := by decide +kernel
theorem dX7_look_176 : decode cX7_look 176 = .ok (.lconst 1, 1) := by decide +kernel
theorem dX7_look_177 : decode cX7_look 177 = .ok (.putfield 30, 3) := by decide +kernel
theorem dX7_look_180 : decode cX7_look 180 = .ok (.return_, 1) := by decide +kernel
theorem dX7_canBe_0 : decode cX7_canBe 0 = .ok (.aload_n 0, 1) := by decide +kernel
theorem dX7_canBe_1 : decode cX7_canBe 1 = .ok (.getfield 9, 3) := by decide +kernel
theorem dX7_canBe_4 : decode cX7_canBe 4 = .ok (.aload_n 0, 1) := by decide +kernel
theorem dX7_canBe_5 : decode cX7_canBe 5 = .ok (.getfield 39, 3) := by decide +kernel
theorem dX7_canBe_8 : decode cX7_canBe 8 = .ok (.iload_n 1, 1) := by decide +kernel
theorem dX7_canBe_9 : decode cX7_canBe 9 = .ok (.invokevirtual 66, 3) := by decide +kernel
theorem dX7_canBe_12 : decode cX7_canBe 12 = .ok (.ifCond .ne 17, 3) := by decide +kernel
theorem dX7_canBe_15 : decode cX7_canBe 15 = .ok (.lload 4, 2) := by decide +kernel
theorem dX7_canBe_17 : decode cX7_canBe 17 = .ok (.lconst 0, 1) := by decide +kernel
theorem dX7_canBe_18 : decode cX7_canBe 18 = .ok (.lcmp, 1) := by decide +kernel
theorem dX7_canBe_19 : decode cX7_canBe 19 = .ok (.ifCond .lt 10, 3) := by decide +kernel
theorem dX7_canBe_22 : decode cX7_canBe 22 = .ok (.lload 4, 2) := by decide +kernel
theorem dX7_canBe_24 : decode cX7_canBe 24 = .ok (.lconst 1, 1) := by decide +kernel
theorem dX7_canBe_25 : decode cX7_canBe 25 = .ok (.lcmp, 1) := by decide +kernel
theorem dX7_canBe_26 : decode cX7_canBe 26 = .ok (.ifCond .le 5, 3) := by decide +kernel
theorem dX7_canBe_29 : decode cX7_canBe 29 = .ok (.iconst 0, 1) := by decide +kernel
theorem dX7_canBe_30 : decode cX7_canBe 30 = .ok (.ireturn, 1) := by decide +kernel
theorem dX7_canBe_31 : decode cX7_canBe 31 = .ok (.lload_n 2, 1) := by decide +kernel
theorem dX7_canBe_32 : decode cX7_canBe 32 = .ok (.ldc2_w 70, 3) := by decide +kernel
theorem dX7_canBe_35 : decode cX7_canBe 35 = .ok (.lcmp, 1) := by decide +kernel
theorem dX7_canBe_36 : decode cX7_canBe 36 = .ok (.ifCond .ne 16, 3) := by decide +kernel
theorem dX7_canBe_39 : decode cX7_canBe 39 = .ok (.lload 4, 2) := by decide +kernel
theorem dX7_canBe_41 : decode cX7_canBe 41 = .ok (.lconst 0, 1) := by decide +kernel
theorem dX7_canBe_42 : decode cX7_canBe 42 = .ok (.lcmp, 1) := by decide +kernel
theorem dX7_canBe_43 : decode cX7_canBe 43 = .ok (.ifCond .ne 7, 3) := by decide +kernel
theorem dX7_canBe_46 : decode cX7_canBe 46 = .ok (.iconst 1, 1) := by decide +kernel
theorem dX7_canBe_47 : decode cX7_canBe 47 = .ok (.goto 4, 3) := by decide +kernel
theorem dX7_canBe_50 : decode cX7_canBe 50 = .ok (.iconst 0, 1) := by decide +kernel
theorem dX7_canBe_51 : decode cX7_canBe 51 = .ok (.ireturn, 1) := by decide +kernel
theorem dX7_canBe_52 : decode cX7_canBe 52 = .ok (.lload_n 2, 1) := by decide +kernel
theorem dX7_canBe_53 : decode cX7_canBe 53 = .ok (.lconst 0, 1) := by decide +kernel
theorem dX7_canBe_54 : decode cX7_canBe 54 = .ok (.lcmp, 1) := by decide +kernel
theorem dX7_canBe_55 : decode cX7_canBe 55 = .ok (.ifCond .lt 38, 3) := by decide +kernel
theorem dX7_canBe_58 : decode cX7_canBe 58 = .ok (.lload_n 2, 1) := by decide +kernel
theorem dX7_canBe_59 : decode cX7_canBe 59 = .ok (.aload_n 0, 1) := by decide +kernel
theorem dX7_canBe_60 : decode cX7_canBe 60 = .ok (.getfield 9, 3) := by decide +kernel
theorem dX7_canBe_63 : decode cX7_canBe 63 = .ok (.getfield 72, 3) := by decide +kernel
theorem dX7_canBe_66 : decode cX7_canBe 66 = .ok (.i2l, 1) := by decide +kernel
theorem dX7_canBe_67 : decode cX7_canBe 67 = .ok (.lcmp, 1) := by decide +kernel
theorem dX7_canBe_68 : decode cX7_canBe 68 = .ok (.ifCond .ge 25, 3) := by decide +kernel
theorem dX7_canBe_71 : decode cX7_canBe 71 = .ok (.lload_n 2, 1) := by decide +kernel
theorem dX7_canBe_72 : decode cX7_canBe 72 = .ok (.aload_n 0, 1) := by decide +kernel
theorem dX7_canBe_73 : decode cX7_canBe 73 = .ok (.getfield 46, 3) := by decide +kernel
theorem dX7_canBe_76 : decode cX7_canBe 76 = .ok (.i2l, 1) := by decide +kernel
theorem dX7_canBe_77 : decode cX7_canBe 77 = .ok (.lcmp, 1) := by decide +kernel
theorem dX7_canBe_78 : decode cX7_canBe 78 = .ok (.ifCond .eq 15, 3) := by decide +kernel
theorem dX7_canBe_81 : decode cX7_canBe 81 = .ok (.aload_n 0, 1) := by decide +kernel
theorem dX7_canBe_82 : decode cX7_canBe 82 = .ok (.getfield 39, 3) := by decide +kernel
theorem dX7_canBe_85 : decode cX7_canBe 85 = .ok (.lload_n 2, 1) := by decide +kernel
theorem dX7_canBe_86 : decode cX7_canBe 86 = .ok (.l2i, 1) := by decide +kernel
theorem dX7_canBe_87 : decode cX7_canBe 87 = .ok (.ishr, 1) := by decide +kernel
theorem dX7_canBe_88 : decode cX7_canBe 88 = .ok (.iconst 1, 1) := by decide +kernel
theorem dX7_canBe_89 : decode cX7_canBe 89 = .ok (.iand, 1) := by decide +kernel
theorem dX7_canBe_90 : decode cX7_canBe 90 = .ok (.ifCond .ne 5, 3) := by decide +kernel
theorem dX7_canBe_93 : decode cX7_canBe 93 = .ok (.iconst 0, 1) := by decide +kernel
theorem dX7_canBe_94 : decode cX7_canBe 94 = .ok (.ireturn, 1) := by decide +kernel
theorem dX7_canBe_95 : decode cX7_canBe 95 = .ok (.aload_n 0, 1) := by decide +kernel
theorem dX7_canBe_96 : decode cX7_canBe 96 = .ok (.getfield 15, 3) := by decide +kernel
theorem dX7_canBe_99 : decode cX7_canBe 99 = .ok (.iload_n 1, 1) := by decide +kernel
theorem dX7_canBe_100 : decode cX7_canBe 100 = .ok (.aload_n 0, 1) := by decide +kernel
theorem dX7_canBe_101 : decode cX7_canBe 101 = .ok (.getfield 46, 3) := by decide +kernel
theorem dX7_canBe_104 : decode cX7_canBe 104 = .ok (.lload_n 2, 1) := by decide +kernel
theorem dX7_canBe_105 : decode cX7_canBe 105 = .ok (.l2i, 1) := by decide +kernel
theorem dX7_canBe_106 : decode cX7_canBe 106 = .ok (.aload_n 0, 1) := by decide +kernel
theorem dX7_canBe_107 : decode cX7_canBe 107 = .ok (.getfield 39, 3) := by decide +kernel
theorem dX7_canBe_110 : decode cX7_canBe 110 = .ok (.invokevirtual 75, 3) := by decide +kernel
theorem dX7_canBe_113 : decode cX7_canBe 113 = .ok (.istore 6, 2) := by decide +kernel
theorem dX7_canBe_115 : decode cX7_canBe 115 = .ok (.lload 4, 2) := by decide +kernel
theorem dX7_canBe_117 : decode cX7_canBe 117 = .ok (.lconst 1, 1) := by decide +kernel
theorem dX7_canBe_118 : decode cX7_canBe 118 = .ok (.lcmp, 1) := by decide +kernel
theorem dX7_canBe_119 : decode cX7_canBe 119 = .ok (.ifCond .ne 16, 3) := by decide +kernel
theorem dX7_canBe_122 : decode cX7_canBe 122 = .ok (.iload 6, 2) := by decide +kernel
theorem dX7_canBe_124 : decode cX7_canBe 124 = .ok (.ifCond .le 7, 3) := by decide +kernel
theorem dX7_canBe_127 : decode cX7_canBe 127 = .ok (.iconst 1, 1) := by decide +kernel
theorem dX7_canBe_128 : decode cX7_canBe 128 = .ok (.goto 19, 3) := by decide +kernel
theorem dX7_canBe_131 : decode cX7_canBe 131 = .ok (.iconst 0, 1) := by decide +kernel
theorem dX7_canBe_132 : decode cX7_canBe 132 = .ok (.goto 15, 3) := by decide +kernel
theorem dX7_canBe_135 : decode cX7_canBe 135 = .ok (.iload 6, 2) := by decide +kernel
theorem dX7_canBe_137 : decode cX7_canBe 137 = .ok (.bipush 12, 2) := by decide +kernel
theorem dX7_canBe_139 : decode cX7_canBe 139 = .ok (.if_icmp .ge 7, 3) := by decide +kernel
theorem dX7_canBe_142 : decode cX7_canBe 142 = .ok (.iconst 1, 1) := by decide +kernel
theorem dX7_canBe_143 : decode cX7_canBe 143 = .ok (.goto 4, 3) := by decide +kernel
theorem dX7_canBe_146 : decode cX7_canBe 146 = .ok (.iconst 0, 1) := by decide +kernel
theorem dX7_canBe_147 : decode cX7_canBe 147 = .ok (.ireturn, 1) := by decide +kernel
theorem dX7_follow_0 : decode cX7_follow 0 = .ok (.iload_n 2, 1) := by decide +kernel
theorem dX7_follow_1 : decode cX7_follow 1 = .ok (.bipush 9, 2) := by decide +kernel
theorem dX7_follow_3 : decode cX7_follow 3 = .ok (.if_icmp .ne 8, 3) := by decide +kernel
theorem dX7_follow_6 : decode cX7_follow 6 = .ok (.bipush (-2), 2) := by decide +kernel
theorem dX7_follow_8 : decode cX7_follow 8 = .ok (.goto 4, 3) := by decide +kernel
theorem dX7_follow_11 : decode cX7_follow 11 = .ok (.iload_n 2, 1) := by decide +kernel
theorem dX7_follow_12 : decode cX7_follow 12 = .ok (.istore 4, 2) := by decide +kernel
theorem dX7_follow_14 : decode cX7_follow 14 = .ok (.aload_n 0, 1) := by decide +kernel
theorem dX7_follow_15 : decode cX7_follow 15 = .ok (.getfield 23, 3) := by decide +kernel
theorem dX7_follow_18 : decode cX7_follow 18 = .ok (.bipush (-2), 2) := by decide +kernel
theorem dX7_follow_20 : decode cX7_follow 20 = .ok (.if_icmp .ne 29, 3) := by decide +kernel
theorem dX7_follow_23 : decode cX7_follow 23 = .ok (.iload 4, 2) := by decide +kernel
theorem dX7_follow_25 : decode cX7_follow 25 = .ok (.aload_n 0, 1) := by decide +kernel
theorem dX7_follow_26 : decode cX7_follow 26 = .ok (.getfield 15, 3) := by decide +kernel
theorem dX7_follow_29 : decode cX7_follow 29 = .ok (.iload_n 1, 1) := by decide +kernel
theorem dX7_follow_30 : decode cX7_follow 30 = .ok (.aload_n 0, 1) := by decide +kernel
theorem dX7_follow_31 : decode cX7_follow 31 = .ok (.getfield 46, 3) := by decide +kernel
theorem dX7_follow_34 : decode cX7_follow 34 = .ok (.aload_n 0, 1) := by decide +kernel
theorem dX7_follow_35 : decode cX7_follow 35 = .ok (.getfield 39, 3) := by decide +kernel
theorem dX7_follow_38 : decode cX7_follow 38 = .ok (.invokevirtual 81, 3) := by decide +kernel
theorem dX7_follow_41 : decode cX7_follow 41 = .ok (.if_icmp .eq 8, 3) := by decide +kernel
theorem dX7_follow_44 : decode cX7_follow 44 = .ok (.aload_n 0, 1) := by decide +kernel
theorem dX7_follow_45 : decode cX7_follow 45 = .ok (.iload_n 1, 1) := by decide +kernel
theorem dX7_follow_46 : decode cX7_follow 46 = .ok (.putfield 23, 3) := by decide +kernel
theorem dX7_follow_49 : decode cX7_follow 49 = .ok (.iload 4, 2) := by decide +kernel
theorem dX7_follow_51 : decode cX7_follow 51 = .ok (.bipush (-2), 2) := by decide +kernel
theorem dX7_follow_53 : decode cX7_follow 53 = .ok (.if_icmp .eq 60, 3) := by decide +kernel
theorem dX7_follow_56 : decode cX7_follow 56 = .ok (.aload_n 0, 1) := by decide +kernel
theorem dX7_follow_57 : decode cX7_follow 57 = .ok (.getfield 15, 3) := by decide +kernel
theorem dX7_follow_60 : decode cX7_follow 60 = .ok (.iload_n 1, 1) := by decide +kernel
theorem dX7_follow_61 : decode cX7_follow 61 = .ok (.aload_n 0, 1) := by decide +kernel
theorem dX7_follow_62 : decode cX7_follow 62 = .ok (.getfield 46, 3) := by decide +kernel
theorem dX7_follow_65 : decode cX7_follow 65 = .ok (.iload 4, 2) := by decide +kernel
theorem dX7_follow_67 : decode cX7_follow 67 = .ok (.aload_n 0, 1) := by decide +kernel
theorem dX7_follow_68 : decode cX7_follow 68 = .ok (.getfield 39, 3) := by decide +kernel
theorem dX7_follow_71 : decode cX7_follow 71 = .ok (.invokevirtual 75, 3) := by decide +kernel
theorem dX7_follow_74 : decode cX7_follow 74 = .ok (.istore 5, 2) := by decide +kernel
theorem dX7_follow_76 : decode cX7_follow 76 = .ok (.aload_n 0, 1) := by decide +kernel
theorem dX7_follow_77 : decode cX7_follow 77 = .ok (.dup, 1) := by decide +kernel
theorem dX7_follow_78 : decode cX7_follow 78 = .ok (.getfield 26, 3) := by decide +kernel
theorem dX7_follow_81 : decode cX7_follow 81 = .ok (.iload_n 3, 1) := by decide +kernel
theorem dX7_follow_82 : decode cX7_follow 82 = .ok (.ifCond .eq 9, 3) := by decide +kernel
theorem dX7_follow_85 : decode cX7_follow 85 = .ok (.iload 5, 2) := by decide +kernel
theorem dX7_follow_87 : decode cX7_follow 87 = .ok (.i2l, 1) := by decide +kernel
theorem dX7_follow_88 : decode cX7_follow 88 = .ok (.goto 9, 3) := by decide +kernel
theorem dX7_follow_91 : decode cX7_follow 91 = .ok (.bipush 12, 2) := by decide +kernel
theorem dX7_follow_93 : decode cX7_follow 93 = .ok (.iload 5, 2) := by decide +kernel
theorem dX7_follow_95 : decode cX7_follow 95 = .ok (.isub, 1) := by decide +kernel
theorem dX7_follow_96 : decode cX7_follow 96 = .ok (.i2l, 1) := by decide +kernel
theorem dX7_follow_97 : decode cX7_follow 97 = .ok (.lmul, 1) := by decide +kernel
theorem dX7_follow_98 : decode cX7_follow 98 = .ok (.putfield 26, 3) := by decide +kernel
theorem dX7_follow_101 : decode cX7_follow 101 = .ok (.aload_n 0, 1) := by decide +kernel
theorem dX7_follow_102 : decode cX7_follow 102 = .ok (.dup, 1) := by decide +kernel
theorem dX7_follow_103 : decode cX7_follow 103 = .ok (.getfield 30, 3) := by decide +kernel
theorem dX7_follow_106 : decode cX7_follow 106 = .ok (.ldc2_w 85, 3) := by decide +kernel
theorem dX7_follow_109 : decode cX7_follow 109 = .ok (.lmul, 1) := by decide +kernel
theorem dX7_follow_110 : decode cX7_follow 110 = .ok (.putfield 30, 3) := by decide +kernel
theorem dX7_follow_113 : decode cX7_follow 113 = .ok (.iload_n 3, 1) := by decide +kernel
theorem dX7_follow_114 : decode cX7_follow 114 = .ok (.ifCond .eq 18, 3) := by decide +kernel
theorem dX7_follow_117 : decode cX7_follow 117 = .ok (.aload_n 0, 1) := by decide +kernel
theorem dX7_follow_118 : decode cX7_follow 118 = .ok (.dup, 1) := by decide +kernel
theorem dX7_follow_119 : decode cX7_follow 119 = .ok (.getfield 39, 3) := by decide +kernel
theorem dX7_follow_122 : decode cX7_follow 122 = .ok (.iconst 1, 1) := by decide +kernel
theorem dX7_follow_123 : decode cX7_follow 123 = .ok (.iload 4, 2) := by decide +kernel
theorem dX7_follow_125 : decode cX7_follow 125 = .ok (.ishl, 1) := by decide +kernel
theorem dX7_follow_126 : decode cX7_follow 126 = .ok (.iconst (-1), 1) := by decide +kernel
theorem dX7_follow_127 : decode cX7_follow 127 = .ok (.ixor, 1) := by decide +kernel
theorem dX7_follow_128 : decode cX7_follow 128 = .ok (.iand, 1) := by decide +kernel
theorem dX7_follow_129 : decode cX7_follow 129 = .ok (.putfield 39, 3) := by decide +kernel
theorem dX7_follow_132 : decode cX7_follow 132 = .ok (.aload_n 0, 1) := by decide +kernel
theorem dX7_follow_133 : decode cX7_follow 133 = .ok (.aload_n 0, 1) := by decide +kernel
theorem dX7_follow_134 : decode cX7_follow 134 = .ok (.getfield 9, 3) := by decide +kernel
theorem dX7_follow_137 : decode cX7_follow 137 = .ok (.aload_n 0, 1) := by decide +kernel
theorem dX7_follow_138 : decode cX7_follow 138 = .ok (.getfield 46, 3) := by decide +kernel
theorem dX7_follow_141 : decode cX7_follow 141 = .ok (.aload_n 0, 1) := by decide +kernel
theorem dX7_follow_142 : decode cX7_follow 142 = .ok (.getfield 39, 3) := by decide +kernel
theorem dX7_follow_145 : decode cX7_follow 145 = .ok (.invokevirtual 87, 3) := by decide +kernel
theorem dX7_follow_148 : decode cX7_follow 148 = .ok (.putfield 46, 3) := by decide +kernel
theorem dX7_follow_151 : decode cX7_follow 151 = .ok (.return_, 1) := by decide +kernel
theorem dJ6_bitCount_0f7a4_0 : decode cJ6_bitCount_0f7a4 0 = .ok (.iload_n 0, 1) := by decide +kernel
theorem dJ6_bitCount_0f7a4_1 : decode cJ6_bitCount_0f7a4 1 = .ok (.iload_n 0, 1) := by decide +kernel
theorem dJ6_bitCount_0f7a4_2 : decode cJ6_bitCount_0f7a4 2 = .ok (.iconst 1, 1) := by decide +kernel
theorem dJ6_bitCount_0f7a4_3 : decode cJ6_bitCount_0f7a4 3 = .ok (.iushr, 1) := by decide +kernel
theorem dJ6_bitCount_0f7a4_4 : decode cJ6_bitCount_0f7a4 4 = .ok (.ldc_w 265, 3) := by decide +kernel
theorem dJ6_bitCount_0f7a4_7 : decode cJ6_bitCount_0f7a4 7 = .ok (.iand, 1) := by decide +kernel
theorem dJ6_bitCount_0f7a4_8 : decode cJ6_bitCount_0f7a4 8 = .ok (.isub, 1) := by decide +kernel
theorem dJ6_bitCount_0f7a4_9 : decode cJ6_bitCount_0f7a4 9 = .ok (.istore_n 0, 1) := by decide +kernel
theorem dJ6_bitCount_0f7a4_10 : decode cJ6_bitCount_0f7a4 10 = .ok (.iload_n 0, 1) := by decide +kernel
theorem dJ6_bitCount_0f7a4_11 : decode cJ6_bitCount_0f7a4 11 = .ok (.ldc_w 266, 3) := by decide +kernel
theorem dJ6_bitCount_0f7a4_14 : decode cJ6_bitCount_0f7a4 14 = .ok (.iand, 1) := by decide +kernel
theorem dJ6_bitCount_0f7a4_15 : decode cJ6_bitCount_0f7a4 15 = .ok (.iload_n 0, 1) := by decide +kernel
theorem dJ6_bitCount_0f7a4_16 : decode cJ6_bitCount_0f7a4 16 = .ok (.iconst 2, 1) := by decide +kernel
theorem dJ6_bitCount_0f7a4_17 : decode cJ6_bitCount_0f7a4 17 = .ok (.iushr, 1) := by decide +kernel
theorem dJ6_bitCount_0f7a4_18 : decode cJ6_bitCount_0f7a4 18 = .ok (.ldc_w 266, 3) := by decide +kernel
theorem dJ6_bitCount_0f7a4_21 : decode cJ6_bitCount_0f7a4 21 = .ok (.iand, 1) := by decide +kernel
theorem dJ6_bitCount_0f7a4_22 : decode cJ6_bitCount_0f7a4 22 = .ok (.iadd, 1) := by decide +kernel
theorem dJ6_bitCount_0f7a4_23 : decode cJ6_bitCount_0f7a4 23 = .ok (.istore_n 0, 1) := by decide +kernel
theorem dJ6_bitCount_0f7a4_24 : decode cJ6_bitCount_0f7a4 24 = .ok (.iload_n 0, 1) := by decide +kernel
theorem dJ6_bitCount_0f7a4_25 : decode cJ6_bitCount_0f7a4 25 = .ok (.iload_n 0, 1) := by decide +kernel
theorem dJ6_bitCount_0f7a4_26 : decode cJ6_bitCount_0f7a4 26 = .ok (.iconst 4, 1) := by decide +kernel
theorem dJ6_bitCount_0f7a4_27 : decode cJ6_bitCount_0f7a4 27 = .ok (.iushr, 1) := by decide +kernel
theorem dJ6_bitCount_0f7a4_28 : decode cJ6_bitCount_0f7a4 28 = .ok (.iadd, 1) := by decide +kernel
theorem dJ6_bitCount_0f7a4_29 : decode cJ6_bitCount_0f7a4 29 = .ok (.ldc_w 267, 3) := by decide +kernel
theorem dJ6_bitCount_0f7a4_32 : decode cJ6_bitCount_0f7a4 32 = .ok (.iand, 1) := by decide +kernel
theorem dJ6_bitCount_0f7a4_33 : decode cJ6_bitCount_0f7a4 33 = .ok (.istore_n 0, 1) := by decide +kernel
theorem dJ6_bitCount_0f7a4_34 : decode cJ6_bitCount_0f7a4 34 = .ok (.iload_n 0, 1) := by decide +kernel
theorem dJ6_bitCount_0f7a4_35 : decode cJ6_bitCount_0f7a4 35 = .ok (.iload_n 0, 1) := by decide +kernel
theorem dJ6_bitCount_0f7a4_36 : decode cJ6_bitCount_0f7a4 36 = .ok (.bipush 8, 2) := by decide +kernel
theorem dJ6_bitCount_0f7a4_38 : decode cJ6_bitCount_0f7a4 38 = .ok (.iushr, 1) := by decide +kernel
theorem dJ6_bitCount_0f7a4_39 : decode cJ6_bitCount_0f7a4 39 = .ok (.iadd, 1) := by decide +kernel
theorem dJ6_bitCount_0f7a4_40 : decode cJ6_bitCount_0f7a4 40 = .ok (.istore_n 0, 1) := by decide +kernel
theorem dJ6_bitCount_0f7a4_41 : decode cJ6_bitCount_0f7a4 41 = .ok (.iload_n 0, 1) := by decide +kernel
theorem dJ6_bitCount_0f7a4_42 : decode cJ6_bitCount_0f7a4 42 = .ok (.iload_n 0, 1) := by decide +kernel
theorem dJ6_bitCount_0f7a4_43 : decode cJ6_bitCount_0f7a4 43 = .ok (.bipush 16, 2) := by decide +kernel
theorem dJ6_bitCount_0f7a4_45 : decode cJ6_bitCount_0f7a4 45 = .ok (.iushr, 1) := by decide +kernel
theorem dJ6_bitCount_0f7a4_46 : decode cJ6_bitCount_0f7a4 46 = .ok (.iadd, 1) := by decide +kernel
theorem dJ6_bitCount_0f7a4_47 : decode cJ6_bitCount_0f7a4 47 = .ok (.istore_n 0, 1) := by decide +kernel
theorem dJ6_bitCount_0f7a4_48 : decode cJ6_bitCount_0f7a4 48 = .ok (.iload_n 0, 1) := by decide +kernel
theorem dJ6_bitCount_0f7a4_49 : decode cJ6_bitCount_0f7a4 49 = .ok (.bipush 63, 2) := by decide +kernel
theorem dJ6_bitCount_0f7a4_51 : decode cJ6_bitCount_0f7a4 51 = .ok (.iand, 1) := by decide +kernel
theorem dJ6_bitCount_0f7a4_52 : decode cJ6_bitCount_0f7a4 52 = .ok (.ireturn, 1) := by decide +kernel
theorem dJ9_abs_067f4_0 : decode cJ9_abs_067f4 0 = .ok (.lload_n 0, 1) := by decide +kernel
theorem dJ9_abs_067f4_1 : decode cJ9_abs_067f4 1 = .ok (.lconst 0, 1) := by decide +kernel
theorem dJ9_abs_067f4_2 : decode cJ9_abs_067f4 2 = .ok (.lcmp, 1) := by decide +kernel
theorem dJ9_abs_067f4_3 : decode cJ9_abs_067f4 3 = .ok (.ifCond .ge 8, 3) := by decide +kernel
theorem dJ9_abs_067f4_6 : decode cJ9_abs_067f4 6 = .ok (.lload_n 0, 1) := by decide +kernel
theorem dJ9_abs_067f4_7 : decode cJ9_abs_067f4 7 = .ok (.lneg, 1) := by decide +kernel
theorem dJ9_abs_067f4_8 : decode cJ9_abs_067f4 8 = .ok (.goto 4, 3) := by decide +kernel
theorem dJ9_abs_067f4_11 : decode cJ9_abs_067f4 11 = .ok (.lload_n 0, 1) := by decide +kernel
theorem dJ9_abs_067f4_12 : decode cJ9_abs_067f4 12 = .ok (.lreturn, 1) := by decide +kernel
theorem dJ9_max_7cf53_0 : decode cJ9_max_7cf53 0 = .ok (.iload_n 0, 1) := by decide +kernel
theorem dJ9_max_7cf53_1 : decode cJ9_max_7cf53 1 = .ok (.iload_n 1, 1) := by decide +kernel
theorem dJ9_max_7cf53_2 : decode cJ9_max_7cf53 2 = .ok (.if_icmp .lt 7, 3) := by decide +kernel
theorem dJ9_max_7cf53_5 : decode cJ9_max_7cf53 5 = .ok (.iload_n 0, 1) := by decide +kernel
theorem dJ9_max_7cf53_6 : decode cJ9_max_7cf53 6 = .ok (.goto 4, 3) := by decide +kernel
theorem dJ9_max_7cf53_9 : decode cJ9_max_7cf53 9 = .ok (.iload_n 1, 1) := by decide +kernel
theorem dJ9_max_7cf53_10 : decode cJ9_max_7cf53 10 = .ok (.ireturn, 1) := by decide +kernel
theorem dJ9_max_f86c9_0 : decode cJ9_max_f86c9 0 = .ok (.lload_n 0, 1) := by decide +kernel
theorem dJ9_max_f86c9_1 : decode cJ9_max_f86c9 1 = .ok (.lload_n 2, 1) := by decide +kernel
theorem dJ9_max_f86c9_2 : decode cJ9_max_f86c9 2 = .ok (.lcmp, 1) := by decide +kernel
theorem dJ9_max_f86c9_3 : decode cJ9_max_f86c9 3 = .ok (.ifCond .lt 7, 3) := by decide +kernel
theorem dJ9_max_f86c9_6 : decode cJ9_max_f86c9 6 = .ok (.lload_n 0, 1) := by decide +kernel
theorem dJ9_max_f86c9_7 : decode cJ9_max_f86c9 7 = .ok (.goto 4, 3) := by decide +kernel
theorem dJ9_max_f86c9_10 : decode cJ9_max_f86c9 10 = .ok (.lload_n 2, 1) := by decide +kernel
theorem dJ9_max_f86c9_11 : decode cJ9_max_f86c9 11 = .ok (.lreturn, 1) := by decide +kernel
theorem dJ9_min_7cf53_0 : decode cJ9_min_7cf53 0 = .ok (.iload_n 0, 1) := by decide +kernel
theorem dJ9_min_7cf53_1 : decode cJ9_min_7cf53 1 = .ok (.iload_n 1, 1) := by decide +kernel
theorem dJ9_min_7cf53_2 : decode cJ9_min_7cf53 2 = .ok (.if_icmp .gt 7, 3) := by decide +kernel
theorem dJ9_min_7cf53_5 : decode cJ9_min_7cf53 5 = .ok (.iload_n 0, 1) := by decide +kernel
theorem dJ9_min_7cf53_6 : decode cJ9_min_7cf53 6 = .ok (.goto 4, 3) := by decide +kernel
theorem dJ9_min_7cf53_9 : decode cJ9_min_7cf53 9 = .ok (.iload_n 1, 1) := by decide +kernel
theorem dJ9_min_7cf53_10 : decode cJ9_min_7cf53 10 = .ok (.ireturn, 1) := by decide +kernel
theorem dJ9_min_f86c9_0 : decode cJ9_min_f86c9 0 = .ok (.lload_n 0, 1) := by decide +kernel
theorem dJ9_min_f86c9_1 : decode cJ9_min_f86c9 1 = .ok (.lload_n 2, 1) := by decide +kernel
theorem dJ9_min_f86c9_2 : decode cJ9_min_f86c9 2 = .ok (.lcmp, 1) := by decide +kernel
theorem dJ9_min_f86c9_3 : decode cJ9_min_f86c9 3 = .ok (.ifCond .gt 7, 3) := by decide +kernel
theorem dJ9_min_f86c9_6 : decode cJ9_min_f86c9 6 = .ok (.lload_n 0, 1) := by decide +kernel
theorem dJ9_min_f86c9_7 : decode cJ9_min_f86c9 7 = .ok (.goto 4, 3) := by decide +kernel
theorem dJ9_min_f86c9_10 : decode cJ9_min_f86c9 10 = .ok (.lload_n 2, 1) := by decide +kernel
theorem dJ9_min_f86c9_11 : decode cJ9_min_f86c9 11 = .ok (.lreturn, 1) := by decide +kernel
