/-! decode rows, as the claim prints them -/
theorem dX0_init_0 : decode cX0_init 0 = .ok (.aload_n 0, 1) := by decide +kernel
theorem dX0_init_1 : decode cX0_init 1 = .ok (.invokespecial 3, 3) := by decide +kernel
theorem dX0_init_4 : decode cX0_init 4 = .ok (.aload_n 0, 1) := by decide +kernel
theorem dX0_init_5 : decode cX0_init 5 = .ok (.sipush 576, 3) := by decide +kernel
theorem dX0_init_8 : decode cX0_init 8 = .ok (.newarray .int, 2) := by decide +kernel
theorem dX0_init_10 : decode cX0_init 10 = .ok (.putfield 9, 3) := by decide +kernel
theorem dX0_init_13 : decode cX0_init 13 = .ok (.aload_n 0, 1) := by decide +kernel
theorem dX0_init_14 : decode cX0_init 14 = .ok (.sipush 576, 3) := by decide +kernel
theorem dX0_init_17 : decode cX0_init 17 = .ok (.newarray .int, 2) := by decide +kernel
theorem dX0_init_19 : decode cX0_init 19 = .ok (.putfield 15, 3) := by decide +kernel
theorem dX0_init_22 : decode cX0_init 22 = .ok (.aload_n 0, 1) := by decide +kernel
theorem dX0_init_23 : decode cX0_init 23 = .ok (.sipush 576, 3) := by decide +kernel
theorem dX0_init_26 : decode cX0_init 26 = .ok (.newarray .int, 2) := by decide +kernel
theorem dX0_init_28 : decode cX0_init 28 = .ok (.putfield 18, 3) := by decide +kernel
theorem dX0_init_31 : decode cX0_init 31 = .ok (.return_, 1) := by decide +kernel
theorem dX1_init_0 : decode cX1_init 0 = .ok (.aload_n 0, 1) := by decide +kernel
theorem dX1_init_1 : decode cX1_init 1 = .ok (.invokespecial 3, 3) := by decide +kernel
theorem dX1_init_4 : decode cX1_init 4 = .ok (.aload_n 0, 1) := by decide +kernel
theorem dX1_init_5 : decode cX1_init 5 = .ok (.new 9, 3) := by decide +kernel
theorem dX1_init_8 : decode cX1_init 8 = .ok (.dup, 1) := by decide +kernel
theorem dX1_init_9 : decode cX1_init 9 = .ok (.invokespecial 11, 3) := by decide +kernel
theorem dX1_init_12 : decode cX1_init 12 = .ok (.putfield 12, 3) := by decide +kernel
theorem dX1_init_15 : decode cX1_init 15 = .ok (.aload_n 0, 1) := by decide +kernel
theorem dX1_init_16 : decode cX1_init 16 = .ok (.new 18, 3) := by decide +kernel
theorem dX1_init_19 : decode cX1_init 19 = .ok (.dup, 1) := by decide +kernel
theorem dX1_init_20 : decode cX1_init 20 = .ok (.invokespecial 20, 3) := by decide +kernel
theorem dX1_init_23 : decode cX1_init 23 = .ok (.putfield 21, 3) := by decide +kernel
theorem dX1_init_26 : decode cX1_init 26 = .ok (.aload_n 0, 1) := by decide +kernel
theorem dX1_init_27 : decode cX1_init 27 = .ok (.new 25, 3) := by decide +kernel
theorem dX1_init_30 : decode cX1_init 30 = .ok (.dup, 1) := by decide +kernel
theorem dX1_init_31 : decode cX1_init 31 = .ok (.invokespecial 27, 3) := by decide +kernel
theorem dX1_init_34 : decode cX1_init 34 = .ok (.putfield 28, 3) := by decide +kernel
theorem dX1_init_37 : decode cX1_init 37 = .ok (.aload_n 0, 1) := by decide +kernel
theorem dX1_init_38 : decode cX1_init 38 = .ok (.bipush 12, 2) := by decide +kernel
theorem dX1_init_40 : decode cX1_init 40 = .ok (.newarray .int, 2) := by decide +kernel
theorem dX1_init_42 : decode cX1_init 42 = .ok (.putfield 32, 3) := by decide +kernel
theorem dX1_init_45 : decode cX1_init 45 = .ok (.aload_n 0, 1) := by decide +kernel
theorem dX1_init_46 : decode cX1_init 46 = .ok (.bipush 12, 2) := by decide +kernel
theorem dX1_init_48 : decode cX1_init 48 = .ok (.newarray .int, 2) := by decide +kernel
theorem dX1_init_50 : decode cX1_init 50 = .ok (.putfield 36, 3) := by decide +kernel
theorem dX1_init_53 : decode cX1_init 53 = .ok (.aload_n 0, 1) := by decide +kernel
theorem dX1_init_54 : decode cX1_init 54 = .ok (.bipush 8, 2) := by decide +kernel
theorem dX1_init_56 : decode cX1_init 56 = .ok (.newarray .int, 2) := by decide +kernel
theorem dX1_init_58 : decode cX1_init 58 = .ok (.putfield 39, 3) := by decide +kernel
theorem dX1_init_61 : decode cX1_init 61 = .ok (.aload_n 0, 1) := by decide +kernel
theorem dX1_init_62 : decode cX1_init 62 = .ok (.bipush 8, 2) := by decide +kernel
theorem dX1_init_64 : decode cX1_init 64 = .ok (.newarray .int, 2) := by decide +kernel
theorem dX1_init_66 : decode cX1_init 66 = .ok (.putfield 42, 3) := by decide +kernel
theorem dX1_init_69 : decode cX1_init 69 = .ok (.aload_n 0, 1) := by decide +kernel
theorem dX1_init_70 : decode cX1_init 70 = .ok (.bipush 44, 2) := by decide +kernel
theorem dX1_init_72 : decode cX1_init 72 = .ok (.newarray .int, 2) := by decide +kernel
theorem dX1_init_74 : decode cX1_init 74 = .ok (.putfield 45, 3) := by decide +kernel
theorem dX1_init_77 : decode cX1_init 77 = .ok (.aload_n 0, 1) := by decide +kernel
theorem dX1_init_78 : decode cX1_init 78 = .ok (.bipush 44, 2) := by decide +kernel
theorem dX1_init_80 : decode cX1_init 80 = .ok (.newarray .int, 2) := by decide +kernel
theorem dX1_init_82 : decode cX1_init 82 = .ok (.putfield 48, 3) := by decide +kernel
theorem dX1_init_85 : decode cX1_init 85 = .ok (.return_, 1) := by decide +kernel
theorem dX1_clear_0 : decode cX1_clear 0 = .ok (.aload_n 0, 1) := by decide +kernel
theorem dX1_clear_1 : decode cX1_clear 1 = .ok (.getfield 12, 3) := by decide +kernel
theorem dX1_clear_4 : decode cX1_clear 4 = .ok (.invokevirtual 51, 3) := by decide +kernel
theorem dX1_clear_7 : decode cX1_clear 7 = .ok (.aload_n 0, 1) := by decide +kernel
theorem dX1_clear_8 : decode cX1_clear 8 = .ok (.getfield 21, 3) := by decide +kernel
theorem dX1_clear_11 : decode cX1_clear 11 = .ok (.iconst 0, 1) := by decide +kernel
theorem dX1_clear_12 : decode cX1_clear 12 = .ok (.invokevirtual 54, 3) := by decide +kernel
theorem dX1_clear_15 : decode cX1_clear 15 = .ok (.aload_n 0, 1) := by decide +kernel
theorem dX1_clear_16 : decode cX1_clear 16 = .ok (.getfield 28, 3) := by decide +kernel
theorem dX1_clear_19 : decode cX1_clear 19 = .ok (.invokevirtual 58, 3) := by decide +kernel
theorem dX1_clear_22 : decode cX1_clear 22 = .ok (.aload_n 0, 1) := by decide +kernel
theorem dX1_clear_23 : decode cX1_clear 23 = .ok (.iconst 0, 1) := by decide +kernel
theorem dX1_clear_24 : decode cX1_clear 24 = .ok (.putfield 59, 3) := by decide +kernel
theorem dX1_clear_27 : decode cX1_clear 27 = .ok (.aload_n 0, 1) := by decide +kernel
theorem dX1_clear_28 : decode cX1_clear 28 = .ok (.iconst 0, 1) := by decide +kernel
theorem dX1_clear_29 : decode cX1_clear 29 = .ok (.putfield 63, 3) := by decide +kernel
theorem dX1_clear_32 : decode cX1_clear 32 = .ok (.aload_n 0, 1) := by decide +kernel
theorem dX1_clear_33 : decode cX1_clear 33 = .ok (.iconst 0, 1) := by decide +kernel
theorem dX1_clear_34 : decode cX1_clear 34 = .ok (.putfield 66, 3) := by decide +kernel
theorem dX1_clear_37 : decode cX1_clear 37 = .ok (.return_, 1) := by decide +kernel
theorem dX1_comeTerm_0 : decode cX1_comeTerm 0 = .ok (.aload_n 0, 1) := by decide +kernel
theorem dX1_comeTerm_1 : decode cX1_comeTerm 1 = .ok (.getfield 12, 3) := by decide +kernel
theorem dX1_comeTerm_4 : decode cX1_comeTerm 4 = .ok (.iload_n 1, 1) := by decide +kernel
theorem dX1_comeTerm_5 : decode cX1_comeTerm 5 = .ok (.iload_n 2, 1) := by decide +kernel
theorem dX1_comeTerm_6 : decode cX1_comeTerm 6 = .ok (.iload_n 3, 1) := by decide +kernel
theorem dX1_comeTerm_7 : decode cX1_comeTerm 7 = .ok (.iload 4, 2) := by decide +kernel
theorem dX1_comeTerm_9 : decode cX1_comeTerm 9 = .ok (.iload 5, 2) := by decide +kernel
theorem dX1_comeTerm_11 : decode cX1_comeTerm 11 = .ok (.invokevirtual 69, 3) := by decide +kernel
theorem dX1_comeTerm_14 : decode cX1_comeTerm 14 = .ok (.aload_n 0, 1) := by decide +kernel
theorem dX1_comeTerm_15 : decode cX1_comeTerm 15 = .ok (.getfield 21, 3) := by decide +kernel
theorem dX1_comeTerm_18 : decode cX1_comeTerm 18 = .ok (.invokevirtual 73, 3) := by decide +kernel
theorem dX1_comeTerm_21 : decode cX1_comeTerm 21 = .ok (.aload_n 0, 1) := by decide +kernel
theorem dX1_comeTerm_22 : decode cX1_comeTerm 22 = .ok (.getfield 28, 3) := by decide +kernel
theorem dX1_comeTerm_25 : decode cX1_comeTerm 25 = .ok (.invokevirtual 76, 3) := by decide +kernel
theorem dX1_comeTerm_28 : decode cX1_comeTerm 28 = .ok (.aload_n 0, 1) := by decide +kernel
theorem dX1_comeTerm_29 : decode cX1_comeTerm 29 = .ok (.invokevirtual 77, 3) := by decide +kernel
theorem dX1_comeTerm_32 : decode cX1_comeTerm 32 = .ok (.return_, 1) := by decide +kernel
theorem dX1_comeSame_0 : decode cX1_comeSame 0 = .ok (.aload_n 0, 1) := by decide +kernel
theorem dX1_comeSame_1 : decode cX1_comeSame 1 = .ok (.getfield 59, 3) := by decide +kernel
theorem dX1_comeSame_4 : decode cX1_comeSame 4 = .ok (.bipush 12, 2) := by decide +kernel
theorem dX1_comeSame_6 : decode cX1_comeSame 6 = .ok (.if_icmp .lt 4, 3) := by decide +kernel
theorem dX1_comeSame_9 : decode cX1_comeSame 9 = .ok (.return_, 1) := by decide +kernel
theorem dX1_comeSame_10 : decode cX1_comeSame 10 = .ok (.aload_n 0, 1) := by decide +kernel
theorem dX1_comeSame_11 : decode cX1_comeSame 11 = .ok (.getfield 32, 3) := by decide +kernel
theorem dX1_comeSame_14 : decode cX1_comeSame 14 = .ok (.aload_n 0, 1) := by decide +kernel
theorem dX1_comeSame_15 : decode cX1_comeSame 15 = .ok (.getfield 59, 3) := by decide +kernel
theorem dX1_comeSame_18 : decode cX1_comeSame 18 = .ok (.iload_n 1, 1) := by decide +kernel
theorem dX1_comeSame_19 : decode cX1_comeSame 19 = .ok (.iastore, 1) := by decide +kernel
theorem dX1_comeSame_20 : decode cX1_comeSame 20 = .ok (.aload_n 0, 1) := by decide +kernel
theorem dX1_comeSame_21 : decode cX1_comeSame 21 = .ok (.getfield 36, 3) := by decide +kernel
theorem dX1_comeSame_24 : decode cX1_comeSame 24 = .ok (.aload_n 0, 1) := by decide +kernel
theorem dX1_comeSame_25 : decode cX1_comeSame 25 = .ok (.getfield 59, 3) := by decide +kernel
theorem dX1_comeSame_28 : decode cX1_comeSame 28 = .ok (.iload_n 2, 1) := by decide +kernel
theorem dX1_comeSame_29 : decode cX1_comeSame 29 = .ok (.iastore, 1) := by decide +kernel
theorem dX1_comeSame_30 : decode cX1_comeSame 30 = .ok (.aload_n 0, 1) := by decide +kernel
theorem dX1_comeSame_31 : decode cX1_comeSame 31 = .ok (.dup, 1) := by decide +kernel
theorem dX1_comeSame_32 : decode cX1_comeSame 32 = .ok (.getfield 59, 3) := by decide +kernel
theorem dX1_comeSame_35 : decode cX1_comeSame 35 = .ok (.iconst 1, 1) := by decide +kernel
theorem dX1_comeSame_36 : decode cX1_comeSame 36 = .ok (.iadd, 1) := by decide +kernel
theorem dX1_comeSame_37 : decode cX1_comeSame 37 = .ok (.putfield 59, 3) := by decide +kernel
theorem dX1_comeSame_40 : decode cX1_comeSame 40 = .ok (.aload_n 0, 1) := by decide +kernel
theorem dX1_comeSame_41 : decode cX1_comeSame 41 = .ok (.getfield 21, 3) := by decide +kernel
theorem dX1_comeSame_44 : decode cX1_comeSame 44 = .ok (.iload_n 1, 1) := by decide +kernel
theorem dX1_comeSame_45 : decode cX1_comeSame 45 = .ok (.iload_n 2, 1) := by decide +kernel
theorem dX1_comeSame_46 : decode cX1_comeSame 46 = .ok (.invokevirtual 80, 3) := by decide +kernel
theorem dX1_comeSame_49 : decode cX1_comeSame 49 = .ok (.ifCond .ne 39, 3) := by decide +kernel
theorem dX1_comeSame_52 : decode cX1_comeSame 52 = .ok (.aload_n 0, 1) := by decide +kernel
theorem dX1_comeSame_53 : decode cX1_comeSame 53 = .ok (.getfield 28, 3) := by decide +kernel
theorem dX1_comeSame_56 : decode cX1_comeSame 56 = .ok (.iload_n 1, 1) := by decide +kernel
theorem dX1_comeSame_57 : decode cX1_comeSame 57 = .ok (.iload_n 2, 1) := by decide +kernel
theorem dX1_comeSame_58 : decode cX1_comeSame 58 = .ok (.aload_n 0, 1) := by decide +kernel
theorem dX1_comeSame_59 : decode cX1_comeSame 59 = .ok (.getfield 59, 3) := by decide +kernel
theorem dX1_comeSame_62 : decode cX1_comeSame 62 = .ok (.iconst 1, 1) := by decide +kernel
theorem dX1_comeSame_63 : decode cX1_comeSame 63 = .ok (.isub, 1) := by decide +kernel
theorem dX1_comeSame_64 : decode cX1_comeSame 64 = .ok (.iconst 1, 1) := by decide +kernel
theorem dX1_comeSame_65 : decode cX1_comeSame 65 = .ok (.aload_n 0, 1) := by decide +kernel
theorem dX1_comeSame_66 : decode cX1_comeSame 66 = .ok (.getfield 59, 3) := by decide +kernel
theorem dX1_comeSame_69 : decode cX1_comeSame 69 = .ok (.iconst 1, 1) := by decide +kernel
theorem dX1_comeSame_70 : decode cX1_comeSame 70 = .ok (.isub, 1) := by decide +kernel
theorem dX1_comeSame_71 : decode cX1_comeSame 71 = .ok (.ishl, 1) := by decide +kernel
theorem dX1_comeSame_72 : decode cX1_comeSame 72 = .ok (.invokevirtual 84, 3) := by decide +kernel
theorem dX1_comeSame_75 : decode cX1_comeSame 75 = .ok (.aload_n 0, 1) := by decide +kernel
theorem dX1_comeSame_76 : decode cX1_comeSame 76 = .ok (.getfield 21, 3) := by decide +kernel
theorem dX1_comeSame_79 : decode cX1_comeSame 79 = .ok (.iload_n 1, 1) := by decide +kernel
theorem dX1_comeSame_80 : decode cX1_comeSame 80 = .ok (.iload_n 2, 1) := by decide +kernel
theorem dX1_comeSame_81 : decode cX1_comeSame 81 = .ok (.invokevirtual 88, 3) := by decide +kernel
theorem dX1_comeSame_84 : decode cX1_comeSame 84 = .ok (.aload_n 0, 1) := by decide +kernel
theorem dX1_comeSame_85 : decode cX1_comeSame 85 = .ok (.invokevirtual 77, 3) := by decide +kernel
theorem dX1_comeSame_88 : decode cX1_comeSame 88 = .ok (.return_, 1) := by decide +kernel
theorem dX1_comeDiff_0 : decode cX1_comeDiff 0 = .ok (.aload_n 0, 1) := by decide +kernel
theorem dX1_comeDiff_1 : decode cX1_comeDiff 1 = .ok (.getfield 63, 3) := by decide +kernel
theorem dX1_comeDiff_4 : decode cX1_comeDiff 4 = .ok (.bipush 8, 2) := by decide +kernel
theorem dX1_comeDiff_6 : decode cX1_comeDiff 6 = .ok (.if_icmp .ge 33, 3) := by decide +kernel
theorem dX1_comeDiff_9 : decode cX1_comeDiff 9 = .ok (.aload_n 0, 1) := by decide +kernel
theorem dX1_comeDiff_10 : decode cX1_comeDiff 10 = .ok (.getfield 39, 3) := by decide +kernel
theorem dX1_comeDiff_13 : decode cX1_comeDiff 13 = .ok (.aload_n 0, 1) := by decide +kernel
theorem dX1_comeDiff_14 : decode cX1_comeDiff 14 = .ok (.getfield 63, 3) := by decide +kernel
theorem dX1_comeDiff_17 : decode cX1_comeDiff 17 = .ok (.iload_n 1, 1) := by decide +kernel
theorem dX1_comeDiff_18 : decode cX1_comeDiff 18 = .ok (.iastore, 1) := by decide +kernel
theorem dX1_comeDiff_19 : decode cX1_comeDiff 19 = .ok (.aload_n 0, 1) := by decide +kernel
theorem dX1_comeDiff_20 : decode cX1_comeDiff 20 = .ok (.getfield 42, 3) := by decide +kernel
theorem dX1_comeDiff_23 : decode cX1_comeDiff 23 = .ok (.aload_n 0, 1) := by decide +kernel
theorem dX1_comeDiff_24 : decode cX1_comeDiff 24 = .ok (.getfield 63, 3) := by decide +kernel
theorem dX1_comeDiff_27 : decode cX1_comeDiff 27 = .ok (.iload_n 2, 1) := by decide +kernel
theorem dX1_comeDiff_28 : decode cX1_comeDiff 28 = .ok (.iastore, 1) := by decide +kernel
theorem dX1_comeDiff_29 : decode cX1_comeDiff 29 = .ok (.aload_n 0, 1) := by decide +kernel
theorem dX1_comeDiff_30 : decode cX1_comeDiff 30 = .ok (.dup, 1) := by decide +kernel
theorem dX1_comeDiff_31 : decode cX1_comeDiff 31 = .ok (.getfield 63, 3) := by decide +kernel
theorem dX1_comeDiff_34 : decode cX1_comeDiff 34 = .ok (.iconst 1, 1) := by decide +kernel
theorem dX1_comeDiff_35 : decode cX1_comeDiff 35 = .ok (.iadd, 1) := by decide +kernel
theorem dX1_comeDiff_36 : decode cX1_comeDiff 36 = .ok (.putfield 63, 3) := by decide +kernel
theorem dX1_comeDiff_39 : decode cX1_comeDiff 39 = .ok (.return_, 1) := by decide +kernel
theorem dX1_closeInOrder_0 : decode cX1_closeInOrder 0 = .ok (.aload_n 0, 1) := by decide +kernel
theorem dX1_closeInOrder_1 : decode cX1_closeInOrder 1 = .ok (.getfield 12, 3) := by decide +kernel
theorem dX1_closeInOrder_4 : decode cX1_closeInOrder 4 = .ok (.aload_n 0, 1) := by decide +kernel
theorem dX1_closeInOrder_5 : decode cX1_closeInOrder 5 = .ok (.getfield 21, 3) := by decide +kernel
theorem dX1_closeInOrder_8 : decode cX1_closeInOrder 8 = .ok (.invokevirtual 92, 3) := by decide +kernel
theorem dX1_closeInOrder_11 : decode cX1_closeInOrder 11 = .ok (.istore_n 1, 1) := by decide +kernel
theorem dX1_closeInOrder_12 : decode cX1_closeInOrder 12 = .ok (.iconst 0, 1) := by decide +kernel
theorem dX1_closeInOrder_13 : decode cX1_closeInOrder 13 = .ok (.istore_n 2, 1) := by decide +kernel
theorem dX1_closeInOrder_14 : decode cX1_closeInOrder 14 = .ok (.iload_n 2, 1) := by decide +kernel
theorem dX1_closeInOrder_15 : decode cX1_closeInOrder 15 = .ok (.bipush 24, 2) := by decide +kernel
theorem dX1_closeInOrder_17 : decode cX1_closeInOrder 17 = .ok (.if_icmp .ge 74, 3) := by decide +kernel
theorem dX1_closeInOrder_20 : decode cX1_closeInOrder 20 = .ok (.iload_n 1, 1) := by decide +kernel
theorem dX1_closeInOrder_21 : decode cX1_closeInOrder 21 = .ok (.ifCond .lt 70, 3) := by decide +kernel
theorem dX1_closeInOrder_24 : decode cX1_closeInOrder 24 = .ok (.aload_n 0, 1) := by decide +kernel
theorem dX1_closeInOrder_25 : decode cX1_closeInOrder 25 = .ok (.getfield 12, 3) := by decide +kernel
theorem dX1_closeInOrder_28 : decode cX1_closeInOrder 28 = .ok (.getfield 96, 3) := by decide +kernel
theorem dX1_closeInOrder_31 : decode cX1_closeInOrder 31 = .ok (.iload_n 1, 1) := by decide +kernel
theorem dX1_closeInOrder_32 : decode cX1_closeInOrder 32 = .ok (.iaload, 1) := by decide +kernel
theorem dX1_closeInOrder_33 : decode cX1_closeInOrder 33 = .ok (.istore_n 3, 1) := by decide +kernel
theorem dX1_closeInOrder_34 : decode cX1_closeInOrder 34 = .ok (.aload_n 0, 1) := by decide +kernel
theorem dX1_closeInOrder_35 : decode cX1_closeInOrder 35 = .ok (.getfield 12, 3) := by decide +kernel
theorem dX1_closeInOrder_38 : decode cX1_closeInOrder 38 = .ok (.getfield 99, 3) := by decide +kernel
theorem dX1_closeInOrder_41 : decode cX1_closeInOrder 41 = .ok (.iload_n 1, 1) := by decide +kernel
theorem dX1_closeInOrder_42 : decode cX1_closeInOrder 42 = .ok (.iaload, 1) := by decide +kernel
theorem dX1_closeInOrder_43 : decode cX1_closeInOrder 43 = .ok (.istore 4, 2) := by decide +kernel
theorem dX1_closeInOrder_45 : decode cX1_closeInOrder 45 = .ok (.aload_n 0, 1) := by decide +kernel
theorem dX1_closeInOrder_46 : decode cX1_closeInOrder 46 = .ok (.getfield 28, 3) := by decide +kernel
theorem dX1_closeInOrder_49 : decode cX1_closeInOrder 49 = .ok (.iload_n 3, 1) := by decide +kernel
theorem dX1_closeInOrder_50 : decode cX1_closeInOrder 50 = .ok (.iload 4, 2) := by decide +kernel
theorem dX1_closeInOrder_52 : decode cX1_closeInOrder 52 = .ok (.iconst (-1), 1) := by decide +kernel
theorem dX1_closeInOrder_53 : decode cX1_closeInOrder 53 = .ok (.aload_n 0, 1) := by decide +kernel
theorem dX1_closeInOrder_54 : decode cX1_closeInOrder 54 = .ok (.iload_n 3, 1) := by decide +kernel
theorem dX1_closeInOrder_55 : decode cX1_closeInOrder 55 = .ok (.iload 4, 2) := by decide +kernel
theorem dX1_closeInOrder_57 : decode cX1_closeInOrder 57 = .ok (.invokevirtual 102, 3) := by decide +kernel
theorem dX1_closeInOrder_60 : decode cX1_closeInOrder 60 = .ok (.invokevirtual 84, 3) := by decide +kernel
theorem dX1_closeInOrder_63 : decode cX1_closeInOrder 63 = .ok (.aload_n 0, 1) := by decide +kernel
theorem dX1_closeInOrder_64 : decode cX1_closeInOrder 64 = .ok (.getfield 21, 3) := by decide +kernel
theorem dX1_closeInOrder_67 : decode cX1_closeInOrder 67 = .ok (.iload_n 3, 1) := by decide +kernel
theorem dX1_closeInOrder_68 : decode cX1_closeInOrder 68 = .ok (.iload 4, 2) := by decide +kernel
theorem dX1_closeInOrder_70 : decode cX1_closeInOrder 70 = .ok (.invokevirtual 88, 3) := by decide +kernel
theorem dX1_closeInOrder_73 : decode cX1_closeInOrder 73 = .ok (.aload_n 0, 1) := by decide +kernel
theorem dX1_closeInOrder_74 : decode cX1_closeInOrder 74 = .ok (.getfield 12, 3) := by decide +kernel
theorem dX1_closeInOrder_77 : decode cX1_closeInOrder 77 = .ok (.aload_n 0, 1) := by decide +kernel
theorem dX1_closeInOrder_78 : decode cX1_closeInOrder 78 = .ok (.getfield 21, 3) := by decide +kernel
theorem dX1_closeInOrder_81 : decode cX1_closeInOrder 81 = .ok (.invokevirtual 92, 3) := by decide +kernel
theorem dX1_closeInOrder_84 : decode cX1_closeInOrder 84 = .ok (.istore_n 1, 1) := by decide +kernel
theorem dX1_closeInOrder_85 : decode cX1_closeInOrder 85 = .ok (.iinc 2 1, 3) := by decide +kernel
theorem dX1_closeInOrder_88 : decode cX1_closeInOrder 88 = .ok (.goto (-74), 3) := by decide +kernel
theorem dX1_closeInOrder_91 : decode cX1_closeInOrder 91 = .ok (.return_, 1) := by decide +kernel
theorem dX1_partReasons_0 : decode cX1_partReasons 0 = .ok (.iconst 0, 1) := by decide +kernel
theorem dX1_partReasons_1 : decode cX1_partReasons 1 = .ok (.istore_n 3, 1) := by decide +kernel
theorem dX1_partReasons_2 : decode cX1_partReasons 2 = .ok (.iconst 0, 1) := by decide +kernel
theorem dX1_partReasons_3 : decode cX1_partReasons 3 = .ok (.istore 4, 2) := by decide +kernel
theorem dX1_partReasons_5 : decode cX1_partReasons 5 = .ok (.iload 4, 2) := by decide +kernel
theorem dX1_partReasons_7 : decode cX1_partReasons 7 = .ok (.aload_n 0, 1) := by decide +kernel
theorem dX1_partReasons_8 : decode cX1_partReasons 8 = .ok (.getfield 12, 3) := by decide +kernel
theorem dX1_partReasons_11 : decode cX1_partReasons 11 = .ok (.iload_n 1, 1) := by decide +kernel
theorem dX1_partReasons_12 : decode cX1_partReasons 12 = .ok (.invokevirtual 106, 3) := by decide +kernel
theorem dX1_partReasons_15 : decode cX1_partReasons 15 = .ok (.if_icmp .ge 39, 3) := by decide +kernel
theorem dX1_partReasons_18 : decode cX1_partReasons 18 = .ok (.iload_n 3, 1) := by decide +kernel
theorem dX1_partReasons_19 : decode cX1_partReasons 19 = .ok (.aload_n 0, 1) := by decide +kernel
theorem dX1_partReasons_20 : decode cX1_partReasons 20 = .ok (.getfield 28, 3) := by decide +kernel
theorem dX1_partReasons_23 : decode cX1_partReasons 23 = .ok (.aload_n 0, 1) := by decide +kernel
theorem dX1_partReasons_24 : decode cX1_partReasons 24 = .ok (.getfield 12, 3) := by decide +kernel
theorem dX1_partReasons_27 : decode cX1_partReasons 27 = .ok (.iload_n 1, 1) := by decide +kernel
theorem dX1_partReasons_28 : decode cX1_partReasons 28 = .ok (.iload 4, 2) := by decide +kernel
theorem dX1_partReasons_30 : decode cX1_partReasons 30 = .ok (.invokevirtual 110, 3) := by decide +kernel
theorem dX1_partReasons_33 : decode cX1_partReasons 33 = .ok (.aload_n 0, 1) := by decide +kernel
theorem dX1_partReasons_34 : decode cX1_partReasons 34 = .ok (.getfield 12, 3) := by decide +kernel
theorem dX1_partReasons_37 : decode cX1_partReasons 37 = .ok (.iload_n 2, 1) := by decide +kernel
theorem dX1_partReasons_38 : decode cX1_partReasons 38 = .ok (.iload 4, 2) := by decide +kernel
theorem dX1_partReasons_40 : decode cX1_partReasons 40 = .ok (.invokevirtual 110, 3) := by decide +kernel
theorem dX1_partReasons_43 : decode cX1_partReasons 43 = .ok (.invokevirtual 113, 3) := by decide +kernel
theorem dX1_partReasons_46 : decode cX1_partReasons 46 = .ok (.ior, 1) := by decide +kernel
theorem dX1_partReasons_47 : decode cX1_partReasons 47 = .ok (.istore_n 3, 1) := by decide +kernel
theorem dX1_partReasons_48 : decode cX1_partReasons 48 = .ok (.iinc 4 1, 3) := by decide +kernel
theorem dX1_partReasons_51 : decode cX1_partReasons 51 = .ok (.goto (-46), 3) := by decide +kernel
theorem dX1_partReasons_54 : decode cX1_partReasons 54 = .ok (.iload_n 3, 1) := by decide +kernel
theorem dX1_partReasons_55 : decode cX1_partReasons 55 = .ok (.ireturn, 1) := by decide +kernel
theorem dX1_noteAct_0 : decode cX1_noteAct 0 = .ok (.aload_n 0, 1) := by decide +kernel
theorem dX1_noteAct_1 : decode cX1_noteAct 1 = .ok (.getfield 66, 3) := by decide +kernel
theorem dX1_noteAct_4 : decode cX1_noteAct 4 = .ok (.bipush 44, 2) := by decide +kernel
theorem dX1_noteAct_6 : decode cX1_noteAct 6 = .ok (.if_icmp .ge 39, 3) := by decide +kernel
theorem dX1_noteAct_9 : decode cX1_noteAct 9 = .ok (.aload_n 0, 1) := by decide +kernel
theorem dX1_noteAct_10 : decode cX1_noteAct 10 = .ok (.getfield 45, 3) := by decide +kernel
theorem dX1_noteAct_13 : decode cX1_noteAct 13 = .ok (.aload_n 0, 1) := by decide +kernel
theorem dX1_noteAct_14 : decode cX1_noteAct 14 = .ok (.getfield 66, 3) := by decide +kernel
theorem dX1_noteAct_17 : decode cX1_noteAct 17 = .ok (.iload_n 1, 1) := by decide +kernel
theorem dX1_noteAct_18 : decode cX1_noteAct 18 = .ok (.iastore, 1) := by decide +kernel
theorem dX1_noteAct_19 : decode cX1_noteAct 19 = .ok (.aload_n 0, 1) := by decide +kernel
theorem dX1_noteAct_20 : decode cX1_noteAct 20 = .ok (.getfield 48, 3) := by decide +kernel
theorem dX1_noteAct_23 : decode cX1_noteAct 23 = .ok (.aload_n 0, 1) := by decide +kernel
theorem dX1_noteAct_24 : decode cX1_noteAct 24 = .ok (.getfield 66, 3) := by decide +kernel
theorem dX1_noteAct_27 : decode cX1_noteAct 27 = .ok (.aload_n 0, 1) := by decide +kernel
theorem dX1_noteAct_28 : decode cX1_noteAct 28 = .ok (.getfield 28, 3) := by decide +kernel
theorem dX1_noteAct_31 : decode cX1_noteAct 31 = .ok (.getfield 116, 3) := by decide +kernel
theorem dX1_noteAct_34 : decode cX1_noteAct 34 = .ok (.iastore, 1) := by decide +kernel
theorem dX1_noteAct_35 : decode cX1_noteAct 35 = .ok (.aload_n 0, 1) := by decide +kernel
theorem dX1_noteAct_36 : decode cX1_noteAct 36 = .ok (.dup, 1) := by decide +kernel
theorem dX1_noteAct_37 : decode cX1_noteAct 37 = .ok (.getfield 66, 3) := by decide +kernel
theorem dX1_noteAct_40 : decode cX1_noteAct 40 = .ok (.iconst 1, 1) := by decide +kernel
theorem dX1_noteAct_41 : decode cX1_noteAct 41 = .ok (.iadd, 1) := by decide +kernel
theorem dX1_noteAct_42 : decode cX1_noteAct 42 = .ok (.putfield 66, 3) := by decide +kernel
theorem dX1_noteAct_45 : decode cX1_noteAct 45 = .ok (.return_, 1) := by decide +kernel
theorem dX1_undoLatest_0 : decode cX1_undoLatest 0 = .ok (.aload_n 0, 1) := by decide +kernel
theorem dX1_undoLatest_1 : decode cX1_undoLatest 1 = .ok (.getfield 66, 3) := by decide +kernel
theorem dX1_undoLatest_4 : decode cX1_undoLatest 4 = .ok (.ifCond .ne 4, 3) := by decide +kernel
theorem dX1_undoLatest_7 : decode cX1_undoLatest 7 = .ok (.return_, 1) := by decide +kernel
theorem dX1_undoLatest_8 : decode cX1_undoLatest 8 = .ok (.aload_n 0, 1) := by decide +kernel
theorem dX1_undoLatest_9 : decode cX1_undoLatest 9 = .ok (.dup, 1) := by decide +kernel
theorem dX1_undoLatest_10 : decode cX1_undoLatest 10 = .ok (.getfield 66, 3) := by decide +kernel
theorem dX1_undoLatest_13 : decode cX1_undoLatest 13 = .ok (.iconst 1, 1) := by decide +kernel
theorem dX1_undoLatest_14 : decode cX1_undoLatest 14 = .ok (.isub, 1) := by decide +kernel
theorem dX1_undoLatest_15 : decode cX1_undoLatest 15 = .ok (.putfield 66, 3) := by decide +kernel
theorem dX1_undoLatest_18 : decode cX1_undoLatest 18 = .ok (.aload_n 0, 1) := by decide +kernel
theorem dX1_undoLatest_19 : decode cX1_undoLatest 19 = .ok (.getfield 45, 3) := by decide +kernel
theorem dX1_undoLatest_22 : decode cX1_undoLatest 22 = .ok (.aload_n 0, 1) := by decide +kernel
theorem dX1_undoLatest_23 : decode cX1_undoLatest 23 = .ok (.getfield 66, 3) := by decide +kernel
theorem dX1_undoLatest_26 : decode cX1_undoLatest 26 = .ok (.iaload, 1) := by decide +kernel
theorem dX1_undoLatest_27 : decode cX1_undoLatest 27 = .ok (.ifCond .ne 16, 3) := by decide +kernel
theorem dX1_undoLatest_30 : decode cX1_undoLatest 30 = .ok (.aload_n 0, 1) := by decide +kernel
theorem dX1_undoLatest_31 : decode cX1_undoLatest 31 = .ok (.dup, 1) := by decide +kernel
theorem dX1_undoLatest_32 : decode cX1_undoLatest 32 = .ok (.getfield 59, 3) := by decide +kernel
theorem dX1_undoLatest_35 : decode cX1_undoLatest 35 = .ok (.iconst 1, 1) := by decide +kernel
theorem dX1_undoLatest_36 : decode cX1_undoLatest 36 = .ok (.isub, 1) := by decide +kernel
theorem dX1_undoLatest_37 : decode cX1_undoLatest 37 = .ok (.putfield 59, 3) := by decide +kernel
theorem dX1_undoLatest_40 : decode cX1_undoLatest 40 = .ok (.goto 36, 3) := by decide +kernel
theorem dX1_undoLatest_43 : decode cX1_undoLatest 43 = .ok (.aload_n 0, 1) := by decide +kernel
theorem dX1_undoLatest_44 : decode cX1_undoLatest 44 = .ok (.getfield 45, 3) := by decide +kernel
theorem dX1_undoLatest_47 : decode cX1_undoLatest 47 = .ok (.aload_n 0, 1) := by decide +kernel
theorem dX1_undoLatest_48 : decode cX1_undoLatest 48 = .ok (.getfield 66, 3) := by decide +kernel
theorem dX1_undoLatest_51 : decode cX1_undoLatest 51 = .ok (.iaload, 1) := by decide +kernel
theorem dX1_undoLatest_52 : decode cX1_undoLatest 52 = .ok (.iconst 1, 1) := by decide +kernel
theorem dX1_undoLatest_53 : decode cX1_undoLatest 53 = .ok (.if_icmp .ne 16, 3) := by decide +kernel
theorem dX1_undoLatest_56 : decode cX1_undoLatest 56 = .ok (.aload_n 0, 1) := by decide +kernel
theorem dX1_undoLatest_57 : decode cX1_undoLatest 57 = .ok (.dup, 1) := by decide +kernel
theorem dX1_undoLatest_58 : decode cX1_undoLatest 58 = .ok (.getfield 63, 3) := by decide +kernel
theorem dX1_undoLatest_61 : decode cX1_undoLatest 61 = .ok (.iconst 1, 1) := by decide +kernel
theorem dX1_undoLatest_62 : decode cX1_undoLatest 62 = .ok (.isub, 1) := by decide +kernel
theorem dX1_undoLatest_63 : decode cX1_undoLatest 63 = .ok (.putfield 63, 3) := by decide +kernel
theorem dX1_undoLatest_66 : decode cX1_undoLatest 66 = .ok (.goto 10, 3) := by decide +kernel
theorem dX1_undoLatest_69 : decode cX1_undoLatest 69 = .ok (.aload_n 0, 1) := by decide +kernel
theorem dX1_undoLatest_70 : decode cX1_undoLatest 70 = .ok (.getfield 12, 3) := by decide +kernel
theorem dX1_undoLatest_73 : decode cX1_undoLatest 73 = .ok (.invokevirtual 119, 3) := by decide +kernel
theorem dX1_undoLatest_76 : decode cX1_undoLatest 76 = .ok (.aload_n 0, 1) := by decide +kernel
theorem dX1_undoLatest_77 : decode cX1_undoLatest 77 = .ok (.getfield 28, 3) := by decide +kernel
theorem dX1_undoLatest_80 : decode cX1_undoLatest 80 = .ok (.aload_n 0, 1) := by decide +kernel
theorem dX1_undoLatest_81 : decode cX1_undoLatest 81 = .ok (.getfield 12, 3) := by decide +kernel
theorem dX1_undoLatest_84 : decode cX1_undoLatest 84 = .ok (.getfield 122, 3) := by decide +kernel
theorem dX1_undoLatest_87 : decode cX1_undoLatest 87 = .ok (.aload_n 0, 1) := by decide +kernel
theorem dX1_undoLatest_88 : decode cX1_undoLatest 88 = .ok (.getfield 48, 3) := by decide +kernel
theorem dX1_undoLatest_91 : decode cX1_undoLatest 91 = .ok (.aload_n 0, 1) := by decide +kernel
theorem dX1_undoLatest_92 : decode cX1_undoLatest 92 = .ok (.getfield 66, 3) := by decide +kernel
theorem dX1_undoLatest_95 : decode cX1_undoLatest 95 = .ok (.iaload, 1) := by decide +kernel
theorem dX1_undoLatest_96 : decode cX1_undoLatest 96 = .ok (.invokevirtual 125, 3) := by decide +kernel
theorem dX1_undoLatest_99 : decode cX1_undoLatest 99 = .ok (.aload_n 0, 1) := by decide +kernel
theorem dX1_undoLatest_100 : decode cX1_undoLatest 100 = .ok (.getfield 21, 3) := by decide +kernel
theorem dX1_undoLatest_103 : decode cX1_undoLatest 103 = .ok (.aload_n 0, 1) := by decide +kernel
theorem dX1_undoLatest_104 : decode cX1_undoLatest 104 = .ok (.getfield 12, 3) := by decide +kernel
theorem dX1_undoLatest_107 : decode cX1_undoLatest 107 = .ok (.getfield 122, 3) := by decide +kernel
theorem dX1_undoLatest_110 : decode cX1_undoLatest 110 = .ok (.invokevirtual 54, 3) := by decide +kernel
theorem dX1_undoLatest_113 : decode cX1_undoLatest 113 = .ok (.iconst 0, 1) := by decide +kernel
theorem dX1_undoLatest_114 : decode cX1_undoLatest 114 = .ok (.istore_n 1, 1) := by decide +kernel
theorem dX1_undoLatest_115 : decode cX1_undoLatest 115 = .ok (.iload_n 1, 1) := by decide +kernel
theorem dX1_undoLatest_116 : decode cX1_undoLatest 116 = .ok (.aload_n 0, 1) := by decide +kernel
theorem dX1_undoLatest_117 : decode cX1_undoLatest 117 = .ok (.getfield 28, 3) := by decide +kernel
theorem dX1_undoLatest_120 : decode cX1_undoLatest 120 = .ok (.getfield 116, 3) := by decide +kernel
theorem dX1_undoLatest_123 : decode cX1_undoLatest 123 = .ok (.if_icmp .ge 34, 3) := by decide +kernel
theorem dX1_undoLatest_126 : decode cX1_undoLatest 126 = .ok (.aload_n 0, 1) := by decide +kernel
theorem dX1_undoLatest_127 : decode cX1_undoLatest 127 = .ok (.getfield 21, 3) := by decide +kernel
theorem dX1_undoLatest_130 : decode cX1_undoLatest 130 = .ok (.aload_n 0, 1) := by decide +kernel
theorem dX1_undoLatest_131 : decode cX1_undoLatest 131 = .ok (.getfield 28, 3) := by decide +kernel
theorem dX1_undoLatest_134 : decode cX1_undoLatest 134 = .ok (.getfield 128, 3) := by decide +kernel
theorem dX1_undoLatest_137 : decode cX1_undoLatest 137 = .ok (.iload_n 1, 1) := by decide +kernel
theorem dX1_undoLatest_138 : decode cX1_undoLatest 138 = .ok (.iaload, 1) := by decide +kernel
theorem dX1_undoLatest_139 : decode cX1_undoLatest 139 = .ok (.aload_n 0, 1) := by decide +kernel
theorem dX1_undoLatest_140 : decode cX1_undoLatest 140 = .ok (.getfield 28, 3) := by decide +kernel
theorem dX1_undoLatest_143 : decode cX1_undoLatest 143 = .ok (.getfield 131, 3) := by decide +kernel
theorem dX1_undoLatest_146 : decode cX1_undoLatest 146 = .ok (.iload_n 1, 1) := by decide +kernel
theorem dX1_undoLatest_147 : decode cX1_undoLatest 147 = .ok (.iaload, 1) := by decide +kernel
theorem dX1_undoLatest_148 : decode cX1_undoLatest 148 = .ok (.invokevirtual 88, 3) := by decide +kernel
theorem dX1_undoLatest_151 : decode cX1_undoLatest 151 = .ok (.iinc 1 1, 3) := by decide +kernel
theorem dX1_undoLatest_154 : decode cX1_undoLatest 154 = .ok (.goto (-39), 3) := by decide +kernel
theorem dX1_undoLatest_157 : decode cX1_undoLatest 157 = .ok (.return_, 1) := by decide +kernel
theorem dX1_allSames_0 : decode cX1_allSames 0 = .ok (.iconst 1, 1) := by decide +kernel
theorem dX1_allSames_1 : decode cX1_allSames 1 = .ok (.aload_n 0, 1) := by decide +kernel
theorem dX1_allSames_2 : decode cX1_allSames 2 = .ok (.getfield 59, 3) := by decide +kernel
theorem dX1_allSames_5 : decode cX1_allSames 5 = .ok (.ishl, 1) := by decide +kernel
theorem dX1_allSames_6 : decode cX1_allSames 6 = .ok (.iconst 1, 1) := by decide +kernel
theorem dX1_allSames_7 : decode cX1_allSames 7 = .ok (.isub, 1) := by decide +kernel
theorem dX1_allSames_8 : decode cX1_allSames 8 = .ok (.ireturn, 1) := by decide +kernel
theorem dX1_closeBy_0 : decode cX1_closeBy 0 = .ok (.aload_n 2, 1) := by decide +kernel
theorem dX1_closeBy_1 : decode cX1_closeBy 1 = .ok (.aload_n 0, 1) := by decide +kernel
theorem dX1_closeBy_2 : decode cX1_closeBy 2 = .ok (.getfield 12, 3) := by decide +kernel
theorem dX1_closeBy_5 : decode cX1_closeBy 5 = .ok (.getfield 122, 3) := by decide +kernel
theorem dX1_closeBy_8 : decode cX1_closeBy 8 = .ok (.invokevirtual 54, 3) := by decide +kernel
theorem dX1_closeBy_11 : decode cX1_closeBy 11 = .ok (.iconst 0, 1) := by decide +kernel
theorem dX1_closeBy_12 : decode cX1_closeBy 12 = .ok (.istore_n 3, 1) := by decide +kernel
theorem dX1_closeBy_13 : decode cX1_closeBy 13 = .ok (.iload_n 3, 1) := by decide +kernel
theorem dX1_closeBy_14 : decode cX1_closeBy 14 = .ok (.aload_n 0, 1) := by decide +kernel
theorem dX1_closeBy_15 : decode cX1_closeBy 15 = .ok (.getfield 59, 3) := by decide +kernel
theorem dX1_closeBy_18 : decode cX1_closeBy 18 = .ok (.if_icmp .ge 33, 3) := by decide +kernel
theorem dX1_closeBy_21 : decode cX1_closeBy 21 = .ok (.iload_n 1, 1) := by decide +kernel
theorem dX1_closeBy_22 : decode cX1_closeBy 22 = .ok (.iload_n 3, 1) := by decide +kernel
theorem dX1_closeBy_23 : decode cX1_closeBy 23 = .ok (.iushr, 1) := by decide +kernel
theorem dX1_closeBy_24 : decode cX1_closeBy 24 = .ok (.iconst 1, 1) := by decide +kernel
theorem dX1_closeBy_25 : decode cX1_closeBy 25 = .ok (.iand, 1) := by decide +kernel
theorem dX1_closeBy_26 : decode cX1_closeBy 26 = .ok (.ifCond .eq 19, 3) := by decide +kernel
theorem dX1_closeBy_29 : decode cX1_closeBy 29 = .ok (.aload_n 2, 1) := by decide +kernel
theorem dX1_closeBy_30 : decode cX1_closeBy 30 = .ok (.aload_n 0, 1) := by decide +kernel
theorem dX1_closeBy_31 : decode cX1_closeBy 31 = .ok (.getfield 32, 3) := by decide +kernel
theorem dX1_closeBy_34 : decode cX1_closeBy 34 = .ok (.iload_n 3, 1) := by decide +kernel
theorem dX1_closeBy_35 : decode cX1_closeBy 35 = .ok (.iaload, 1) := by decide +kernel
theorem dX1_closeBy_36 : decode cX1_closeBy 36 = .ok (.aload_n 0, 1) := by decide +kernel
theorem dX1_closeBy_37 : decode cX1_closeBy 37 = .ok (.getfield 36, 3) := by decide +kernel
theorem dX1_closeBy_40 : decode cX1_closeBy 40 = .ok (.iload_n 3, 1) := by decide +kernel
theorem dX1_closeBy_41 : decode cX1_closeBy 41 = .ok (.iaload, 1) := by decide +kernel
theorem dX1_closeBy_42 : decode cX1_closeBy 42 = .ok (.invokevirtual 88, 3) := by decide +kernel
theorem dX1_closeBy_45 : decode cX1_closeBy 45 = .ok (.iinc 3 1, 3) := by decide +kernel
theorem dX1_closeBy_48 : decode cX1_closeBy 48 = .ok (.goto (-35), 3) := by decide +kernel
theorem dX1_closeBy_51 : decode cX1_closeBy 51 = .ok (.aload_n 0, 1) := by decide +kernel
theorem dX1_closeBy_52 : decode cX1_closeBy 52 = .ok (.getfield 12, 3) := by decide +kernel
theorem dX1_closeBy_55 : decode cX1_closeBy 55 = .ok (.aload_n 2, 1) := by decide +kernel
theorem dX1_closeBy_56 : decode cX1_closeBy 56 = .ok (.invokevirtual 134, 3) := by decide +kernel
theorem dX1_closeBy_59 : decode cX1_closeBy 59 = .ok (.return_, 1) := by decide +kernel
theorem dX1_supposeSame_0 : decode cX1_supposeSame 0 = .ok (.aload_n 3, 1) := by decide +kernel
theorem dX1_supposeSame_1 : decode cX1_supposeSame 1 = .ok (.iload_n 1, 1) := by decide +kernel
theorem dX1_supposeSame_2 : decode cX1_supposeSame 2 = .ok (.iload_n 2, 1) := by decide +kernel
theorem dX1_supposeSame_3 : decode cX1_supposeSame 3 = .ok (.invokevirtual 80, 3) := by decide +kernel
theorem dX1_supposeSame_6 : decode cX1_supposeSame 6 = .ok (.ifCond .ne 17, 3) := by decide +kernel
theorem dX1_supposeSame_9 : decode cX1_supposeSame 9 = .ok (.aload_n 3, 1) := by decide +kernel
theorem dX1_supposeSame_10 : decode cX1_supposeSame 10 = .ok (.iload_n 1, 1) := by decide +kernel
theorem dX1_supposeSame_11 : decode cX1_supposeSame 11 = .ok (.iload_n 2, 1) := by decide +kernel
theorem dX1_supposeSame_12 : decode cX1_supposeSame 12 = .ok (.invokevirtual 88, 3) := by decide +kernel
theorem dX1_supposeSame_15 : decode cX1_supposeSame 15 = .ok (.aload_n 0, 1) := by decide +kernel
theorem dX1_supposeSame_16 : decode cX1_supposeSame 16 = .ok (.getfield 12, 3) := by decide +kernel
theorem dX1_supposeSame_19 : decode cX1_supposeSame 19 = .ok (.aload_n 3, 1) := by decide +kernel
theorem dX1_supposeSame_20 : decode cX1_supposeSame 20 = .ok (.invokevirtual 134, 3) := by decide +kernel
theorem dX1_supposeSame_23 : decode cX1_supposeSame 23 = .ok (.return_, 1) := by decide +kernel
theorem dX1_clashes_0 : decode cX1_clashes 0 = .ok (.aload_n 2, 1) := by decide +kernel
theorem dX1_clashes_1 : decode cX1_clashes 1 = .ok (.aload_n 0, 1) := by decide +kernel
theorem dX1_clashes_2 : decode cX1_clashes 2 = .ok (.getfield 39, 3) := by decide +kernel
theorem dX1_clashes_5 : decode cX1_clashes 5 = .ok (.iload_n 1, 1) := by decide +kernel
theorem dX1_clashes_6 : decode cX1_clashes 6 = .ok (.iaload, 1) := by decide +kernel
theorem dX1_clashes_7 : decode cX1_clashes 7 = .ok (.aload_n 0, 1) := by decide +kernel
theorem dX1_clashes_8 : decode cX1_clashes 8 = .ok (.getfield 42, 3) := by decide +kernel
theorem dX1_clashes_11 : decode cX1_clashes 11 = .ok (.iload_n 1, 1) := by decide +kernel
theorem dX1_clashes_12 : decode cX1_clashes 12 = .ok (.iaload, 1) := by decide +kernel
theorem dX1_clashes_13 : decode cX1_clashes 13 = .ok (.invokevirtual 80, 3) := by decide +kernel
theorem dX1_clashes_16 : decode cX1_clashes 16 = .ok (.ireturn, 1) := by decide +kernel
theorem dX1_firstClash_0 : decode cX1_firstClash 0 = .ok (.iconst 0, 1) := by decide +kernel
theorem dX1_firstClash_1 : decode cX1_firstClash 1 = .ok (.istore_n 2, 1) := by decide +kernel
theorem dX1_firstClash_2 : decode cX1_firstClash 2 = .ok (.iload_n 2, 1) := by decide +kernel
theorem dX1_firstClash_3 : decode cX1_firstClash 3 = .ok (.aload_n 0, 1) := by decide +kernel
theorem dX1_firstClash_4 : decode cX1_firstClash 4 = .ok (.getfield 63, 3) := by decide +kernel
theorem dX1_firstClash_7 : decode cX1_firstClash 7 = .ok (.if_icmp .ge 20, 3) := by decide +kernel
theorem dX1_firstClash_10 : decode cX1_firstClash 10 = .ok (.aload_n 0, 1) := by decide +kernel
theorem dX1_firstClash_11 : decode cX1_firstClash 11 = .ok (.iload_n 2, 1) := by decide +kernel
theorem dX1_firstClash_12 : decode cX1_firstClash 12 = .ok (.aload_n 1, 1) := by decide +kernel
theorem dX1_firstClash_13 : decode cX1_firstClash 13 = .ok (.invokevirtual 138, 3) := by decide +kernel
theorem dX1_firstClash_16 : decode cX1_firstClash 16 = .ok (.ifCond .eq 5, 3) := by decide +kernel
theorem dX1_firstClash_19 : decode cX1_firstClash 19 = .ok (.iload_n 2, 1) := by decide +kernel
theorem dX1_firstClash_20 : decode cX1_firstClash 20 = .ok (.ireturn, 1) := by decide +kernel
theorem dX1_firstClash_21 : decode cX1_firstClash 21 = .ok (.iinc 2 1, 3) := by decide +kernel
theorem dX1_firstClash_24 : decode cX1_firstClash 24 = .ok (.goto (-22), 3) := by decide +kernel
theorem dX1_firstClash_27 : decode cX1_firstClash 27 = .ok (.bipush (-2), 2) := by decide +kernel
theorem dX1_firstClash_29 : decode cX1_firstClash 29 = .ok (.ireturn, 1) := by decide +kernel
theorem dX2_init_0 : decode cX2_init 0 = .ok (.aload_n 0, 1) := by decide +kernel
theorem dX2_init_1 : decode cX2_init 1 = .ok (.invokespecial 3, 3) := by decide +kernel
theorem dX2_init_4 : decode cX2_init 4 = .ok (.aload_n 0, 1) := by decide +kernel
theorem dX2_init_5 : decode cX2_init 5 = .ok (.bipush 24, 2) := by decide +kernel
theorem dX2_init_7 : decode cX2_init 7 = .ok (.newarray .int, 2) := by decide +kernel
theorem dX2_init_9 : decode cX2_init 9 = .ok (.putfield 9, 3) := by decide +kernel
theorem dX2_init_12 : decode cX2_init 12 = .ok (.aload_n 0, 1) := by decide +kernel
theorem dX2_init_13 : decode cX2_init 13 = .ok (.bipush 24, 2) := by decide +kernel
theorem dX2_init_15 : decode cX2_init 15 = .ok (.newarray .int, 2) := by decide +kernel
theorem dX2_init_17 : decode cX2_init 17 = .ok (.putfield 15, 3) := by decide +kernel
theorem dX2_init_20 : decode cX2_init 20 = .ok (.aload_n 0, 1) := by decide +kernel
theorem dX2_init_21 : decode cX2_init 21 = .ok (.bipush 24, 2) := by decide +kernel
theorem dX2_init_23 : decode cX2_init 23 = .ok (.newarray .int, 2) := by decide +kernel
theorem dX2_init_25 : decode cX2_init 25 = .ok (.putfield 18, 3) := by decide +kernel
theorem dX2_init_28 : decode cX2_init 28 = .ok (.aload_n 0, 1) := by decide +kernel
theorem dX2_init_29 : decode cX2_init 29 = .ok (.bipush 24, 2) := by decide +kernel
theorem dX2_init_31 : decode cX2_init 31 = .ok (.newarray .int, 2) := by decide +kernel
theorem dX2_init_33 : decode cX2_init 33 = .ok (.putfield 21, 3) := by decide +kernel
theorem dX2_init_36 : decode cX2_init 36 = .ok (.aload_n 0, 1) := by decide +kernel
theorem dX2_init_37 : decode cX2_init 37 = .ok (.bipush 24, 2) := by decide +kernel
theorem dX2_init_39 : decode cX2_init 39 = .ok (.newarray .int, 2) := by decide +kernel
theorem dX2_init_41 : decode cX2_init 41 = .ok (.putfield 24, 3) := by decide +kernel
theorem dX2_init_44 : decode cX2_init 44 = .ok (.aload_n 0, 1) := by decide +kernel
theorem dX2_init_45 : decode cX2_init 45 = .ok (.bipush 24, 2) := by decide +kernel
theorem dX2_init_47 : decode cX2_init 47 = .ok (.newarray .int, 2) := by decide +kernel
theorem dX2_init_49 : decode cX2_init 49 = .ok (.putfield 27, 3) := by decide +kernel
theorem dX2_init_52 : decode cX2_init 52 = .ok (.return_, 1) := by decide +kernel
theorem dX2_clear_0 : decode cX2_clear 0 = .ok (.aload_n 0, 1) := by decide +kernel
theorem dX2_clear_1 : decode cX2_clear 1 = .ok (.iconst 0, 1) := by decide +kernel
theorem dX2_clear_2 : decode cX2_clear 2 = .ok (.putfield 30, 3) := by decide +kernel
theorem dX2_clear_5 : decode cX2_clear 5 = .ok (.aload_n 0, 1) := by decide +kernel
theorem dX2_clear_6 : decode cX2_clear 6 = .ok (.iconst 0, 1) := by decide +kernel
theorem dX2_clear_7 : decode cX2_clear 7 = .ok (.putfield 34, 3) := by decide +kernel
theorem dX2_clear_10 : decode cX2_clear 10 = .ok (.return_, 1) := by decide +kernel
theorem dX2_addLone_0 : decode cX2_addLone 0 = .ok (.aload_n 0, 1) := by decide +kernel
theorem dX2_addLone_1 : decode cX2_addLone 1 = .ok (.getfield 30, 3) := by decide +kernel
theorem dX2_addLone_4 : decode cX2_addLone 4 = .ok (.bipush 24, 2) := by decide +kernel
theorem dX2_addLone_6 : decode cX2_addLone 6 = .ok (.if_icmp .ge 33, 3) := by decide +kernel
theorem dX2_addLone_9 : decode cX2_addLone 9 = .ok (.aload_n 0, 1) := by decide +kernel
theorem dX2_addLone_10 : decode cX2_addLone 10 = .ok (.getfield 9, 3) := by decide +kernel
theorem dX2_addLone_13 : decode cX2_addLone 13 = .ok (.aload_n 0, 1) := by decide +kernel
theorem dX2_addLone_14 : decode cX2_addLone 14 = .ok (.getfield 30, 3) := by decide +kernel
theorem dX2_addLone_17 : decode cX2_addLone 17 = .ok (.iconst (-1), 1) := by decide +kernel
theorem dX2_addLone_18 : decode cX2_addLone 18 = .ok (.iastore, 1) := by decide +kernel
theorem dX2_addLone_19 : decode cX2_addLone 19 = .ok (.aload_n 0, 1) := by decide +kernel
theorem dX2_addLone_20 : decode cX2_addLone 20 = .ok (.getfield 15, 3) := by decide +kernel
theorem dX2_addLone_23 : decode cX2_addLone 23 = .ok (.aload_n 0, 1) := by decide +kernel
theorem dX2_addLone_24 : decode cX2_addLone 24 = .ok (.getfield 30, 3) := by decide +kernel
theorem dX2_addLone_27 : decode cX2_addLone 27 = .ok (.iconst (-1), 1) := by decide +kernel
theorem dX2_addLone_28 : decode cX2_addLone 28 = .ok (.iastore, 1) := by decide +kernel
theorem dX2_addLone_29 : decode cX2_addLone 29 = .ok (.aload_n 0, 1) := by decide +kernel
theorem dX2_addLone_30 : decode cX2_addLone 30 = .ok (.dup, 1) := by decide +kernel
theorem dX2_addLone_31 : decode cX2_addLone 31 = .ok (.getfield 30, 3) := by decide +kernel
theorem dX2_addLone_34 : decode cX2_addLone 34 = .ok (.iconst 1, 1) := by decide +kernel
theorem dX2_addLone_35 : decode cX2_addLone 35 = .ok (.iadd, 1) := by decide +kernel
theorem dX2_addLone_36 : decode cX2_addLone 36 = .ok (.putfield 30, 3) := by decide +kernel
theorem dX2_addLone_39 : decode cX2_addLone 39 = .ok (.return_, 1) := by decide +kernel
theorem dX2_addJoin_0 : decode cX2_addJoin 0 = .ok (.aload_n 0, 1) := by decide +kernel
theorem dX2_addJoin_1 : decode cX2_addJoin 1 = .ok (.getfield 34, 3) := by decide +kernel
theorem dX2_addJoin_4 : decode cX2_addJoin 4 = .ok (.bipush 24, 2) := by decide +kernel
theorem dX2_addJoin_6 : decode cX2_addJoin 6 = .ok (.if_icmp .lt 4, 3) := by decide +kernel
theorem dX2_addJoin_9 : decode cX2_addJoin 9 = .ok (.return_, 1) := by decide +kernel
theorem dX2_addJoin_10 : decode cX2_addJoin 10 = .ok (.aload_n 0, 1) := by decide +kernel
theorem dX2_addJoin_11 : decode cX2_addJoin 11 = .ok (.getfield 18, 3) := by decide +kernel
theorem dX2_addJoin_14 : decode cX2_addJoin 14 = .ok (.aload_n 0, 1) := by decide +kernel
theorem dX2_addJoin_15 : decode cX2_addJoin 15 = .ok (.getfield 34, 3) := by decide +kernel
theorem dX2_addJoin_18 : decode cX2_addJoin 18 = .ok (.iload_n 1, 1) := by decide +kernel
theorem dX2_addJoin_19 : decode cX2_addJoin 19 = .ok (.iastore, 1) := by decide +kernel
theorem dX2_addJoin_20 : decode cX2_addJoin 20 = .ok (.aload_n 0, 1) := by decide +kernel
theorem dX2_addJoin_21 : decode cX2_addJoin 21 = .ok (.getfield 21, 3) := by decide +kernel
theorem dX2_addJoin_24 : decode cX2_addJoin 24 = .ok (.aload_n 0, 1) := by decide +kernel
theorem dX2_addJoin_25 : decode cX2_addJoin 25 = .ok (.getfield 34, 3) := by decide +kernel
theorem dX2_addJoin_28 : decode cX2_addJoin 28 = .ok (.iload_n 2, 1) := by decide +kernel
theorem dX2_addJoin_29 : decode cX2_addJoin 29 = .ok (.iastore, 1) := by decide +kernel
theorem dX2_addJoin_30 : decode cX2_addJoin 30 = .ok (.aload_n 0, 1) := by decide +kernel
theorem dX2_addJoin_31 : decode cX2_addJoin 31 = .ok (.getfield 24, 3) := by decide +kernel
theorem dX2_addJoin_34 : decode cX2_addJoin 34 = .ok (.aload_n 0, 1) := by decide +kernel
theorem dX2_addJoin_35 : decode cX2_addJoin 35 = .ok (.getfield 34, 3) := by decide +kernel
theorem dX2_addJoin_38 : decode cX2_addJoin 38 = .ok (.iload_n 3, 1) := by decide +kernel
theorem dX2_addJoin_39 : decode cX2_addJoin 39 = .ok (.iastore, 1) := by decide +kernel
theorem dX2_addJoin_40 : decode cX2_addJoin 40 = .ok (.aload_n 0, 1) := by decide +kernel
theorem dX2_addJoin_41 : decode cX2_addJoin 41 = .ok (.getfield 27, 3) := by decide +kernel
theorem dX2_addJoin_44 : decode cX2_addJoin 44 = .ok (.aload_n 0, 1) := by decide +kernel
theorem dX2_addJoin_45 : decode cX2_addJoin 45 = .ok (.getfield 34, 3) := by decide +kernel
theorem dX2_addJoin_48 : decode cX2_addJoin 48 = .ok (.iload 4, 2) := by decide +kernel
theorem dX2_addJoin_50 : decode cX2_addJoin 50 = .ok (.iastore, 1) := by decide +kernel
theorem dX2_addJoin_51 : decode cX2_addJoin 51 = .ok (.aload_n 0, 1) := by decide +kernel
theorem dX2_addJoin_52 : decode cX2_addJoin 52 = .ok (.aload_n 0, 1) := by decide +kernel
theorem dX2_addJoin_53 : decode cX2_addJoin 53 = .ok (.getfield 34, 3) := by decide +kernel
theorem dX2_addJoin_56 : decode cX2_addJoin 56 = .ok (.invokevirtual 37, 3) := by decide +kernel
theorem dX2_addJoin_59 : decode cX2_addJoin 59 = .ok (.aload_n 0, 1) := by decide +kernel
theorem dX2_addJoin_60 : decode cX2_addJoin 60 = .ok (.dup, 1) := by decide +kernel
theorem dX2_addJoin_61 : decode cX2_addJoin 61 = .ok (.getfield 34, 3) := by decide +kernel
theorem dX2_addJoin_64 : decode cX2_addJoin 64 = .ok (.iconst 1, 1) := by decide +kernel
theorem dX2_addJoin_65 : decode cX2_addJoin 65 = .ok (.iadd, 1) := by decide +kernel
theorem dX2_addJoin_66 : decode cX2_addJoin 66 = .ok (.putfield 34, 3) := by decide +kernel
theorem dX2_addJoin_69 : decode cX2_addJoin 69 = .ok (.return_, 1) := by decide +kernel
theorem dX2_hang_0 : decode cX2_hang 0 = .ok (.aload_n 0, 1) := by decide +kernel
theorem dX2_hang_1 : decode cX2_hang 1 = .ok (.getfield 18, 3) := by decide +kernel
theorem dX2_hang_4 : decode cX2_hang 4 = .ok (.iload_n 1, 1) := by decide +kernel
theorem dX2_hang_5 : decode cX2_hang 5 = .ok (.iaload, 1) := by decide +kernel
theorem dX2_hang_6 : decode cX2_hang 6 = .ok (.istore_n 2, 1) := by decide +kernel
theorem dX2_hang_7 : decode cX2_hang 7 = .ok (.iload_n 1, 1) := by decide +kernel
theorem dX2_hang_8 : decode cX2_hang 8 = .ok (.istore_n 3, 1) := by decide +kernel
theorem dX2_hang_9 : decode cX2_hang 9 = .ok (.aload_n 0, 1) := by decide +kernel
theorem dX2_hang_10 : decode cX2_hang 10 = .ok (.getfield 21, 3) := by decide +kernel
theorem dX2_hang_13 : decode cX2_hang 13 = .ok (.iload_n 1, 1) := by decide +kernel
theorem dX2_hang_14 : decode cX2_hang 14 = .ok (.iaload, 1) := by decide +kernel
theorem dX2_hang_15 : decode cX2_hang 15 = .ok (.istore 4, 2) := by decide +kernel
theorem dX2_hang_17 : decode cX2_hang 17 = .ok (.iconst 0, 1) := by decide +kernel
theorem dX2_hang_18 : decode cX2_hang 18 = .ok (.istore 5, 2) := by decide +kernel
theorem dX2_hang_20 : decode cX2_hang 20 = .ok (.iload 5, 2) := by decide +kernel
theorem dX2_hang_22 : decode cX2_hang 22 = .ok (.bipush 24, 2) := by decide +kernel
theorem dX2_hang_24 : decode cX2_hang 24 = .ok (.if_icmp .ge 58, 3) := by decide +kernel
theorem dX2_hang_27 : decode cX2_hang 27 = .ok (.iload 4, 2) := by decide +kernel
theorem dX2_hang_29 : decode cX2_hang 29 = .ok (.ifCond .lt 53, 3) := by decide +kernel
theorem dX2_hang_32 : decode cX2_hang 32 = .ok (.aload_n 0, 1) := by decide +kernel
theorem dX2_hang_33 : decode cX2_hang 33 = .ok (.getfield 9, 3) := by decide +kernel
theorem dX2_hang_36 : decode cX2_hang 36 = .ok (.iload 4, 2) := by decide +kernel
theorem dX2_hang_38 : decode cX2_hang 38 = .ok (.iaload, 1) := by decide +kernel
theorem dX2_hang_39 : decode cX2_hang 39 = .ok (.istore 6, 2) := by decide +kernel
theorem dX2_hang_41 : decode cX2_hang 41 = .ok (.aload_n 0, 1) := by decide +kernel
theorem dX2_hang_42 : decode cX2_hang 42 = .ok (.getfield 15, 3) := by decide +kernel
theorem dX2_hang_45 : decode cX2_hang 45 = .ok (.iload 4, 2) := by decide +kernel
theorem dX2_hang_47 : decode cX2_hang 47 = .ok (.iaload, 1) := by decide +kernel
theorem dX2_hang_48 : decode cX2_hang 48 = .ok (.istore 7, 2) := by decide +kernel
theorem dX2_hang_50 : decode cX2_hang 50 = .ok (.aload_n 0, 1) := by decide +kernel
theorem dX2_hang_51 : decode cX2_hang 51 = .ok (.getfield 9, 3) := by decide +kernel
theorem dX2_hang_54 : decode cX2_hang 54 = .ok (.iload 4, 2) := by decide +kernel
theorem dX2_hang_56 : decode cX2_hang 56 = .ok (.iload_n 2, 1) := by decide +kernel
theorem dX2_hang_57 : decode cX2_hang 57 = .ok (.iastore, 1) := by decide +kernel
theorem dX2_hang_58 : decode cX2_hang 58 = .ok (.aload_n 0, 1) := by decide +kernel
theorem dX2_hang_59 : decode cX2_hang 59 = .ok (.getfield 15, 3) := by decide +kernel
theorem dX2_hang_62 : decode cX2_hang 62 = .ok (.iload 4, 2) := by decide +kernel
theorem dX2_hang_64 : decode cX2_hang 64 = .ok (.iload_n 3, 1) := by decide +kernel
theorem dX2_hang_65 : decode cX2_hang 65 = .ok (.iastore, 1) := by decide +kernel
theorem dX2_hang_66 : decode cX2_hang 66 = .ok (.iload 4, 2) := by decide +kernel
theorem dX2_hang_68 : decode cX2_hang 68 = .ok (.istore_n 2, 1) := by decide +kernel
theorem dX2_hang_69 : decode cX2_hang 69 = .ok (.iload 7, 2) := by decide +kernel
theorem dX2_hang_71 : decode cX2_hang 71 = .ok (.istore_n 3, 1) := by decide +kernel
theorem dX2_hang_72 : decode cX2_hang 72 = .ok (.iload 6, 2) := by decide +kernel
theorem dX2_hang_74 : decode cX2_hang 74 = .ok (.istore 4, 2) := by decide +kernel
theorem dX2_hang_76 : decode cX2_hang 76 = .ok (.iinc 5 1, 3) := by decide +kernel
theorem dX2_hang_79 : decode cX2_hang 79 = .ok (.goto (-59), 3) := by decide +kernel
theorem dX2_hang_82 : decode cX2_hang 82 = .ok (.return_, 1) := by decide +kernel
theorem dX2_cutBack_0 : decode cX2_cutBack 0 = .ok (.aload_n 0, 1) := by decide +kernel
theorem dX2_cutBack_1 : decode cX2_cutBack 1 = .ok (.iconst 0, 1) := by decide +kernel
theorem dX2_cutBack_2 : decode cX2_cutBack 2 = .ok (.putfield 30, 3) := by decide +kernel
theorem dX2_cutBack_5 : decode cX2_cutBack 5 = .ok (.iconst 0, 1) := by decide +kernel
theorem dX2_cutBack_6 : decode cX2_cutBack 6 = .ok (.istore_n 3, 1) := by decide +kernel
theorem dX2_cutBack_7 : decode cX2_cutBack 7 = .ok (.iload_n 3, 1) := by decide +kernel
theorem dX2_cutBack_8 : decode cX2_cutBack 8 = .ok (.iload_n 1, 1) := by decide +kernel
theorem dX2_cutBack_9 : decode cX2_cutBack 9 = .ok (.if_icmp .ge 13, 3) := by decide +kernel
theorem dX2_cutBack_12 : decode cX2_cutBack 12 = .ok (.aload_n 0, 1) := by decide +kernel
theorem dX2_cutBack_13 : decode cX2_cutBack 13 = .ok (.invokevirtual 41, 3) := by decide +kernel
theorem dX2_cutBack_16 : decode cX2_cutBack 16 = .ok (.iinc 3 1, 3) := by decide +kernel
theorem dX2_cutBack_19 : decode cX2_cutBack 19 = .ok (.goto (-12), 3) := by decide +kernel
theorem dX2_cutBack_22 : decode cX2_cutBack 22 = .ok (.aload_n 0, 1) := by decide +kernel
theorem dX2_cutBack_23 : decode cX2_cutBack 23 = .ok (.iload_n 2, 1) := by decide +kernel
theorem dX2_cutBack_24 : decode cX2_cutBack 24 = .ok (.putfield 34, 3) := by decide +kernel
theorem dX2_cutBack_27 : decode cX2_cutBack 27 = .ok (.iconst 0, 1) := by decide +kernel
theorem dX2_cutBack_28 : decode cX2_cutBack 28 = .ok (.istore_n 3, 1) := by decide +kernel
theorem dX2_cutBack_29 : decode cX2_cutBack 29 = .ok (.iload_n 3, 1) := by decide +kernel
theorem dX2_cutBack_30 : decode cX2_cutBack 30 = .ok (.aload_n 0, 1) := by decide +kernel
theorem dX2_cutBack_31 : decode cX2_cutBack 31 = .ok (.getfield 34, 3) := by decide +kernel
theorem dX2_cutBack_34 : decode cX2_cutBack 34 = .ok (.if_icmp .ge 14, 3) := by decide +kernel
theorem dX2_cutBack_37 : decode cX2_cutBack 37 = .ok (.aload_n 0, 1) := by decide +kernel
theorem dX2_cutBack_38 : decode cX2_cutBack 38 = .ok (.iload_n 3, 1) := by decide +kernel
theorem dX2_cutBack_39 : decode cX2_cutBack 39 = .ok (.invokevirtual 37, 3) := by decide +kernel
theorem dX2_cutBack_42 : decode cX2_cutBack 42 = .ok (.iinc 3 1, 3) := by decide +kernel
theorem dX2_cutBack_45 : decode cX2_cutBack 45 = .ok (.goto (-16), 3) := by decide +kernel
theorem dX2_cutBack_48 : decode cX2_cutBack 48 = .ok (.return_, 1) := by decide +kernel
theorem dX2_stepsUp_0 : decode cX2_stepsUp 0 = .ok (.iconst 0, 1) := by decide +kernel
theorem dX2_stepsUp_1 : decode cX2_stepsUp 1 = .ok (.istore_n 2, 1) := by decide +kernel
theorem dX2_stepsUp_2 : decode cX2_stepsUp 2 = .ok (.aload_n 0, 1) := by decide +kernel
theorem dX2_stepsUp_3 : decode cX2_stepsUp 3 = .ok (.getfield 9, 3) := by decide +kernel
theorem dX2_stepsUp_6 : decode cX2_stepsUp 6 = .ok (.iload_n 1, 1) := by decide +kernel
theorem dX2_stepsUp_7 : decode cX2_stepsUp 7 = .ok (.iaload, 1) := by decide +kernel
theorem dX2_stepsUp_8 : decode cX2_stepsUp 8 = .ok (.istore_n 3, 1) := by decide +kernel
theorem dX2_stepsUp_9 : decode cX2_stepsUp 9 = .ok (.iload_n 3, 1) := by decide +kernel
theorem dX2_stepsUp_10 : decode cX2_stepsUp 10 = .ok (.ifCond .lt 22, 3) := by decide +kernel
theorem dX2_stepsUp_13 : decode cX2_stepsUp 13 = .ok (.iload_n 2, 1) := by decide +kernel
theorem dX2_stepsUp_14 : decode cX2_stepsUp 14 = .ok (.bipush 24, 2) := by decide +kernel
theorem dX2_stepsUp_16 : decode cX2_stepsUp 16 = .ok (.if_icmp .ge 16, 3) := by decide +kernel
theorem dX2_stepsUp_19 : decode cX2_stepsUp 19 = .ok (.iinc 2 1, 3) := by decide +kernel
theorem dX2_stepsUp_22 : decode cX2_stepsUp 22 = .ok (.aload_n 0, 1) := by decide +kernel
theorem dX2_stepsUp_23 : decode cX2_stepsUp 23 = .ok (.getfield 9, 3) := by decide +kernel
theorem dX2_stepsUp_26 : decode cX2_stepsUp 26 = .ok (.iload_n 3, 1) := by decide +kernel
theorem dX2_stepsUp_27 : decode cX2_stepsUp 27 = .ok (.iaload, 1) := by decide +kernel
theorem dX2_stepsUp_28 : decode cX2_stepsUp 28 = .ok (.istore_n 3, 1) := by decide +kernel
theorem dX2_stepsUp_29 : decode cX2_stepsUp 29 = .ok (.goto (-20), 3) := by decide +kernel
theorem dX2_stepsUp_32 : decode cX2_stepsUp 32 = .ok (.iload_n 2, 1) := by decide +kernel
theorem dX2_stepsUp_33 : decode cX2_stepsUp 33 = .ok (.ireturn, 1) := by decide +kernel
theorem dX2_hangingOn_0 : decode cX2_hangingOn 0 = .ok (.iconst 0, 1) := by decide +kernel
theorem dX2_hangingOn_1 : decode cX2_hangingOn 1 = .ok (.istore_n 3, 1) := by decide +kernel
theorem dX2_hangingOn_2 : decode cX2_hangingOn 2 = .ok (.iconst 0, 1) := by decide +kernel
theorem dX2_hangingOn_3 : decode cX2_hangingOn 3 = .ok (.istore 4, 2) := by decide +kernel
theorem dX2_hangingOn_5 : decode cX2_hangingOn 5 = .ok (.iload 4, 2) := by decide +kernel
theorem dX2_hangingOn_7 : decode cX2_hangingOn 7 = .ok (.aload_n 0, 1) := by decide +kernel
theorem dX2_hangingOn_8 : decode cX2_hangingOn 8 = .ok (.getfield 30, 3) := by decide +kernel
theorem dX2_hangingOn_11 : decode cX2_hangingOn 11 = .ok (.if_icmp .ge 31, 3) := by decide +kernel
theorem dX2_hangingOn_14 : decode cX2_hangingOn 14 = .ok (.aload_n 0, 1) := by decide +kernel
theorem dX2_hangingOn_15 : decode cX2_hangingOn 15 = .ok (.getfield 9, 3) := by decide +kernel
theorem dX2_hangingOn_18 : decode cX2_hangingOn 18 = .ok (.iload 4, 2) := by decide +kernel
theorem dX2_hangingOn_20 : decode cX2_hangingOn 20 = .ok (.iaload, 1) := by decide +kernel
theorem dX2_hangingOn_21 : decode cX2_hangingOn 21 = .ok (.iload_n 1, 1) := by decide +kernel
theorem dX2_hangingOn_22 : decode cX2_hangingOn 22 = .ok (.if_icmp .ne 14, 3) := by decide +kernel
theorem dX2_hangingOn_25 : decode cX2_hangingOn 25 = .ok (.iload_n 3, 1) := by decide +kernel
theorem dX2_hangingOn_26 : decode cX2_hangingOn 26 = .ok (.iload_n 2, 1) := by decide +kernel
theorem dX2_hangingOn_27 : decode cX2_hangingOn 27 = .ok (.if_icmp .ne 6, 3) := by decide +kernel
theorem dX2_hangingOn_30 : decode cX2_hangingOn 30 = .ok (.iload 4, 2) := by decide +kernel
theorem dX2_hangingOn_32 : decode cX2_hangingOn 32 = .ok (.ireturn, 1) := by decide +kernel
theorem dX2_hangingOn_33 : decode cX2_hangingOn 33 = .ok (.iinc 3 1, 3) := by decide +kernel
theorem dX2_hangingOn_36 : decode cX2_hangingOn 36 = .ok (.iinc 4 1, 3) := by decide +kernel
theorem dX2_hangingOn_39 : decode cX2_hangingOn 39 = .ok (.goto (-34), 3) := by decide +kernel
theorem dX2_hangingOn_42 : decode cX2_hangingOn 42 = .ok (.bipush (-2), 2) := by decide +kernel
theorem dX2_hangingOn_44 : decode cX2_hangingOn 44 = .ok (.ireturn, 1) := by decide +kernel
theorem dX2_reasonsBetween_0 : decode cX2_reasonsBetween 0 = .ok (.iconst 1, 1) := by decide +kernel
theorem dX2_reasonsBetween_1 : decode cX2_reasonsBetween 1 = .ok (.iload_n 1, 1) := by decide +kernel
theorem dX2_reasonsBetween_2 : decode cX2_reasonsBetween 2 = .ok (.ishl, 1) := by decide +kernel
theorem dX2_reasonsBetween_3 : decode cX2_reasonsBetween 3 = .ok (.istore_n 3, 1) := by decide +kernel
theorem dX2_reasonsBetween_4 : decode cX2_reasonsBetween 4 = .ok (.iload_n 1, 1) := by decide +kernel
theorem dX2_reasonsBetween_5 : decode cX2_reasonsBetween 5 = .ok (.istore 4, 2) := by decide +kernel
theorem dX2_reasonsBetween_7 : decode cX2_reasonsBetween 7 = .ok (.iconst 0, 1) := by decide +kernel
theorem dX2_reasonsBetween_8 : decode cX2_reasonsBetween 8 = .ok (.istore 5, 2) := by decide +kernel
theorem dX2_reasonsBetween_10 : decode cX2_reasonsBetween 10 = .ok (.iload 5, 2) := by decide +kernel
theorem dX2_reasonsBetween_12 : decode cX2_reasonsBetween 12 = .ok (.bipush 24, 2) := by decide +kernel
theorem dX2_reasonsBetween_14 : decode cX2_reasonsBetween 14 = .ok (.if_icmp .ge 35, 3) := by decide +kernel
theorem dX2_reasonsBetween_17 : decode cX2_reasonsBetween 17 = .ok (.aload_n 0, 1) := by decide +kernel
theorem dX2_reasonsBetween_18 : decode cX2_reasonsBetween 18 = .ok (.getfield 9, 3) := by decide +kernel
theorem dX2_reasonsBetween_21 : decode cX2_reasonsBetween 21 = .ok (.iload 4, 2) := by decide +kernel
theorem dX2_reasonsBetween_23 : decode cX2_reasonsBetween 23 = .ok (.iaload, 1) := by decide +kernel
theorem dX2_reasonsBetween_24 : decode cX2_reasonsBetween 24 = .ok (.ifCond .lt 25, 3) := by decide +kernel
theorem dX2_reasonsBetween_27 : decode cX2_reasonsBetween 27 = .ok (.aload_n 0, 1) := by decide +kernel
theorem dX2_reasonsBetween_28 : decode cX2_reasonsBetween 28 = .ok (.getfield 9, 3) := by decide +kernel
theorem dX2_reasonsBetween_31 : decode cX2_reasonsBetween 31 = .ok (.iload 4, 2) := by decide +kernel
theorem dX2_reasonsBetween_33 : decode cX2_reasonsBetween 33 = .ok (.iaload, 1) := by decide +kernel
theorem dX2_reasonsBetween_34 : decode cX2_reasonsBetween 34 = .ok (.istore 4, 2) := by decide +kernel
theorem dX2_reasonsBetween_36 : decode cX2_reasonsBetween 36 = .ok (.iload_n 3, 1) := by decide +kernel
theorem dX2_reasonsBetween_37 : decode cX2_reasonsBetween 37 = .ok (.iconst 1, 1) := by decide +kernel
theorem dX2_reasonsBetween_38 : decode cX2_reasonsBetween 38 = .ok (.iload 4, 2) := by decide +kernel
theorem dX2_reasonsBetween_40 : decode cX2_reasonsBetween 40 = .ok (.ishl, 1) := by decide +kernel
theorem dX2_reasonsBetween_41 : decode cX2_reasonsBetween 41 = .ok (.ior, 1) := by decide +kernel
theorem dX2_reasonsBetween_42 : decode cX2_reasonsBetween 42 = .ok (.istore_n 3, 1) := by decide +kernel
theorem dX2_reasonsBetween_43 : decode cX2_reasonsBetween 43 = .ok (.iinc 5 1, 3) := by decide +kernel
theorem dX2_reasonsBetween_46 : decode cX2_reasonsBetween 46 = .ok (.goto (-36), 3) := by decide +kernel
theorem dX2_reasonsBetween_49 : decode cX2_reasonsBetween 49 = .ok (.iconst 0, 1) := by decide +kernel
theorem dX2_reasonsBetween_50 : decode cX2_reasonsBetween 50 = .ok (.istore 5, 2) := by decide +kernel
theorem dX2_reasonsBetween_52 : decode cX2_reasonsBetween 52 = .ok (.iload_n 2, 1) := by decide +kernel
theorem dX2_reasonsBetween_53 : decode cX2_reasonsBetween 53 = .ok (.istore 6, 2) := by decide +kernel
theorem dX2_reasonsBetween_55 : decode cX2_reasonsBetween 55 = .ok (.iconst 0, 1) := by decide +kernel
theorem dX2_reasonsBetween_56 : decode cX2_reasonsBetween 56 = .ok (.istore 7, 2) := by decide +kernel
theorem dX2_reasonsBetween_58 : decode cX2_reasonsBetween 58 = .ok (.iload 7, 2) := by decide +kernel
theorem dX2_reasonsBetween_60 : decode cX2_reasonsBetween 60 = .ok (.bipush 24, 2) := by decide +kernel
theorem dX2_reasonsBetween_62 : decode cX2_reasonsBetween 62 = .ok (.if_icmp .ge 54, 3) := by decide +kernel
theorem dX2_reasonsBetween_65 : decode cX2_reasonsBetween 65 = .ok (.iload_n 3, 1) := by decide +kernel
theorem dX2_reasonsBetween_66 : decode cX2_reasonsBetween 66 = .ok (.iload 6, 2) := by decide +kernel
theorem dX2_reasonsBetween_68 : decode cX2_reasonsBetween 68 = .ok (.iushr, 1) := by decide +kernel
theorem dX2_reasonsBetween_69 : decode cX2_reasonsBetween 69 = .ok (.iconst 1, 1) := by decide +kernel
theorem dX2_reasonsBetween_70 : decode cX2_reasonsBetween 70 = .ok (.iand, 1) := by decide +kernel
theorem dX2_reasonsBetween_71 : decode cX2_reasonsBetween 71 = .ok (.ifCond .ne 45, 3) := by decide +kernel
theorem dX2_reasonsBetween_74 : decode cX2_reasonsBetween 74 = .ok (.aload_n 0, 1) := by decide +kernel
theorem dX2_reasonsBetween_75 : decode cX2_reasonsBetween 75 = .ok (.getfield 9, 3) := by decide +kernel
theorem dX2_reasonsBetween_78 : decode cX2_reasonsBetween 78 = .ok (.iload 6, 2) := by decide +kernel
theorem dX2_reasonsBetween_80 : decode cX2_reasonsBetween 80 = .ok (.iaload, 1) := by decide +kernel
theorem dX2_reasonsBetween_81 : decode cX2_reasonsBetween 81 = .ok (.ifCond .lt 35, 3) := by decide +kernel
theorem dX2_reasonsBetween_84 : decode cX2_reasonsBetween 84 = .ok (.iload 5, 2) := by decide +kernel
theorem dX2_reasonsBetween_86 : decode cX2_reasonsBetween 86 = .ok (.aload_n 0, 1) := by decide +kernel
theorem dX2_reasonsBetween_87 : decode cX2_reasonsBetween 87 = .ok (.getfield 27, 3) := by decide +kernel
theorem dX2_reasonsBetween_90 : decode cX2_reasonsBetween 90 = .ok (.aload_n 0, 1) := by decide +kernel
theorem dX2_reasonsBetween_91 : decode cX2_reasonsBetween 91 = .ok (.getfield 15, 3) := by decide +kernel
theorem dX2_reasonsBetween_94 : decode cX2_reasonsBetween 94 = .ok (.iload 6, 2) := by decide +kernel
theorem dX2_reasonsBetween_96 : decode cX2_reasonsBetween 96 = .ok (.iaload, 1) := by decide +kernel
theorem dX2_reasonsBetween_97 : decode cX2_reasonsBetween 97 = .ok (.iaload, 1) := by decide +kernel
theorem dX2_reasonsBetween_98 : decode cX2_reasonsBetween 98 = .ok (.ior, 1) := by decide +kernel
theorem dX2_reasonsBetween_99 : decode cX2_reasonsBetween 99 = .ok (.istore 5, 2) := by decide +kernel
theorem dX2_reasonsBetween_101 : decode cX2_reasonsBetween 101 = .ok (.aload_n 0, 1) := by decide +kernel
theorem dX2_reasonsBetween_102 : decode cX2_reasonsBetween 102 = .ok (.getfield 9, 3) := by decide +kernel
theorem dX2_reasonsBetween_105 : decode cX2_reasonsBetween 105 = .ok (.iload 6, 2) := by decide +kernel
theorem dX2_reasonsBetween_107 : decode cX2_reasonsBetween 107 = .ok (.iaload, 1) := by decide +kernel
theorem dX2_reasonsBetween_108 : decode cX2_reasonsBetween 108 = .ok (.istore 6, 2) := by decide +kernel
theorem dX2_reasonsBetween_110 : decode cX2_reasonsBetween 110 = .ok (.iinc 7 1, 3) := by decide +kernel
theorem dX2_reasonsBetween_113 : decode cX2_reasonsBetween 113 = .ok (.goto (-55), 3) := by decide +kernel
theorem dX2_reasonsBetween_116 : decode cX2_reasonsBetween 116 = .ok (.iload_n 1, 1) := by decide +kernel
theorem dX2_reasonsBetween_117 : decode cX2_reasonsBetween 117 = .ok (.istore 4, 2) := by decide +kernel
theorem dX2_reasonsBetween_119 : decode cX2_reasonsBetween 119 = .ok (.iconst 0, 1) := by decide +kernel
theorem dX2_reasonsBetween_120 : decode cX2_reasonsBetween 120 = .ok (.istore 7, 2) := by decide +kernel
theorem dX2_reasonsBetween_122 : decode cX2_reasonsBetween 122 = .ok (.iload 7, 2) := by decide +kernel
theorem dX2_reasonsBetween_124 : decode cX2_reasonsBetween 124 = .ok (.bipush 24, 2) := by decide +kernel
theorem dX2_reasonsBetween_126 : decode cX2_reasonsBetween 126 = .ok (.if_icmp .ge 52, 3) := by decide +kernel
theorem dX2_reasonsBetween_129 : decode cX2_reasonsBetween 129 = .ok (.iload 4, 2) := by decide +kernel
theorem dX2_reasonsBetween_131 : decode cX2_reasonsBetween 131 = .ok (.iload 6, 2) := by decide +kernel
theorem dX2_reasonsBetween_133 : decode cX2_reasonsBetween 133 = .ok (.if_icmp .eq 45, 3) := by decide +kernel
theorem dX2_reasonsBetween_136 : decode cX2_reasonsBetween 136 = .ok (.aload_n 0, 1) := by decide +kernel
theorem dX2_reasonsBetween_137 : decode cX2_reasonsBetween 137 = .ok (.getfield 9, 3) := by decide +kernel
theorem dX2_reasonsBetween_140 : decode cX2_reasonsBetween 140 = .ok (.iload 4, 2) := by decide +kernel
theorem dX2_reasonsBetween_142 : decode cX2_reasonsBetween 142 = .ok (.iaload, 1) := by decide +kernel
theorem dX2_reasonsBetween_143 : decode cX2_reasonsBetween 143 = .ok (.ifCond .lt 35, 3) := by decide +kernel
theorem dX2_reasonsBetween_146 : decode cX2_reasonsBetween 146 = .ok (.iload 5, 2) := by decide +kernel
theorem dX2_reasonsBetween_148 : decode cX2_reasonsBetween 148 = .ok (.aload_n 0, 1) := by decide +kernel
theorem dX2_reasonsBetween_149 : decode cX2_reasonsBetween 149 = .ok (.getfield 27, 3) := by decide +kernel
theorem dX2_reasonsBetween_152 : decode cX2_reasonsBetween 152 = .ok (.aload_n 0, 1) := by decide +kernel
theorem dX2_reasonsBetween_153 : decode cX2_reasonsBetween 153 = .ok (.getfield 15, 3) := by decide +kernel
theorem dX2_reasonsBetween_156 : decode cX2_reasonsBetween 156 = .ok (.iload 4, 2) := by decide +kernel
theorem dX2_reasonsBetween_158 : decode cX2_reasonsBetween 158 = .ok (.iaload, 1) := by decide +kernel
theorem dX2_reasonsBetween_159 : decode cX2_reasonsBetween 159 = .ok (.iaload, 1) := by decide +kernel
theorem dX2_reasonsBetween_160 : decode cX2_reasonsBetween 160 = .ok (.ior, 1) := by decide +kernel
theorem dX2_reasonsBetween_161 : decode cX2_reasonsBetween 161 = .ok (.istore 5, 2) := by decide +kernel
theorem dX2_reasonsBetween_163 : decode cX2_reasonsBetween 163 = .ok (.aload_n 0, 1) := by decide +kernel
theorem dX2_reasonsBetween_164 : decode cX2_reasonsBetween 164 = .ok (.getfield 9, 3) := by decide +kernel
theorem dX2_reasonsBetween_167 : decode cX2_reasonsBetween 167 = .ok (.iload 4, 2) := by decide +kernel
theorem dX2_reasonsBetween_169 : decode cX2_reasonsBetween 169 = .ok (.iaload, 1) := by decide +kernel
theorem dX2_reasonsBetween_170 : decode cX2_reasonsBetween 170 = .ok (.istore 4, 2) := by decide +kernel
theorem dX2_reasonsBetween_172 : decode cX2_reasonsBetween 172 = .ok (.iinc 7 1, 3) := by decide +kernel
theorem dX2_reasonsBetween_175 : decode cX2_reasonsBetween 175 = .ok (.goto (-53), 3) := by decide +kernel
theorem dX2_reasonsBetween_178 : decode cX2_reasonsBetween 178 = .ok (.iload 5, 2) := by decide +kernel
theorem dX2_reasonsBetween_180 : decode cX2_reasonsBetween 180 = .ok (.ireturn, 1) := by decide +kernel
theorem dX3_init_0 : decode cX3_init 0 = .ok (.aload_n 0, 1) := by decide +kernel
theorem dX3_init_1 : decode cX3_init 1 = .ok (.invokespecial 3, 3) := by decide +kernel
theorem dX3_init_4 : decode cX3_init 4 = .ok (.aload_n 0, 1) := by decide +kernel
theorem dX3_init_5 : decode cX3_init 5 = .ok (.bipush 24, 2) := by decide +kernel
theorem dX3_init_7 : decode cX3_init 7 = .ok (.newarray .int, 2) := by decide +kernel
theorem dX3_init_9 : decode cX3_init 9 = .ok (.putfield 9, 3) := by decide +kernel
theorem dX3_init_12 : decode cX3_init 12 = .ok (.return_, 1) := by decide +kernel
theorem dX3_partAll_0 : decode cX3_partAll 0 = .ok (.aload_n 0, 1) := by decide +kernel
theorem dX3_partAll_1 : decode cX3_partAll 1 = .ok (.iconst 0, 1) := by decide +kernel
theorem dX3_partAll_2 : decode cX3_partAll 2 = .ok (.putfield 15, 3) := by decide +kernel
theorem dX3_partAll_5 : decode cX3_partAll 5 = .ok (.aload_n 0, 1) := by decide +kernel
theorem dX3_partAll_6 : decode cX3_partAll 6 = .ok (.iconst 0, 1) := by decide +kernel
theorem dX3_partAll_7 : decode cX3_partAll 7 = .ok (.putfield 19, 3) := by decide +kernel
theorem dX3_partAll_10 : decode cX3_partAll 10 = .ok (.iconst 0, 1) := by decide +kernel
theorem dX3_partAll_11 : decode cX3_partAll 11 = .ok (.istore_n 2, 1) := by decide +kernel
theorem dX3_partAll_12 : decode cX3_partAll 12 = .ok (.iload_n 2, 1) := by decide +kernel
theorem dX3_partAll_13 : decode cX3_partAll 13 = .ok (.iload_n 1, 1) := by decide +kernel
theorem dX3_partAll_14 : decode cX3_partAll 14 = .ok (.if_icmp .ge 13, 3) := by decide +kernel
theorem dX3_partAll_17 : decode cX3_partAll 17 = .ok (.aload_n 0, 1) := by decide +kernel
theorem dX3_partAll_18 : decode cX3_partAll 18 = .ok (.invokevirtual 22, 3) := by decide +kernel
theorem dX3_partAll_21 : decode cX3_partAll 21 = .ok (.iinc 2 1, 3) := by decide +kernel
theorem dX3_partAll_24 : decode cX3_partAll 24 = .ok (.goto (-12), 3) := by decide +kernel
theorem dX3_partAll_27 : decode cX3_partAll 27 = .ok (.return_, 1) := by decide +kernel
theorem dX3_addLone_0 : decode cX3_addLone 0 = .ok (.aload_n 0, 1) := by decide +kernel
theorem dX3_addLone_1 : decode cX3_addLone 1 = .ok (.getfield 15, 3) := by decide +kernel
theorem dX3_addLone_4 : decode cX3_addLone 4 = .ok (.bipush 24, 2) := by decide +kernel
theorem dX3_addLone_6 : decode cX3_addLone 6 = .ok (.if_icmp .ge 36, 3) := by decide +kernel
theorem dX3_addLone_9 : decode cX3_addLone 9 = .ok (.aload_n 0, 1) := by decide +kernel
theorem dX3_addLone_10 : decode cX3_addLone 10 = .ok (.getfield 9, 3) := by decide +kernel
theorem dX3_addLone_13 : decode cX3_addLone 13 = .ok (.aload_n 0, 1) := by decide +kernel
theorem dX3_addLone_14 : decode cX3_addLone 14 = .ok (.getfield 15, 3) := by decide +kernel
theorem dX3_addLone_17 : decode cX3_addLone 17 = .ok (.aload_n 0, 1) := by decide +kernel
theorem dX3_addLone_18 : decode cX3_addLone 18 = .ok (.getfield 15, 3) := by decide +kernel
theorem dX3_addLone_21 : decode cX3_addLone 21 = .ok (.iastore, 1) := by decide +kernel
theorem dX3_addLone_22 : decode cX3_addLone 22 = .ok (.aload_n 0, 1) := by decide +kernel
theorem dX3_addLone_23 : decode cX3_addLone 23 = .ok (.dup, 1) := by decide +kernel
theorem dX3_addLone_24 : decode cX3_addLone 24 = .ok (.getfield 15, 3) := by decide +kernel
theorem dX3_addLone_27 : decode cX3_addLone 27 = .ok (.iconst 1, 1) := by decide +kernel
theorem dX3_addLone_28 : decode cX3_addLone 28 = .ok (.iadd, 1) := by decide +kernel
theorem dX3_addLone_29 : decode cX3_addLone 29 = .ok (.putfield 15, 3) := by decide +kernel
theorem dX3_addLone_32 : decode cX3_addLone 32 = .ok (.aload_n 0, 1) := by decide +kernel
theorem dX3_addLone_33 : decode cX3_addLone 33 = .ok (.dup, 1) := by decide +kernel
theorem dX3_addLone_34 : decode cX3_addLone 34 = .ok (.getfield 19, 3) := by decide +kernel
theorem dX3_addLone_37 : decode cX3_addLone 37 = .ok (.iconst 1, 1) := by decide +kernel
theorem dX3_addLone_38 : decode cX3_addLone 38 = .ok (.iadd, 1) := by decide +kernel
theorem dX3_addLone_39 : decode cX3_addLone 39 = .ok (.putfield 19, 3) := by decide +kernel
theorem dX3_addLone_42 : decode cX3_addLone 42 = .ok (.return_, 1) := by decide +kernel
theorem dX3_copyFrom_0 : decode cX3_copyFrom 0 = .ok (.aload_n 1, 1) := by decide +kernel
theorem dX3_copyFrom_1 : decode cX3_copyFrom 1 = .ok (.getfield 9, 3) := by decide +kernel
theorem dX3_copyFrom_4 : decode cX3_copyFrom 4 = .ok (.iconst 0, 1) := by decide +kernel
theorem dX3_copyFrom_5 : decode cX3_copyFrom 5 = .ok (.aload_n 0, 1) := by decide +kernel
theorem dX3_copyFrom_6 : decode cX3_copyFrom 6 = .ok (.getfield 9, 3) := by decide +kernel
theorem dX3_copyFrom_9 : decode cX3_copyFrom 9 = .ok (.iconst 0, 1) := by decide +kernel
theorem dX3_copyFrom_10 : decode cX3_copyFrom 10 = .ok (.bipush 24, 2) := by decide +kernel
theorem dX3_copyFrom_12 : decode cX3_copyFrom 12 = .ok (.invokestatic 25, 3) := by decide +kernel
theorem dX3_copyFrom_15 : decode cX3_copyFrom 15 = .ok (.aload_n 0, 1) := by decide +kernel
theorem dX3_copyFrom_16 : decode cX3_copyFrom 16 = .ok (.aload_n 1, 1) := by decide +kernel
theorem dX3_copyFrom_17 : decode cX3_copyFrom 17 = .ok (.getfield 15, 3) := by decide +kernel
theorem dX3_copyFrom_20 : decode cX3_copyFrom 20 = .ok (.putfield 15, 3) := by decide +kernel
theorem dX3_copyFrom_23 : decode cX3_copyFrom 23 = .ok (.aload_n 0, 1) := by decide +kernel
theorem dX3_copyFrom_24 : decode cX3_copyFrom 24 = .ok (.aload_n 1, 1) := by decide +kernel
theorem dX3_copyFrom_25 : decode cX3_copyFrom 25 = .ok (.getfield 19, 3) := by decide +kernel
theorem dX3_copyFrom_28 : decode cX3_copyFrom 28 = .ok (.putfield 19, 3) := by decide +kernel
theorem dX3_copyFrom_31 : decode cX3_copyFrom 31 = .ok (.return_, 1) := by decide +kernel
theorem dX3_one_0 : decode cX3_one 0 = .ok (.aload_n 0, 1) := by decide +kernel
theorem dX3_one_1 : decode cX3_one 1 = .ok (.getfield 9, 3) := by decide +kernel
theorem dX3_one_4 : decode cX3_one 4 = .ok (.iload_n 1, 1) := by decide +kernel
theorem dX3_one_5 : decode cX3_one 5 = .ok (.iaload, 1) := by decide +kernel
theorem dX3_one_6 : decode cX3_one 6 = .ok (.aload_n 0, 1) := by decide +kernel
theorem dX3_one_7 : decode cX3_one 7 = .ok (.getfield 9, 3) := by decide +kernel
theorem dX3_one_10 : decode cX3_one 10 = .ok (.iload_n 2, 1) := by decide +kernel
theorem dX3_one_11 : decode cX3_one 11 = .ok (.iaload, 1) := by decide +kernel
theorem dX3_one_12 : decode cX3_one 12 = .ok (.if_icmp .ne 7, 3) := by decide +kernel
theorem dX3_one_15 : decode cX3_one 15 = .ok (.iconst 1, 1) := by decide +kernel
theorem dX3_one_16 : decode cX3_one 16 = .ok (.goto 4, 3) := by decide +kernel
theorem dX3_one_19 : decode cX3_one 19 = .ok (.iconst 0, 1) := by decide +kernel
theorem dX3_one_20 : decode cX3_one 20 = .ok (.ireturn, 1) := by decide +kernel
theorem dX3_unite_0 : decode cX3_unite 0 = .ok (.aload_n 0, 1) := by decide +kernel
theorem dX3_unite_1 : decode cX3_unite 1 = .ok (.getfield 9, 3) := by decide +kernel
theorem dX3_unite_4 : decode cX3_unite 4 = .ok (.iload_n 1, 1) := by decide +kernel
theorem dX3_unite_5 : decode cX3_unite 5 = .ok (.iaload, 1) := by decide +kernel
theorem dX3_unite_6 : decode cX3_unite 6 = .ok (.aload_n 0, 1) := by decide +kernel
theorem dX3_unite_7 : decode cX3_unite 7 = .ok (.getfield 9, 3) := by decide +kernel
theorem dX3_unite_10 : decode cX3_unite 10 = .ok (.iload_n 2, 1) := by decide +kernel
theorem dX3_unite_11 : decode cX3_unite 11 = .ok (.iaload, 1) := by decide +kernel
theorem dX3_unite_12 : decode cX3_unite 12 = .ok (.invokestatic 31, 3) := by decide +kernel
theorem dX3_unite_15 : decode cX3_unite 15 = .ok (.istore_n 3, 1) := by decide +kernel
theorem dX3_unite_16 : decode cX3_unite 16 = .ok (.aload_n 0, 1) := by decide +kernel
theorem dX3_unite_17 : decode cX3_unite 17 = .ok (.getfield 9, 3) := by decide +kernel
theorem dX3_unite_20 : decode cX3_unite 20 = .ok (.iload_n 1, 1) := by decide +kernel
theorem dX3_unite_21 : decode cX3_unite 21 = .ok (.iaload, 1) := by decide +kernel
theorem dX3_unite_22 : decode cX3_unite 22 = .ok (.aload_n 0, 1) := by decide +kernel
theorem dX3_unite_23 : decode cX3_unite 23 = .ok (.getfield 9, 3) := by decide +kernel
theorem dX3_unite_26 : decode cX3_unite 26 = .ok (.iload_n 2, 1) := by decide +kernel
theorem dX3_unite_27 : decode cX3_unite 27 = .ok (.iaload, 1) := by decide +kernel
theorem dX3_unite_28 : decode cX3_unite 28 = .ok (.invokestatic 37, 3) := by decide +kernel
theorem dX3_unite_31 : decode cX3_unite 31 = .ok (.istore 4, 2) := by decide +kernel
theorem dX3_unite_33 : decode cX3_unite 33 = .ok (.iload_n 3, 1) := by decide +kernel
theorem dX3_unite_34 : decode cX3_unite 34 = .ok (.iload 4, 2) := by decide +kernel
theorem dX3_unite_36 : decode cX3_unite 36 = .ok (.if_icmp .ne 4, 3) := by decide +kernel
theorem dX3_unite_39 : decode cX3_unite 39 = .ok (.return_, 1) := by decide +kernel
theorem dX3_unite_40 : decode cX3_unite 40 = .ok (.iload 4, 2) := by decide +kernel
theorem dX3_unite_42 : decode cX3_unite 42 = .ok (.istore 5, 2) := by decide +kernel
theorem dX3_unite_44 : decode cX3_unite 44 = .ok (.iload 5, 2) := by decide +kernel
theorem dX3_unite_46 : decode cX3_unite 46 = .ok (.aload_n 0, 1) := by decide +kernel
theorem dX3_unite_47 : decode cX3_unite 47 = .ok (.getfield 15, 3) := by decide +kernel
theorem dX3_unite_50 : decode cX3_unite 50 = .ok (.if_icmp .ge 29, 3) := by decide +kernel
theorem dX3_unite_53 : decode cX3_unite 53 = .ok (.aload_n 0, 1) := by decide +kernel
theorem dX3_unite_54 : decode cX3_unite 54 = .ok (.getfield 9, 3) := by decide +kernel
theorem dX3_unite_57 : decode cX3_unite 57 = .ok (.iload 5, 2) := by decide +kernel
theorem dX3_unite_59 : decode cX3_unite 59 = .ok (.iaload, 1) := by decide +kernel
theorem dX3_unite_60 : decode cX3_unite 60 = .ok (.iload 4, 2) := by decide +kernel
theorem dX3_unite_62 : decode cX3_unite 62 = .ok (.if_icmp .ne 11, 3) := by decide +kernel
theorem dX3_unite_65 : decode cX3_unite 65 = .ok (.aload_n 0, 1) := by decide +kernel
theorem dX3_unite_66 : decode cX3_unite 66 = .ok (.getfield 9, 3) := by decide +kernel
theorem dX3_unite_69 : decode cX3_unite 69 = .ok (.iload 5, 2) := by decide +kernel
theorem dX3_unite_71 : decode cX3_unite 71 = .ok (.iload_n 3, 1) := by decide +kernel
theorem dX3_unite_72 : decode cX3_unite 72 = .ok (.iastore, 1) := by decide +kernel
theorem dX3_unite_73 : decode cX3_unite 73 = .ok (.iinc 5 1, 3) := by decide +kernel
theorem dX3_unite_76 : decode cX3_unite 76 = .ok (.goto (-32), 3) := by decide +kernel
theorem dX3_unite_79 : decode cX3_unite 79 = .ok (.aload_n 0, 1) := by decide +kernel
theorem dX3_unite_80 : decode cX3_unite 80 = .ok (.dup, 1) := by decide +kernel
theorem dX3_unite_81 : decode cX3_unite 81 = .ok (.getfield 19, 3) := by decide +kernel
theorem dX3_unite_84 : decode cX3_unite 84 = .ok (.iconst 1, 1) := by decide +kernel
theorem dX3_unite_85 : decode cX3_unite 85 = .ok (.isub, 1) := by decide +kernel
theorem dX3_unite_86 : decode cX3_unite 86 = .ok (.putfield 19, 3) := by decide +kernel
theorem dX3_unite_89 : decode cX3_unite 89 = .ok (.return_, 1) := by decide +kernel
theorem dX3_members_0 : decode cX3_members 0 = .ok (.iconst 0, 1) := by decide +kernel
theorem dX3_members_1 : decode cX3_members 1 = .ok (.istore_n 2, 1) := by decide +kernel
theorem dX3_members_2 : decode cX3_members 2 = .ok (.iconst 0, 1) := by decide +kernel
theorem dX3_members_3 : decode cX3_members 3 = .ok (.istore_n 3, 1) := by decide +kernel
theorem dX3_members_4 : decode cX3_members 4 = .ok (.iload_n 3, 1) := by decide +kernel
theorem dX3_members_5 : decode cX3_members 5 = .ok (.aload_n 0, 1) := by decide +kernel
theorem dX3_members_6 : decode cX3_members 6 = .ok (.getfield 15, 3) := by decide +kernel
theorem dX3_members_9 : decode cX3_members 9 = .ok (.if_icmp .ge 21, 3) := by decide +kernel
theorem dX3_members_12 : decode cX3_members 12 = .ok (.aload_n 0, 1) := by decide +kernel
theorem dX3_members_13 : decode cX3_members 13 = .ok (.iload_n 3, 1) := by decide +kernel
theorem dX3_members_14 : decode cX3_members 14 = .ok (.iload_n 1, 1) := by decide +kernel
theorem dX3_members_15 : decode cX3_members 15 = .ok (.invokevirtual 40, 3) := by decide +kernel
theorem dX3_members_18 : decode cX3_members 18 = .ok (.ifCond .eq 6, 3) := by decide +kernel
theorem dX3_members_21 : decode cX3_members 21 = .ok (.iinc 2 1, 3) := by decide +kernel
theorem dX3_members_24 : decode cX3_members 24 = .ok (.iinc 3 1, 3) := by decide +kernel
theorem dX3_members_27 : decode cX3_members 27 = .ok (.goto (-23), 3) := by decide +kernel
theorem dX3_members_30 : decode cX3_members 30 = .ok (.iload_n 2, 1) := by decide +kernel
theorem dX3_members_31 : decode cX3_members 31 = .ok (.ireturn, 1) := by decide +kernel
theorem dX4_init_0 : decode cX4_init 0 = .ok (.aload_n 0, 1) := by decide +kernel
theorem dX4_init_1 : decode cX4_init 1 = .ok (.invokespecial 3, 3) := by decide +kernel
theorem dX4_init_4 : decode cX4_init 4 = .ok (.aload_n 0, 1) := by decide +kernel
theorem dX4_init_5 : decode cX4_init 5 = .ok (.bipush 13, 2) := by decide +kernel
theorem dX4_init_7 : decode cX4_init 7 = .ok (.anewarray 9, 3) := by decide +kernel
theorem dX4_init_10 : decode cX4_init 10 = .ok (.putfield 11, 3) := by decide +kernel
theorem dX4_init_13 : decode cX4_init 13 = .ok (.aload_n 0, 1) := by decide +kernel
theorem dX4_init_14 : decode cX4_init 14 = .ok (.bipush 12, 2) := by decide +kernel
theorem dX4_init_16 : decode cX4_init 16 = .ok (.newarray .int, 2) := by decide +kernel
theorem dX4_init_18 : decode cX4_init 18 = .ok (.putfield 17, 3) := by decide +kernel
theorem dX4_init_21 : decode cX4_init 21 = .ok (.aload_n 0, 1) := by decide +kernel
theorem dX4_init_22 : decode cX4_init 22 = .ok (.bipush 64, 2) := by decide +kernel
theorem dX4_init_24 : decode cX4_init 24 = .ok (.newarray .long, 2) := by decide +kernel
theorem dX4_init_26 : decode cX4_init 26 = .ok (.putfield 21, 3) := by decide +kernel
theorem dX4_init_29 : decode cX4_init 29 = .ok (.iconst 0, 1) := by decide +kernel
theorem dX4_init_30 : decode cX4_init 30 = .ok (.istore_n 1, 1) := by decide +kernel
theorem dX4_init_31 : decode cX4_init 31 = .ok (.iload_n 1, 1) := by decide +kernel
theorem dX4_init_32 : decode cX4_init 32 = .ok (.bipush 12, 2) := by decide +kernel
theorem dX4_init_34 : decode cX4_init 34 = .ok (.if_icmp .gt 22, 3) := by decide +kernel
theorem dX4_init_37 : decode cX4_init 37 = .ok (.aload_n 0, 1) := by decide +kernel
theorem dX4_init_38 : decode cX4_init 38 = .ok (.getfield 11, 3) := by decide +kernel
theorem dX4_init_41 : decode cX4_init 41 = .ok (.iload_n 1, 1) := by decide +kernel
theorem dX4_init_42 : decode cX4_init 42 = .ok (.new 9, 3) := by decide +kernel
theorem dX4_init_45 : decode cX4_init 45 = .ok (.dup, 1) := by decide +kernel
theorem dX4_init_46 : decode cX4_init 46 = .ok (.invokespecial 25, 3) := by decide +kernel
theorem dX4_init_49 : decode cX4_init 49 = .ok (.aastore, 1) := by decide +kernel
theorem dX4_init_50 : decode cX4_init 50 = .ok (.iinc 1 1, 3) := by decide +kernel
theorem dX4_init_53 : decode cX4_init 53 = .ok (.goto (-22), 3) := by decide +kernel
theorem dX4_init_56 : decode cX4_init 56 = .ok (.return_, 1) := by decide +kernel
theorem dX5_init_0 : decode cX5_init 0 = .ok (.aload_n 0, 1) := by decide +kernel
theorem dX5_init_1 : decode cX5_init 1 = .ok (.invokespecial 3, 3) := by decide +kernel
theorem dX5_init_4 : decode cX5_init 4 = .ok (.aload_n 0, 1) := by decide +kernel
theorem dX5_init_5 : decode cX5_init 5 = .ok (.iconst 3, 1) := by decide +kernel
theorem dX5_init_6 : decode cX5_init 6 = .ok (.newarray .int, 2) := by decide +kernel
theorem dX5_init_8 : decode cX5_init 8 = .ok (.putfield 9, 3) := by decide +kernel
theorem dX5_init_11 : decode cX5_init 11 = .ok (.aload_n 0, 1) := by decide +kernel
theorem dX5_init_12 : decode cX5_init 12 = .ok (.aload_n 1, 1) := by decide +kernel
theorem dX5_init_13 : decode cX5_init 13 = .ok (.putfield 15, 3) := by decide +kernel
theorem dX5_init_16 : decode cX5_init 16 = .ok (.aload_n 0, 1) := by decide +kernel
theorem dX5_init_17 : decode cX5_init 17 = .ok (.iload_n 2, 1) := by decide +kernel
theorem dX5_init_18 : decode cX5_init 18 = .ok (.putfield 19, 3) := by decide +kernel
theorem dX5_init_21 : decode cX5_init 21 = .ok (.aload_n 0, 1) := by decide +kernel
theorem dX5_init_22 : decode cX5_init 22 = .ok (.aload_n 3, 1) := by decide +kernel
theorem dX5_init_23 : decode cX5_init 23 = .ok (.putfield 23, 3) := by decide +kernel
theorem dX5_init_26 : decode cX5_init 26 = .ok (.return_, 1) := by decide +kernel
theorem dX5_readText_0 : decode cX5_readText 0 = .ok (.aload_n 0, 1) := by decide +kernel
theorem dX5_readText_1 : decode cX5_readText 1 = .ok (.getfield 23, 3) := by decide +kernel
theorem dX5_readText_4 : decode cX5_readText 4 = .ok (.invokevirtual 27, 3) := by decide +kernel
theorem dX5_readText_7 : decode cX5_readText 7 = .ok (.aload_n 0, 1) := by decide +kernel
theorem dX5_readText_8 : decode cX5_readText 8 = .ok (.invokevirtual 32, 3) := by decide +kernel
theorem dX5_readText_11 : decode cX5_readText 11 = .ok (.iconst 0, 1) := by decide +kernel
theorem dX5_readText_12 : decode cX5_readText 12 = .ok (.istore_n 1, 1) := by decide +kernel
theorem dX5_readText_13 : decode cX5_readText 13 = .ok (.iload_n 1, 1) := by decide +kernel
theorem dX5_readText_14 : decode cX5_readText 14 = .ok (.sipush 500, 3) := by decide +kernel
theorem dX5_readText_17 : decode cX5_readText 17 = .ok (.if_icmp .gt 46, 3) := by decide +kernel
theorem dX5_readText_20 : decode cX5_readText 20 = .ok (.aload_n 0, 1) := by decide +kernel
theorem dX5_readText_21 : decode cX5_readText 21 = .ok (.invokevirtual 35, 3) := by decide +kernel
theorem dX5_readText_24 : decode cX5_readText 24 = .ok (.ifCond .ne 5, 3) := by decide +kernel
theorem dX5_readText_27 : decode cX5_readText 27 = .ok (.iconst 0, 1) := by decide +kernel
theorem dX5_readText_28 : decode cX5_readText 28 = .ok (.ireturn, 1) := by decide +kernel
theorem dX5_readText_29 : decode cX5_readText 29 = .ok (.aload_n 0, 1) := by decide +kernel
theorem dX5_readText_30 : decode cX5_readText 30 = .ok (.getfield 39, 3) := by decide +kernel
theorem dX5_readText_33 : decode cX5_readText 33 = .ok (.ifCond .ne 5, 3) := by decide +kernel
theorem dX5_readText_36 : decode cX5_readText 36 = .ok (.iconst 1, 1) := by decide +kernel
theorem dX5_readText_37 : decode cX5_readText 37 = .ok (.ireturn, 1) := by decide +kernel
theorem dX5_readText_38 : decode cX5_readText 38 = .ok (.aload_n 0, 1) := by decide +kernel
theorem dX5_readText_39 : decode cX5_readText 39 = .ok (.bipush 59, 2) := by decide +kernel
theorem dX5_readText_41 : decode cX5_readText 41 = .ok (.invokevirtual 42, 3) := by decide +kernel
theorem dX5_readText_44 : decode cX5_readText 44 = .ok (.ifCond .ne 9, 3) := by decide +kernel
theorem dX5_readText_47 : decode cX5_readText 47 = .ok (.aload_n 0, 1) := by decide +kernel
theorem dX5_readText_48 : decode cX5_readText 48 = .ok (.iconst 1, 1) := by decide +kernel
theorem dX5_readText_49 : decode cX5_readText 49 = .ok (.invokevirtual 46, 3) := by decide +kernel
theorem dX5_readText_52 : decode cX5_readText 52 = .ok (.ireturn, 1) := by decide +kernel
theorem dX5_readText_53 : decode cX5_readText 53 = .ok (.aload_n 0, 1) := by decide +kernel
theorem dX5_readText_54 : decode cX5_readText 54 = .ok (.invokevirtual 32, 3) := by decide +kernel
theorem dX5_readText_57 : decode cX5_readText 57 = .ok (.iinc 1 1, 3) := by decide +kernel
theorem dX5_readText_60 : decode cX5_readText 60 = .ok (.goto (-47), 3) := by decide +kernel
theorem dX5_readText_63 : decode cX5_readText 63 = .ok (.aload_n 0, 1) := by decide +kernel
theorem dX5_readText_64 : decode cX5_readText 64 = .ok (.iconst 1, 1) := by decide +kernel
theorem dX5_readText_65 : decode cX5_readText 65 = .ok (.invokevirtual 46, 3) := by decide +kernel
theorem dX5_readText_68 : decode cX5_readText 68 = .ok (.ireturn, 1) := by decide +kernel
theorem dX5_readLine_0 : decode cX5_readLine 0 = .ok (.aload_n 0, 1) := by decide +kernel
theorem dX5_readLine_1 : decode cX5_readLine 1 = .ok (.getfield 39, 3) := by decide +kernel
theorem dX5_readLine_4 : decode cX5_readLine 4 = .ok (.iconst 1, 1) := by decide +kernel
theorem dX5_readLine_5 : decode cX5_readLine 5 = .ok (.if_icmp .eq 9, 3) := by decide +kernel
theorem dX5_readLine_8 : decode cX5_readLine 8 = .ok (.aload_n 0, 1) := by decide +kernel
theorem dX5_readLine_9 : decode cX5_readLine 9 = .ok (.iconst 1, 1) := by decide +kernel
theorem dX5_readLine_10 : decode cX5_readLine 10 = .ok (.invokevirtual 46, 3) := by decide +kernel
theorem dX5_readLine_13 : decode cX5_readLine 13 = .ok (.ireturn, 1) := by decide +kernel
theorem dX5_readLine_14 : decode cX5_readLine 14 = .ok (.aload_n 0, 1) := by decide +kernel
theorem dX5_readLine_15 : decode cX5_readLine 15 = .ok (.getfield 50, 3) := by decide +kernel
theorem dX5_readLine_18 : decode cX5_readLine 18 = .ok (.lookupswitch 104 #[(4955, 42), (85461, 78), (375062, 52), (397804, 47)], 42) := by decide +kernel
theorem dX5_readLine_60 : decode cX5_readLine 60 = .ok (.aload_n 0, 1) := by decide +kernel
theorem dX5_readLine_61 : decode cX5_readLine 61 = .ok (.invokevirtual 53, 3) := by decide +kernel
theorem dX5_readLine_64 : decode cX5_readLine 64 = .ok (.ireturn, 1) := by decide +kernel
theorem dX5_readLine_65 : decode cX5_readLine 65 = .ok (.aload_n 0, 1) := by decide +kernel
theorem dX5_readLine_66 : decode cX5_readLine 66 = .ok (.invokevirtual 56, 3) := by decide +kernel
theorem dX5_readLine_69 : decode cX5_readLine 69 = .ok (.ireturn, 1) := by decide +kernel
theorem dX5_readLine_70 : decode cX5_readLine 70 = .ok (.aload_n 0, 1) := by decide +kernel
theorem dX5_readLine_71 : decode cX5_readLine 71 = .ok (.getfield 23, 3) := by decide +kernel
theorem dX5_readLine_74 : decode cX5_readLine 74 = .ok (.getfield 59, 3) := by decide +kernel
theorem dX5_readLine_77 : decode cX5_readLine 77 = .ok (.bipush 12, 2) := by decide +kernel
theorem dX5_readLine_79 : decode cX5_readLine 79 = .ok (.if_icmp .lt 11, 3) := by decide +kernel
theorem dX5_readLine_82 : decode cX5_readLine 82 = .ok (.aload_n 0, 1) := by decide +kernel
theorem dX5_readLine_83 : decode cX5_readLine 83 = .ok (.iconst 4, 1) := by decide +kernel
theorem dX5_readLine_84 : decode cX5_readLine 84 = .ok (.invokevirtual 46, 3) := by decide +kernel
theorem dX5_readLine_87 : decode cX5_readLine 87 = .ok (.goto 8, 3) := by decide +kernel
theorem dX5_readLine_90 : decode cX5_readLine 90 = .ok (.aload_n 0, 1) := by decide +kernel
theorem dX5_readLine_91 : decode cX5_readLine 91 = .ok (.iconst 1, 1) := by decide +kernel
theorem dX5_readLine_92 : decode cX5_readLine 92 = .ok (.invokevirtual 62, 3) := by decide +kernel
theorem dX5_readLine_95 : decode cX5_readLine 95 = .ok (.ireturn, 1) := by decide +kernel
theorem dX5_readLine_96 : decode cX5_readLine 96 = .ok (.aload_n 0, 1) := by decide +kernel
theorem dX5_readLine_97 : decode cX5_readLine 97 = .ok (.getfield 23, 3) := by decide +kernel
theorem dX5_readLine_100 : decode cX5_readLine 100 = .ok (.getfield 66, 3) := by decide +kernel
theorem dX5_readLine_103 : decode cX5_readLine 103 = .ok (.bipush 8, 2) := by decide +kernel
theorem dX5_readLine_105 : decode cX5_readLine 105 = .ok (.if_icmp .lt 11, 3) := by decide +kernel
theorem dX5_readLine_108 : decode cX5_readLine 108 = .ok (.aload_n 0, 1) := by decide +kernel
theorem dX5_readLine_109 : decode cX5_readLine 109 = .ok (.iconst 4, 1) := by decide +kernel
theorem dX5_readLine_110 : decode cX5_readLine 110 = .ok (.invokevirtual 46, 3) := by decide +kernel
theorem dX5_readLine_113 : decode cX5_readLine 113 = .ok (.goto 8, 3) := by decide +kernel
theorem dX5_readLine_116 : decode cX5_readLine 116 = .ok (.aload_n 0, 1) := by decide +kernel
theorem dX5_readLine_117 : decode cX5_readLine 117 = .ok (.iconst 0, 1) := by decide +kernel
theorem dX5_readLine_118 : decode cX5_readLine 118 = .ok (.invokevirtual 62, 3) := by decide +kernel
theorem dX5_readLine_121 : decode cX5_readLine 121 = .ok (.ireturn, 1) := by decide +kernel
theorem dX5_readLine_122 : decode cX5_readLine 122 = .ok (.aload_n 0, 1) := by decide +kernel
theorem dX5_readLine_123 : decode cX5_readLine 123 = .ok (.iconst 1, 1) := by decide +kernel
theorem dX5_readLine_124 : decode cX5_readLine 124 = .ok (.invokevirtual 46, 3) := by decide +kernel
theorem dX5_readLine_127 : decode cX5_readLine 127 = .ok (.ireturn, 1) := by decide +kernel
theorem dX5_readFunction_0 : decode cX5_readFunction 0 = .ok (.aload_n 0, 1) := by decide +kernel
theorem dX5_readFunction_1 : decode cX5_readFunction 1 = .ok (.getfield 23, 3) := by decide +kernel
theorem dX5_readFunction_4 : decode cX5_readFunction 4 = .ok (.getfield 69, 3) := by decide +kernel
theorem dX5_readFunction_7 : decode cX5_readFunction 7 = .ok (.getfield 73, 3) := by decide +kernel
theorem dX5_readFunction_10 : decode cX5_readFunction 10 = .ok (.bipush 8, 2) := by decide +kernel
theorem dX5_readFunction_12 : decode cX5_readFunction 12 = .ok (.if_icmp .lt 9, 3) := by decide +kernel
theorem dX5_readFunction_15 : decode cX5_readFunction 15 = .ok (.aload_n 0, 1) := by decide +kernel
theorem dX5_readFunction_16 : decode cX5_readFunction 16 = .ok (.iconst 4, 1) := by decide +kernel
theorem dX5_readFunction_17 : decode cX5_readFunction 17 = .ok (.invokevirtual 46, 3) := by decide +kernel
theorem dX5_readFunction_20 : decode cX5_readFunction 20 = .ok (.ireturn, 1) := by decide +kernel
theorem dX5_readFunction_21 : decode cX5_readFunction 21 = .ok (.aload_n 0, 1) := by decide +kernel
theorem dX5_readFunction_22 : decode cX5_readFunction 22 = .ok (.invokevirtual 32, 3) := by decide +kernel
theorem dX5_readFunction_25 : decode cX5_readFunction 25 = .ok (.aload_n 0, 1) := by decide +kernel
theorem dX5_readFunction_26 : decode cX5_readFunction 26 = .ok (.invokevirtual 78, 3) := by decide +kernel
theorem dX5_readFunction_29 : decode cX5_readFunction 29 = .ok (.ifCond .ne 5, 3) := by decide +kernel
theorem dX5_readFunction_32 : decode cX5_readFunction 32 = .ok (.iconst 0, 1) := by decide +kernel
theorem dX5_readFunction_33 : decode cX5_readFunction 33 = .ok (.ireturn, 1) := by decide +kernel
theorem dX5_readFunction_34 : decode cX5_readFunction 34 = .ok (.aload_n 0, 1) := by decide +kernel
theorem dX5_readFunction_35 : decode cX5_readFunction 35 = .ok (.getfield 50, 3) := by decide +kernel
theorem dX5_readFunction_38 : decode cX5_readFunction 38 = .ok (.istore_n 1, 1) := by decide +kernel
theorem dX5_readFunction_39 : decode cX5_readFunction 39 = .ok (.aload_n 0, 1) := by decide +kernel
theorem dX5_readFunction_40 : decode cX5_readFunction 40 = .ok (.invokevirtual 32, 3) := by decide +kernel
theorem dX5_readFunction_43 : decode cX5_readFunction 43 = .ok (.aload_n 0, 1) := by decide +kernel
theorem dX5_readFunction_44 : decode cX5_readFunction 44 = .ok (.getfield 39, 3) := by decide +kernel
theorem dX5_readFunction_47 : decode cX5_readFunction 47 = .ok (.iconst 2, 1) := by decide +kernel
theorem dX5_readFunction_48 : decode cX5_readFunction 48 = .ok (.if_icmp .eq 9, 3) := by decide +kernel
theorem dX5_readFunction_51 : decode cX5_readFunction 51 = .ok (.aload_n 0, 1) := by decide +kernel
theorem dX5_readFunction_52 : decode cX5_readFunction 52 = .ok (.iconst 1, 1) := by decide +kernel
theorem dX5_readFunction_53 : decode cX5_readFunction 53 = .ok (.invokevirtual 46, 3) := by decide +kernel
theorem dX5_readFunction_56 : decode cX5_readFunction 56 = .ok (.ireturn, 1) := by decide +kernel
theorem dX5_readFunction_57 : decode cX5_readFunction 57 = .ok (.aload_n 0, 1) := by decide +kernel
theorem dX5_readFunction_58 : decode cX5_readFunction 58 = .ok (.getfield 50, 3) := by decide +kernel
theorem dX5_readFunction_61 : decode cX5_readFunction 61 = .ok (.iconst 3, 1) := by decide +kernel
theorem dX5_readFunction_62 : decode cX5_readFunction 62 = .ok (.if_icmp .le 9, 3) := by decide +kernel
theorem dX5_readFunction_65 : decode cX5_readFunction 65 = .ok (.aload_n 0, 1) := by decide +kernel
theorem dX5_readFunction_66 : decode cX5_readFunction 66 = .ok (.iconst 2, 1) := by decide +kernel
theorem dX5_readFunction_67 : decode cX5_readFunction 67 = .ok (.invokevirtual 46, 3) := by decide +kernel
theorem dX5_readFunction_70 : decode cX5_readFunction 70 = .ok (.ireturn, 1) := by decide +kernel
theorem dX5_readFunction_71 : decode cX5_readFunction 71 = .ok (.aload_n 0, 1) := by decide +kernel
theorem dX5_readFunction_72 : decode cX5_readFunction 72 = .ok (.getfield 23, 3) := by decide +kernel
theorem dX5_readFunction_75 : decode cX5_readFunction 75 = .ok (.getfield 69, 3) := by decide +kernel
theorem dX5_readFunction_78 : decode cX5_readFunction 78 = .ok (.iload_n 1, 1) := by decide +kernel
theorem dX5_readFunction_79 : decode cX5_readFunction 79 = .ok (.aload_n 0, 1) := by decide +kernel
theorem dX5_readFunction_80 : decode cX5_readFunction 80 = .ok (.getfield 50, 3) := by decide +kernel
theorem dX5_readFunction_83 : decode cX5_readFunction 83 = .ok (.invokevirtual 81, 3) := by decide +kernel
theorem dX5_readFunction_86 : decode cX5_readFunction 86 = .ok (.aload_n 0, 1) := by decide +kernel
theorem dX5_readFunction_87 : decode cX5_readFunction 87 = .ok (.invokevirtual 32, 3) := by decide +kernel
theorem dX5_readFunction_90 : decode cX5_readFunction 90 = .ok (.iconst 1, 1) := by decide +kernel
theorem dX5_readFunction_91 : decode cX5_readFunction 91 = .ok (.ireturn, 1) := by decide +kernel
theorem dX5_readTerm_0 : decode cX5_readTerm 0 = .ok (.aload_n 0, 1) := by decide +kernel
theorem dX5_readTerm_1 : decode cX5_readTerm 1 = .ok (.getfield 23, 3) := by decide +kernel
theorem dX5_readTerm_4 : decode cX5_readTerm 4 = .ok (.getfield 69, 3) := by decide +kernel
theorem dX5_readTerm_7 : decode cX5_readTerm 7 = .ok (.getfield 85, 3) := by decide +kernel
theorem dX5_readTerm_10 : decode cX5_readTerm 10 = .ok (.bipush 24, 2) := by decide +kernel
theorem dX5_readTerm_12 : decode cX5_readTerm 12 = .ok (.if_icmp .lt 9, 3) := by decide +kernel
theorem dX5_readTerm_15 : decode cX5_readTerm 15 = .ok (.aload_n 0, 1) := by decide +kernel
theorem dX5_readTerm_16 : decode cX5_readTerm 16 = .ok (.iconst 4, 1) := by decide +kernel
theorem dX5_readTerm_17 : decode cX5_readTerm 17 = .ok (.invokevirtual 46, 3) := by decide +kernel
theorem dX5_readTerm_20 : decode cX5_readTerm 20 = .ok (.ireturn, 1) := by decide +kernel
theorem dX5_readTerm_21 : decode cX5_readTerm 21 = .ok (.aload_n 0, 1) := by decide +kernel
theorem dX5_readTerm_22 : decode cX5_readTerm 22 = .ok (.invokevirtual 32, 3) := by decide +kernel
theorem dX5_readTerm_25 : decode cX5_readTerm 25 = .ok (.aload_n 0, 1) := by decide +kernel
theorem dX5_readTerm_26 : decode cX5_readTerm 26 = .ok (.invokevirtual 78, 3) := by decide +kernel
theorem dX5_readTerm_29 : decode cX5_readTerm 29 = .ok (.ifCond .ne 5, 3) := by decide +kernel
theorem dX5_readTerm_32 : decode cX5_readTerm 32 = .ok (.iconst 0, 1) := by decide +kernel
theorem dX5_readTerm_33 : decode cX5_readTerm 33 = .ok (.ireturn, 1) := by decide +kernel
theorem dX5_readTerm_34 : decode cX5_readTerm 34 = .ok (.aload_n 0, 1) := by decide +kernel
theorem dX5_readTerm_35 : decode cX5_readTerm 35 = .ok (.getfield 50, 3) := by decide +kernel
theorem dX5_readTerm_38 : decode cX5_readTerm 38 = .ok (.istore_n 1, 1) := by decide +kernel
theorem dX5_readTerm_39 : decode cX5_readTerm 39 = .ok (.aload_n 0, 1) := by decide +kernel
theorem dX5_readTerm_40 : decode cX5_readTerm 40 = .ok (.invokevirtual 32, 3) := by decide +kernel
theorem dX5_readTerm_43 : decode cX5_readTerm 43 = .ok (.aload_n 0, 1) := by decide +kernel
theorem dX5_readTerm_44 : decode cX5_readTerm 44 = .ok (.bipush 61, 2) := by decide +kernel
theorem dX5_readTerm_46 : decode cX5_readTerm 46 = .ok (.invokevirtual 42, 3) := by decide +kernel
theorem dX5_readTerm_49 : decode cX5_readTerm 49 = .ok (.ifCond .ne 9, 3) := by decide +kernel
theorem dX5_readTerm_52 : decode cX5_readTerm 52 = .ok (.aload_n 0, 1) := by decide +kernel
theorem dX5_readTerm_53 : decode cX5_readTerm 53 = .ok (.iconst 1, 1) := by decide +kernel
theorem dX5_readTerm_54 : decode cX5_readTerm 54 = .ok (.invokevirtual 46, 3) := by decide +kernel
theorem dX5_readTerm_57 : decode cX5_readTerm 57 = .ok (.ireturn, 1) := by decide +kernel
theorem dX5_readTerm_58 : decode cX5_readTerm 58 = .ok (.aload_n 0, 1) := by decide +kernel
theorem dX5_readTerm_59 : decode cX5_readTerm 59 = .ok (.invokevirtual 32, 3) := by decide +kernel
theorem dX5_readTerm_62 : decode cX5_readTerm 62 = .ok (.aload_n 0, 1) := by decide +kernel
theorem dX5_readTerm_63 : decode cX5_readTerm 63 = .ok (.invokevirtual 88, 3) := by decide +kernel
theorem dX5_readTerm_66 : decode cX5_readTerm 66 = .ok (.ifCond .ne 9, 3) := by decide +kernel
theorem dX5_readTerm_69 : decode cX5_readTerm 69 = .ok (.aload_n 0, 1) := by decide +kernel
theorem dX5_readTerm_70 : decode cX5_readTerm 70 = .ok (.iconst 1, 1) := by decide +kernel
theorem dX5_readTerm_71 : decode cX5_readTerm 71 = .ok (.invokevirtual 46, 3) := by decide +kernel
theorem dX5_readTerm_74 : decode cX5_readTerm 74 = .ok (.ireturn, 1) := by decide +kernel
theorem dX5_readTerm_75 : decode cX5_readTerm 75 = .ok (.aload_n 0, 1) := by decide +kernel
theorem dX5_readTerm_76 : decode cX5_readTerm 76 = .ok (.getfield 23, 3) := by decide +kernel
theorem dX5_readTerm_79 : decode cX5_readTerm 79 = .ok (.getfield 69, 3) := by decide +kernel
theorem dX5_readTerm_82 : decode cX5_readTerm 82 = .ok (.aload_n 0, 1) := by decide +kernel
theorem dX5_readTerm_83 : decode cX5_readTerm 83 = .ok (.getfield 50, 3) := by decide +kernel
theorem dX5_readTerm_86 : decode cX5_readTerm 86 = .ok (.invokevirtual 91, 3) := by decide +kernel
theorem dX5_readTerm_89 : decode cX5_readTerm 89 = .ok (.istore_n 2, 1) := by decide +kernel
theorem dX5_readTerm_90 : decode cX5_readTerm 90 = .ok (.iload_n 2, 1) := by decide +kernel
theorem dX5_readTerm_91 : decode cX5_readTerm 91 = .ok (.ifCond .ge 9, 3) := by decide +kernel
theorem dX5_readTerm_94 : decode cX5_readTerm 94 = .ok (.aload_n 0, 1) := by decide +kernel
theorem dX5_readTerm_95 : decode cX5_readTerm 95 = .ok (.iconst 3, 1) := by decide +kernel
theorem dX5_readTerm_96 : decode cX5_readTerm 96 = .ok (.invokevirtual 46, 3) := by decide +kernel
theorem dX5_readTerm_99 : decode cX5_readTerm 99 = .ok (.ireturn, 1) := by decide +kernel
theorem dX5_readTerm_100 : decode cX5_readTerm 100 = .ok (.aload_n 0, 1) := by decide +kernel
theorem dX5_readTerm_101 : decode cX5_readTerm 101 = .ok (.invokevirtual 32, 3) := by decide +kernel
theorem dX5_readTerm_104 : decode cX5_readTerm 104 = .ok (.aload_n 0, 1) := by decide +kernel
theorem dX5_readTerm_105 : decode cX5_readTerm 105 = .ok (.aload_n 0, 1) := by decide +kernel
theorem dX5_readTerm_106 : decode cX5_readTerm 106 = .ok (.getfield 23, 3) := by decide +kernel
theorem dX5_readTerm_109 : decode cX5_readTerm 109 = .ok (.getfield 69, 3) := by decide +kernel
theorem dX5_readTerm_112 : decode cX5_readTerm 112 = .ok (.getfield 95, 3) := by decide +kernel
theorem dX5_readTerm_115 : decode cX5_readTerm 115 = .ok (.iload_n 2, 1) := by decide +kernel
theorem dX5_readTerm_116 : decode cX5_readTerm 116 = .ok (.iaload, 1) := by decide +kernel
theorem dX5_readTerm_117 : decode cX5_readTerm 117 = .ok (.invokevirtual 98, 3) := by decide +kernel
theorem dX5_readTerm_120 : decode cX5_readTerm 120 = .ok (.ifCond .ne 5, 3) := by decide +kernel
theorem dX5_readTerm_123 : decode cX5_readTerm 123 = .ok (.iconst 0, 1) := by decide +kernel
theorem dX5_readTerm_124 : decode cX5_readTerm 124 = .ok (.ireturn, 1) := by decide +kernel
theorem dX5_readTerm_125 : decode cX5_readTerm 125 = .ok (.aload_n 0, 1) := by decide +kernel
theorem dX5_readTerm_126 : decode cX5_readTerm 126 = .ok (.getfield 23, 3) := by decide +kernel
theorem dX5_readTerm_129 : decode cX5_readTerm 129 = .ok (.iload_n 1, 1) := by decide +kernel
theorem dX5_readTerm_130 : decode cX5_readTerm 130 = .ok (.iload_n 2, 1) := by decide +kernel
theorem dX5_readTerm_131 : decode cX5_readTerm 131 = .ok (.aload_n 0, 1) := by decide +kernel
theorem dX5_readTerm_132 : decode cX5_readTerm 132 = .ok (.getfield 9, 3) := by decide +kernel
theorem dX5_readTerm_135 : decode cX5_readTerm 135 = .ok (.iconst 0, 1) := by decide +kernel
theorem dX5_readTerm_136 : decode cX5_readTerm 136 = .ok (.iaload, 1) := by decide +kernel
theorem dX5_readTerm_137 : decode cX5_readTerm 137 = .ok (.aload_n 0, 1) := by decide +kernel
theorem dX5_readTerm_138 : decode cX5_readTerm 138 = .ok (.getfield 9, 3) := by decide +kernel
theorem dX5_readTerm_141 : decode cX5_readTerm 141 = .ok (.iconst 1, 1) := by decide +kernel
theorem dX5_readTerm_142 : decode cX5_readTerm 142 = .ok (.iaload, 1) := by decide +kernel
theorem dX5_readTerm_143 : decode cX5_readTerm 143 = .ok (.aload_n 0, 1) := by decide +kernel
theorem dX5_readTerm_144 : decode cX5_readTerm 144 = .ok (.getfield 9, 3) := by decide +kernel
theorem dX5_readTerm_147 : decode cX5_readTerm 147 = .ok (.iconst 2, 1) := by decide +kernel
theorem dX5_readTerm_148 : decode cX5_readTerm 148 = .ok (.iaload, 1) := by decide +kernel
theorem dX5_readTerm_149 : decode cX5_readTerm 149 = .ok (.invokevirtual 101, 3) := by decide +kernel
theorem dX5_readTerm_152 : decode cX5_readTerm 152 = .ok (.iconst 1, 1) := by decide +kernel
theorem dX5_readTerm_153 : decode cX5_readTerm 153 = .ok (.ireturn, 1) := by decide +kernel
theorem dX5_readParts_0 : decode cX5_readParts 0 = .ok (.aload_n 0, 1) := by decide +kernel
theorem dX5_readParts_1 : decode cX5_readParts 1 = .ok (.bipush 40, 2) := by decide +kernel
theorem dX5_readParts_3 : decode cX5_readParts 3 = .ok (.invokevirtual 42, 3) := by decide +kernel
theorem dX5_readParts_6 : decode cX5_readParts 6 = .ok (.ifCond .ne 55, 3) := by decide +kernel
theorem dX5_readParts_9 : decode cX5_readParts 9 = .ok (.aload_n 0, 1) := by decide +kernel
theorem dX5_readParts_10 : decode cX5_readParts 10 = .ok (.getfield 39, 3) := by decide +kernel
theorem dX5_readParts_13 : decode cX5_readParts 13 = .ok (.ifCond .eq 12, 3) := by decide +kernel
theorem dX5_readParts_16 : decode cX5_readParts 16 = .ok (.aload_n 0, 1) := by decide +kernel
theorem dX5_readParts_17 : decode cX5_readParts 17 = .ok (.bipush 59, 2) := by decide +kernel
theorem dX5_readParts_19 : decode cX5_readParts 19 = .ok (.invokevirtual 42, 3) := by decide +kernel
theorem dX5_readParts_22 : decode cX5_readParts 22 = .ok (.ifCond .eq 7, 3) := by decide +kernel
theorem dX5_readParts_25 : decode cX5_readParts 25 = .ok (.iconst 1, 1) := by decide +kernel
theorem dX5_readParts_26 : decode cX5_readParts 26 = .ok (.goto 4, 3) := by decide +kernel
theorem dX5_readParts_29 : decode cX5_readParts 29 = .ok (.iconst 0, 1) := by decide +kernel
theorem dX5_readParts_30 : decode cX5_readParts 30 = .ok (.istore_n 2, 1) := by decide +kernel
theorem dX5_readParts_31 : decode cX5_readParts 31 = .ok (.iload_n 2, 1) := by decide +kernel
theorem dX5_readParts_32 : decode cX5_readParts 32 = .ok (.ifCond .eq 7, 3) := by decide +kernel
theorem dX5_readParts_35 : decode cX5_readParts 35 = .ok (.iload_n 1, 1) := by decide +kernel
theorem dX5_readParts_36 : decode cX5_readParts 36 = .ok (.ifCond .eq 19, 3) := by decide +kernel
theorem dX5_readParts_39 : decode cX5_readParts 39 = .ok (.aload_n 0, 1) := by decide +kernel
theorem dX5_readParts_40 : decode cX5_readParts 40 = .ok (.iload_n 2, 1) := by decide +kernel
theorem dX5_readParts_41 : decode cX5_readParts 41 = .ok (.ifCond .eq 7, 3) := by decide +kernel
theorem dX5_readParts_44 : decode cX5_readParts 44 = .ok (.iconst 5, 1) := by decide +kernel
theorem dX5_readParts_45 : decode cX5_readParts 45 = .ok (.goto 4, 3) := by decide +kernel
theorem dX5_readParts_48 : decode cX5_readParts 48 = .ok (.iconst 1, 1) := by decide +kernel
theorem dX5_readParts_49 : decode cX5_readParts 49 = .ok (.invokevirtual 46, 3) := by decide +kernel
theorem dX5_readParts_52 : decode cX5_readParts 52 = .ok (.ifCond .eq 7, 3) := by decide +kernel
theorem dX5_readParts_55 : decode cX5_readParts 55 = .ok (.iconst 1, 1) := by decide +kernel
theorem dX5_readParts_56 : decode cX5_readParts 56 = .ok (.goto 4, 3) := by decide +kernel
theorem dX5_readParts_59 : decode cX5_readParts 59 = .ok (.iconst 0, 1) := by decide +kernel
theorem dX5_readParts_60 : decode cX5_readParts 60 = .ok (.ireturn, 1) := by decide +kernel
theorem dX5_readParts_61 : decode cX5_readParts 61 = .ok (.iconst 0, 1) := by decide +kernel
theorem dX5_readParts_62 : decode cX5_readParts 62 = .ok (.istore_n 2, 1) := by decide +kernel
theorem dX5_readParts_63 : decode cX5_readParts 63 = .ok (.iload_n 2, 1) := by decide +kernel
theorem dX5_readParts_64 : decode cX5_readParts 64 = .ok (.iload_n 1, 1) := by decide +kernel
theorem dX5_readParts_65 : decode cX5_readParts 65 = .ok (.if_icmp .ge 94, 3) := by decide +kernel
theorem dX5_readParts_68 : decode cX5_readParts 68 = .ok (.iload_n 2, 1) := by decide +kernel
theorem dX5_readParts_69 : decode cX5_readParts 69 = .ok (.iconst 3, 1) := by decide +kernel
theorem dX5_readParts_70 : decode cX5_readParts 70 = .ok (.if_icmp .ge 89, 3) := by decide +kernel
theorem dX5_readParts_73 : decode cX5_readParts 73 = .ok (.aload_n 0, 1) := by decide +kernel
theorem dX5_readParts_74 : decode cX5_readParts 74 = .ok (.invokevirtual 32, 3) := by decide +kernel
theorem dX5_readParts_77 : decode cX5_readParts 77 = .ok (.aload_n 0, 1) := by decide +kernel
theorem dX5_readParts_78 : decode cX5_readParts 78 = .ok (.invokevirtual 105, 3) := by decide +kernel
theorem dX5_readParts_81 : decode cX5_readParts 81 = .ok (.ifCond .ne 5, 3) := by decide +kernel
theorem dX5_readParts_84 : decode cX5_readParts 84 = .ok (.iconst 0, 1) := by decide +kernel
theorem dX5_readParts_85 : decode cX5_readParts 85 = .ok (.ireturn, 1) := by decide +kernel
theorem dX5_readParts_86 : decode cX5_readParts 86 = .ok (.aload_n 0, 1) := by decide +kernel
theorem dX5_readParts_87 : decode cX5_readParts 87 = .ok (.getfield 9, 3) := by decide +kernel
theorem dX5_readParts_90 : decode cX5_readParts 90 = .ok (.iload_n 2, 1) := by decide +kernel
theorem dX5_readParts_91 : decode cX5_readParts 91 = .ok (.aload_n 0, 1) := by decide +kernel
theorem dX5_readParts_92 : decode cX5_readParts 92 = .ok (.getfield 23, 3) := by decide +kernel
theorem dX5_readParts_95 : decode cX5_readParts 95 = .ok (.getfield 69, 3) := by decide +kernel
theorem dX5_readParts_98 : decode cX5_readParts 98 = .ok (.aload_n 0, 1) := by decide +kernel
theorem dX5_readParts_99 : decode cX5_readParts 99 = .ok (.getfield 50, 3) := by decide +kernel
theorem dX5_readParts_102 : decode cX5_readParts 102 = .ok (.invokevirtual 108, 3) := by decide +kernel
theorem dX5_readParts_105 : decode cX5_readParts 105 = .ok (.iastore, 1) := by decide +kernel
theorem dX5_readParts_106 : decode cX5_readParts 106 = .ok (.aload_n 0, 1) := by decide +kernel
theorem dX5_readParts_107 : decode cX5_readParts 107 = .ok (.invokevirtual 32, 3) := by decide +kernel
theorem dX5_readParts_110 : decode cX5_readParts 110 = .ok (.aload_n 0, 1) := by decide +kernel
theorem dX5_readParts_111 : decode cX5_readParts 111 = .ok (.bipush 41, 2) := by decide +kernel
theorem dX5_readParts_113 : decode cX5_readParts 113 = .ok (.invokevirtual 42, 3) := by decide +kernel
theorem dX5_readParts_116 : decode cX5_readParts 116 = .ok (.ifCond .eq 22, 3) := by decide +kernel
theorem dX5_readParts_119 : decode cX5_readParts 119 = .ok (.iload_n 2, 1) := by decide +kernel
theorem dX5_readParts_120 : decode cX5_readParts 120 = .ok (.iconst 1, 1) := by decide +kernel
theorem dX5_readParts_121 : decode cX5_readParts 121 = .ok (.iadd, 1) := by decide +kernel
theorem dX5_readParts_122 : decode cX5_readParts 122 = .ok (.iload_n 1, 1) := by decide +kernel
theorem dX5_readParts_123 : decode cX5_readParts 123 = .ok (.if_icmp .ge 9, 3) := by decide +kernel
theorem dX5_readParts_126 : decode cX5_readParts 126 = .ok (.aload_n 0, 1) := by decide +kernel
theorem dX5_readParts_127 : decode cX5_readParts 127 = .ok (.iconst 5, 1) := by decide +kernel
theorem dX5_readParts_128 : decode cX5_readParts 128 = .ok (.invokevirtual 46, 3) := by decide +kernel
theorem dX5_readParts_131 : decode cX5_readParts 131 = .ok (.ireturn, 1) := by decide +kernel
theorem dX5_readParts_132 : decode cX5_readParts 132 = .ok (.aload_n 0, 1) := by decide +kernel
theorem dX5_readParts_133 : decode cX5_readParts 133 = .ok (.invokevirtual 32, 3) := by decide +kernel
theorem dX5_readParts_136 : decode cX5_readParts 136 = .ok (.iconst 1, 1) := by decide +kernel
theorem dX5_readParts_137 : decode cX5_readParts 137 = .ok (.ireturn, 1) := by decide +kernel
theorem dX5_readParts_138 : decode cX5_readParts 138 = .ok (.aload_n 0, 1) := by decide +kernel
theorem dX5_readParts_139 : decode cX5_readParts 139 = .ok (.bipush 44, 2) := by decide +kernel
theorem dX5_readParts_141 : decode cX5_readParts 141 = .ok (.invokevirtual 42, 3) := by decide +kernel
theorem dX5_readParts_144 : decode cX5_readParts 144 = .ok (.ifCond .ne 9, 3) := by decide +kernel
theorem dX5_readParts_147 : decode cX5_readParts 147 = .ok (.aload_n 0, 1) := by decide +kernel
theorem dX5_readParts_148 : decode cX5_readParts 148 = .ok (.iconst 1, 1) := by decide +kernel
theorem dX5_readParts_149 : decode cX5_readParts 149 = .ok (.invokevirtual 46, 3) := by decide +kernel
theorem dX5_readParts_152 : decode cX5_readParts 152 = .ok (.ireturn, 1) := by decide +kernel
theorem dX5_readParts_153 : decode cX5_readParts 153 = .ok (.iinc 2 1, 3) := by decide +kernel
theorem dX5_readParts_156 : decode cX5_readParts 156 = .ok (.goto (-93), 3) := by decide +kernel
theorem dX5_readParts_159 : decode cX5_readParts 159 = .ok (.aload_n 0, 1) := by decide +kernel
theorem dX5_readParts_160 : decode cX5_readParts 160 = .ok (.iconst 5, 1) := by decide +kernel
theorem dX5_readParts_161 : decode cX5_readParts 161 = .ok (.invokevirtual 46, 3) := by decide +kernel
theorem dX5_readParts_164 : decode cX5_readParts 164 = .ok (.ireturn, 1) := by decide +kernel
theorem dX5_readTwo_0 : decode cX5_readTwo 0 = .ok (.aload_n 0, 1) := by decide +kernel
theorem dX5_readTwo_1 : decode cX5_readTwo 1 = .ok (.invokevirtual 32, 3) := by decide +kernel
theorem dX5_readTwo_4 : decode cX5_readTwo 4 = .ok (.aload_n 0, 1) := by decide +kernel
theorem dX5_readTwo_5 : decode cX5_readTwo 5 = .ok (.invokevirtual 105, 3) := by decide +kernel
theorem dX5_readTwo_8 : decode cX5_readTwo 8 = .ok (.ifCond .ne 5, 3) := by decide +kernel
theorem dX5_readTwo_11 : decode cX5_readTwo 11 = .ok (.iconst 0, 1) := by decide +kernel
theorem dX5_readTwo_12 : decode cX5_readTwo 12 = .ok (.ireturn, 1) := by decide +kernel
theorem dX5_readTwo_13 : decode cX5_readTwo 13 = .ok (.aload_n 0, 1) := by decide +kernel
theorem dX5_readTwo_14 : decode cX5_readTwo 14 = .ok (.getfield 23, 3) := by decide +kernel
theorem dX5_readTwo_17 : decode cX5_readTwo 17 = .ok (.getfield 69, 3) := by decide +kernel
theorem dX5_readTwo_20 : decode cX5_readTwo 20 = .ok (.aload_n 0, 1) := by decide +kernel
theorem dX5_readTwo_21 : decode cX5_readTwo 21 = .ok (.getfield 50, 3) := by decide +kernel
theorem dX5_readTwo_24 : decode cX5_readTwo 24 = .ok (.invokevirtual 108, 3) := by decide +kernel
theorem dX5_readTwo_27 : decode cX5_readTwo 27 = .ok (.istore_n 2, 1) := by decide +kernel
theorem dX5_readTwo_28 : decode cX5_readTwo 28 = .ok (.aload_n 0, 1) := by decide +kernel
theorem dX5_readTwo_29 : decode cX5_readTwo 29 = .ok (.invokevirtual 32, 3) := by decide +kernel
theorem dX5_readTwo_32 : decode cX5_readTwo 32 = .ok (.aload_n 0, 1) := by decide +kernel
theorem dX5_readTwo_33 : decode cX5_readTwo 33 = .ok (.invokevirtual 105, 3) := by decide +kernel
theorem dX5_readTwo_36 : decode cX5_readTwo 36 = .ok (.ifCond .ne 5, 3) := by decide +kernel
theorem dX5_readTwo_39 : decode cX5_readTwo 39 = .ok (.iconst 0, 1) := by decide +kernel
theorem dX5_readTwo_40 : decode cX5_readTwo 40 = .ok (.ireturn, 1) := by decide +kernel
theorem dX5_readTwo_41 : decode cX5_readTwo 41 = .ok (.aload_n 0, 1) := by decide +kernel
theorem dX5_readTwo_42 : decode cX5_readTwo 42 = .ok (.getfield 23, 3) := by decide +kernel
theorem dX5_readTwo_45 : decode cX5_readTwo 45 = .ok (.getfield 69, 3) := by decide +kernel
theorem dX5_readTwo_48 : decode cX5_readTwo 48 = .ok (.aload_n 0, 1) := by decide +kernel
theorem dX5_readTwo_49 : decode cX5_readTwo 49 = .ok (.getfield 50, 3) := by decide +kernel
theorem dX5_readTwo_52 : decode cX5_readTwo 52 = .ok (.invokevirtual 108, 3) := by decide +kernel
theorem dX5_readTwo_55 : decode cX5_readTwo 55 = .ok (.istore_n 3, 1) := by decide +kernel
theorem dX5_readTwo_56 : decode cX5_readTwo 56 = .ok (.iload_n 1, 1) := by decide +kernel
theorem dX5_readTwo_57 : decode cX5_readTwo 57 = .ok (.ifCond .eq 15, 3) := by decide +kernel
theorem dX5_readTwo_60 : decode cX5_readTwo 60 = .ok (.aload_n 0, 1) := by decide +kernel
theorem dX5_readTwo_61 : decode cX5_readTwo 61 = .ok (.getfield 23, 3) := by decide +kernel
theorem dX5_readTwo_64 : decode cX5_readTwo 64 = .ok (.iload_n 2, 1) := by decide +kernel
theorem dX5_readTwo_65 : decode cX5_readTwo 65 = .ok (.iload_n 3, 1) := by decide +kernel
theorem dX5_readTwo_66 : decode cX5_readTwo 66 = .ok (.invokevirtual 111, 3) := by decide +kernel
theorem dX5_readTwo_69 : decode cX5_readTwo 69 = .ok (.goto 12, 3) := by decide +kernel
theorem dX5_readTwo_72 : decode cX5_readTwo 72 = .ok (.aload_n 0, 1) := by decide +kernel
theorem dX5_readTwo_73 : decode cX5_readTwo 73 = .ok (.getfield 23, 3) := by decide +kernel
theorem dX5_readTwo_76 : decode cX5_readTwo 76 = .ok (.iload_n 2, 1) := by decide +kernel
theorem dX5_readTwo_77 : decode cX5_readTwo 77 = .ok (.iload_n 3, 1) := by decide +kernel
theorem dX5_readTwo_78 : decode cX5_readTwo 78 = .ok (.invokevirtual 114, 3) := by decide +kernel
theorem dX5_readTwo_81 : decode cX5_readTwo 81 = .ok (.aload_n 0, 1) := by decide +kernel
theorem dX5_readTwo_82 : decode cX5_readTwo 82 = .ok (.invokevirtual 32, 3) := by decide +kernel
theorem dX5_readTwo_85 : decode cX5_readTwo 85 = .ok (.iconst 1, 1) := by decide +kernel
theorem dX5_readTwo_86 : decode cX5_readTwo 86 = .ok (.ireturn, 1) := by decide +kernel
theorem dX5_isName_0 : decode cX5_isName 0 = .ok (.aload_n 0, 1) := by decide +kernel
theorem dX5_isName_1 : decode cX5_isName 1 = .ok (.getfield 39, 3) := by decide +kernel
theorem dX5_isName_4 : decode cX5_isName 4 = .ok (.iconst 1, 1) := by decide +kernel
theorem dX5_isName_5 : decode cX5_isName 5 = .ok (.if_icmp .ne 44, 3) := by decide +kernel
theorem dX5_isName_8 : decode cX5_isName 8 = .ok (.aload_n 0, 1) := by decide +kernel
theorem dX5_isName_9 : decode cX5_isName 9 = .ok (.getfield 50, 3) := by decide +kernel
theorem dX5_isName_12 : decode cX5_isName 12 = .ok (.sipush 4955, 3) := by decide +kernel
theorem dX5_isName_15 : decode cX5_isName 15 = .ok (.if_icmp .eq 34, 3) := by decide +kernel
theorem dX5_isName_18 : decode cX5_isName 18 = .ok (.aload_n 0, 1) := by decide +kernel
theorem dX5_isName_19 : decode cX5_isName 19 = .ok (.getfield 50, 3) := by decide +kernel
theorem dX5_isName_22 : decode cX5_isName 22 = .ok (.ldc 117, 2) := by decide +kernel
theorem dX5_isName_24 : decode cX5_isName 24 = .ok (.if_icmp .eq 25, 3) := by decide +kernel
theorem dX5_isName_27 : decode cX5_isName 27 = .ok (.aload_n 0, 1) := by decide +kernel
theorem dX5_isName_28 : decode cX5_isName 28 = .ok (.getfield 50, 3) := by decide +kernel
theorem dX5_isName_31 : decode cX5_isName 31 = .ok (.ldc 118, 2) := by decide +kernel
theorem dX5_isName_33 : decode cX5_isName 33 = .ok (.if_icmp .eq 16, 3) := by decide +kernel
theorem dX5_isName_36 : decode cX5_isName 36 = .ok (.aload_n 0, 1) := by decide +kernel
theorem dX5_isName_37 : decode cX5_isName 37 = .ok (.getfield 50, 3) := by decide +kernel
theorem dX5_isName_40 : decode cX5_isName 40 = .ok (.ldc 119, 2) := by decide +kernel
theorem dX5_isName_42 : decode cX5_isName 42 = .ok (.if_icmp .eq 7, 3) := by decide +kernel
theorem dX5_isName_45 : decode cX5_isName 45 = .ok (.iconst 1, 1) := by decide +kernel
theorem dX5_isName_46 : decode cX5_isName 46 = .ok (.goto 4, 3) := by decide +kernel
theorem dX5_isName_49 : decode cX5_isName 49 = .ok (.iconst 0, 1) := by decide +kernel
theorem dX5_isName_50 : decode cX5_isName 50 = .ok (.ireturn, 1) := by decide +kernel
theorem dX5_isNewName_0 : decode cX5_isNewName 0 = .ok (.aload_n 0, 1) := by decide +kernel
theorem dX5_isNewName_1 : decode cX5_isNewName 1 = .ok (.invokevirtual 88, 3) := by decide +kernel
theorem dX5_isNewName_4 : decode cX5_isNewName 4 = .ok (.ifCond .ne 9, 3) := by decide +kernel
theorem dX5_isNewName_7 : decode cX5_isNewName 7 = .ok (.aload_n 0, 1) := by decide +kernel
theorem dX5_isNewName_8 : decode cX5_isNewName 8 = .ok (.iconst 1, 1) := by decide +kernel
theorem dX5_isNewName_9 : decode cX5_isNewName 9 = .ok (.invokevirtual 46, 3) := by decide +kernel
theorem dX5_isNewName_12 : decode cX5_isNewName 12 = .ok (.ireturn, 1) := by decide +kernel
theorem dX5_isNewName_13 : decode cX5_isNewName 13 = .ok (.aload_n 0, 1) := by decide +kernel
theorem dX5_isNewName_14 : decode cX5_isNewName 14 = .ok (.getfield 23, 3) := by decide +kernel
theorem dX5_isNewName_17 : decode cX5_isNewName 17 = .ok (.getfield 69, 3) := by decide +kernel
theorem dX5_isNewName_20 : decode cX5_isNewName 20 = .ok (.aload_n 0, 1) := by decide +kernel
theorem dX5_isNewName_21 : decode cX5_isNewName 21 = .ok (.getfield 50, 3) := by decide +kernel
theorem dX5_isNewName_24 : decode cX5_isNewName 24 = .ok (.invokevirtual 91, 3) := by decide +kernel
theorem dX5_isNewName_27 : decode cX5_isNewName 27 = .ok (.ifCond .ge 20, 3) := by decide +kernel
theorem dX5_isNewName_30 : decode cX5_isNewName 30 = .ok (.aload_n 0, 1) := by decide +kernel
theorem dX5_isNewName_31 : decode cX5_isNewName 31 = .ok (.getfield 23, 3) := by decide +kernel
theorem dX5_isNewName_34 : decode cX5_isNewName 34 = .ok (.getfield 69, 3) := by decide +kernel
theorem dX5_isNewName_37 : decode cX5_isNewName 37 = .ok (.aload_n 0, 1) := by decide +kernel
theorem dX5_isNewName_38 : decode cX5_isNewName 38 = .ok (.getfield 50, 3) := by decide +kernel
theorem dX5_isNewName_41 : decode cX5_isNewName 41 = .ok (.invokevirtual 108, 3) := by decide +kernel
theorem dX5_isNewName_44 : decode cX5_isNewName 44 = .ok (.ifCond .lt 7, 3) := by decide +kernel
theorem dX5_isNewName_47 : decode cX5_isNewName 47 = .ok (.iconst 1, 1) := by decide +kernel
theorem dX5_isNewName_48 : decode cX5_isNewName 48 = .ok (.goto 4, 3) := by decide +kernel
theorem dX5_isNewName_51 : decode cX5_isNewName 51 = .ok (.iconst 0, 1) := by decide +kernel
theorem dX5_isNewName_52 : decode cX5_isNewName 52 = .ok (.istore_n 1, 1) := by decide +kernel
theorem dX5_isNewName_53 : decode cX5_isNewName 53 = .ok (.iload_n 1, 1) := by decide +kernel
theorem dX5_isNewName_54 : decode cX5_isNewName 54 = .ok (.ifCond .eq 11, 3) := by decide +kernel
theorem dX5_isNewName_57 : decode cX5_isNewName 57 = .ok (.aload_n 0, 1) := by decide +kernel
theorem dX5_isNewName_58 : decode cX5_isNewName 58 = .ok (.iconst 3, 1) := by decide +kernel
theorem dX5_isNewName_59 : decode cX5_isNewName 59 = .ok (.invokevirtual 46, 3) := by decide +kernel
theorem dX5_isNewName_62 : decode cX5_isNewName 62 = .ok (.ifCond .eq 7, 3) := by decide +kernel
theorem dX5_isNewName_65 : decode cX5_isNewName 65 = .ok (.iconst 1, 1) := by decide +kernel
theorem dX5_isNewName_66 : decode cX5_isNewName 66 = .ok (.goto 4, 3) := by decide +kernel
theorem dX5_isNewName_69 : decode cX5_isNewName 69 = .ok (.iconst 0, 1) := by decide +kernel
theorem dX5_isNewName_70 : decode cX5_isNewName 70 = .ok (.ireturn, 1) := by decide +kernel
theorem dX5_isToldTerm_0 : decode cX5_isToldTerm 0 = .ok (.aload_n 0, 1) := by decide +kernel
theorem dX5_isToldTerm_1 : decode cX5_isToldTerm 1 = .ok (.invokevirtual 88, 3) := by decide +kernel
theorem dX5_isToldTerm_4 : decode cX5_isToldTerm 4 = .ok (.ifCond .ne 9, 3) := by decide +kernel
theorem dX5_isToldTerm_7 : decode cX5_isToldTerm 7 = .ok (.aload_n 0, 1) := by decide +kernel
theorem dX5_isToldTerm_8 : decode cX5_isToldTerm 8 = .ok (.iconst 1, 1) := by decide +kernel
theorem dX5_isToldTerm_9 : decode cX5_isToldTerm 9 = .ok (.invokevirtual 46, 3) := by decide +kernel
theorem dX5_isToldTerm_12 : decode cX5_isToldTerm 12 = .ok (.ireturn, 1) := by decide +kernel
theorem dX5_isToldTerm_13 : decode cX5_isToldTerm 13 = .ok (.aload_n 0, 1) := by decide +kernel
theorem dX5_isToldTerm_14 : decode cX5_isToldTerm 14 = .ok (.getfield 23, 3) := by decide +kernel
theorem dX5_isToldTerm_17 : decode cX5_isToldTerm 17 = .ok (.getfield 69, 3) := by decide +kernel
theorem dX5_isToldTerm_20 : decode cX5_isToldTerm 20 = .ok (.aload_n 0, 1) := by decide +kernel
theorem dX5_isToldTerm_21 : decode cX5_isToldTerm 21 = .ok (.getfield 50, 3) := by decide +kernel
theorem dX5_isToldTerm_24 : decode cX5_isToldTerm 24 = .ok (.invokevirtual 108, 3) := by decide +kernel
theorem dX5_isToldTerm_27 : decode cX5_isToldTerm 27 = .ok (.ifCond .ge 11, 3) := by decide +kernel
theorem dX5_isToldTerm_30 : decode cX5_isToldTerm 30 = .ok (.aload_n 0, 1) := by decide +kernel
theorem dX5_isToldTerm_31 : decode cX5_isToldTerm 31 = .ok (.iconst 3, 1) := by decide +kernel
theorem dX5_isToldTerm_32 : decode cX5_isToldTerm 32 = .ok (.invokevirtual 46, 3) := by decide +kernel
theorem dX5_isToldTerm_35 : decode cX5_isToldTerm 35 = .ok (.ifCond .eq 7, 3) := by decide +kernel
theorem dX5_isToldTerm_38 : decode cX5_isToldTerm 38 = .ok (.iconst 1, 1) := by decide +kernel
theorem dX5_isToldTerm_39 : decode cX5_isToldTerm 39 = .ok (.goto 4, 3) := by decide +kernel
theorem dX5_isToldTerm_42 : decode cX5_isToldTerm 42 = .ok (.iconst 0, 1) := by decide +kernel
theorem dX5_isToldTerm_43 : decode cX5_isToldTerm 43 = .ok (.ireturn, 1) := by decide +kernel
theorem dX5_isSign_0 : decode cX5_isSign 0 = .ok (.aload_n 0, 1) := by decide +kernel
theorem dX5_isSign_1 : decode cX5_isSign 1 = .ok (.getfield 39, 3) := by decide +kernel
theorem dX5_isSign_4 : decode cX5_isSign 4 = .ok (.iconst 3, 1) := by decide +kernel
theorem dX5_isSign_5 : decode cX5_isSign 5 = .ok (.if_icmp .ne 15, 3) := by decide +kernel
theorem dX5_isSign_8 : decode cX5_isSign 8 = .ok (.aload_n 0, 1) := by decide +kernel
theorem dX5_isSign_9 : decode cX5_isSign 9 = .ok (.getfield 50, 3) := by decide +kernel
theorem dX5_isSign_12 : decode cX5_isSign 12 = .ok (.iload_n 1, 1) := by decide +kernel
theorem dX5_isSign_13 : decode cX5_isSign 13 = .ok (.if_icmp .ne 7, 3) := by decide +kernel
theorem dX5_isSign_16 : decode cX5_isSign 16 = .ok (.iconst 1, 1) := by decide +kernel
theorem dX5_isSign_17 : decode cX5_isSign 17 = .ok (.goto 4, 3) := by decide +kernel
theorem dX5_isSign_20 : decode cX5_isSign 20 = .ok (.iconst 0, 1) := by decide +kernel
theorem dX5_isSign_21 : decode cX5_isSign 21 = .ok (.ireturn, 1) := by decide +kernel
theorem dX5_fail_0 : decode cX5_fail 0 = .ok (.aload_n 0, 1) := by decide +kernel
theorem dX5_fail_1 : decode cX5_fail 1 = .ok (.iload_n 1, 1) := by decide +kernel
theorem dX5_fail_2 : decode cX5_fail 2 = .ok (.putfield 120, 3) := by decide +kernel
theorem dX5_fail_5 : decode cX5_fail 5 = .ok (.iconst 0, 1) := by decide +kernel
theorem dX5_fail_6 : decode cX5_fail 6 = .ok (.ireturn, 1) := by decide +kernel
theorem dX5_advance_0 : decode cX5_advance 0 = .ok (.aload_n 0, 1) := by decide +kernel
theorem dX5_advance_1 : decode cX5_advance 1 = .ok (.aload_n 0, 1) := by decide +kernel
theorem dX5_advance_2 : decode cX5_advance 2 = .ok (.getfield 15, 3) := by decide +kernel
theorem dX5_advance_5 : decode cX5_advance 5 = .ok (.aload_n 0, 1) := by decide +kernel
theorem dX5_advance_6 : decode cX5_advance 6 = .ok (.getfield 123, 3) := by decide +kernel
theorem dX5_advance_9 : decode cX5_advance 9 = .ok (.aload_n 0, 1) := by decide +kernel
theorem dX5_advance_10 : decode cX5_advance 10 = .ok (.getfield 19, 3) := by decide +kernel
theorem dX5_advance_13 : decode cX5_advance 13 = .ok (.invokevirtual 126, 3) := by decide +kernel
theorem dX5_advance_16 : decode cX5_advance 16 = .ok (.putfield 132, 3) := by decide +kernel
theorem dX5_advance_19 : decode cX5_advance 19 = .ok (.aload_n 0, 1) := by decide +kernel
theorem dX5_advance_20 : decode cX5_advance 20 = .ok (.getfield 132, 3) := by decide +kernel
theorem dX5_advance_23 : decode cX5_advance 23 = .ok (.aload_n 0, 1) := by decide +kernel
theorem dX5_advance_24 : decode cX5_advance 24 = .ok (.getfield 19, 3) := by decide +kernel
theorem dX5_advance_27 : decode cX5_advance 27 = .ok (.if_icmp .lt 16, 3) := by decide +kernel
theorem dX5_advance_30 : decode cX5_advance 30 = .ok (.aload_n 0, 1) := by decide +kernel
theorem dX5_advance_31 : decode cX5_advance 31 = .ok (.iconst 0, 1) := by decide +kernel
theorem dX5_advance_32 : decode cX5_advance 32 = .ok (.iconst 0, 1) := by decide +kernel
theorem dX5_advance_33 : decode cX5_advance 33 = .ok (.aload_n 0, 1) := by decide +kernel
theorem dX5_advance_34 : decode cX5_advance 34 = .ok (.getfield 132, 3) := by decide +kernel
theorem dX5_advance_37 : decode cX5_advance 37 = .ok (.invokevirtual 135, 3) := by decide +kernel
theorem dX5_advance_40 : decode cX5_advance 40 = .ok (.goto 219, 3) := by decide +kernel
theorem dX5_advance_43 : decode cX5_advance 43 = .ok (.aload_n 0, 1) := by decide +kernel
theorem dX5_advance_44 : decode cX5_advance 44 = .ok (.getfield 15, 3) := by decide +kernel
theorem dX5_advance_47 : decode cX5_advance 47 = .ok (.aload_n 0, 1) := by decide +kernel
theorem dX5_advance_48 : decode cX5_advance 48 = .ok (.getfield 132, 3) := by decide +kernel
theorem dX5_advance_51 : decode cX5_advance 51 = .ok (.invokevirtual 139, 3) := by decide +kernel
theorem dX5_advance_54 : decode cX5_advance 54 = .ok (.ifCond .eq 50, 3) := by decide +kernel
theorem dX5_advance_57 : decode cX5_advance 57 = .ok (.aload_n 0, 1) := by decide +kernel
theorem dX5_advance_58 : decode cX5_advance 58 = .ok (.getfield 15, 3) := by decide +kernel
theorem dX5_advance_61 : decode cX5_advance 61 = .ok (.aload_n 0, 1) := by decide +kernel
theorem dX5_advance_62 : decode cX5_advance 62 = .ok (.getfield 132, 3) := by decide +kernel
theorem dX5_advance_65 : decode cX5_advance 65 = .ok (.aload_n 0, 1) := by decide +kernel
theorem dX5_advance_66 : decode cX5_advance 66 = .ok (.getfield 19, 3) := by decide +kernel
theorem dX5_advance_69 : decode cX5_advance 69 = .ok (.invokevirtual 142, 3) := by decide +kernel
theorem dX5_advance_72 : decode cX5_advance 72 = .ok (.istore_n 1, 1) := by decide +kernel
theorem dX5_advance_73 : decode cX5_advance 73 = .ok (.aload_n 0, 1) := by decide +kernel
theorem dX5_advance_74 : decode cX5_advance 74 = .ok (.getfield 15, 3) := by decide +kernel
theorem dX5_advance_77 : decode cX5_advance 77 = .ok (.aload_n 0, 1) := by decide +kernel
theorem dX5_advance_78 : decode cX5_advance 78 = .ok (.getfield 132, 3) := by decide +kernel
theorem dX5_advance_81 : decode cX5_advance 81 = .ok (.iload_n 1, 1) := by decide +kernel
theorem dX5_advance_82 : decode cX5_advance 82 = .ok (.invokevirtual 145, 3) := by decide +kernel
theorem dX5_advance_85 : decode cX5_advance 85 = .ok (.istore_n 2, 1) := by decide +kernel
theorem dX5_advance_86 : decode cX5_advance 86 = .ok (.aload_n 0, 1) := by decide +kernel
theorem dX5_advance_87 : decode cX5_advance 87 = .ok (.iload_n 2, 1) := by decide +kernel
theorem dX5_advance_88 : decode cX5_advance 88 = .ok (.ifCond .ne 7, 3) := by decide +kernel
theorem dX5_advance_91 : decode cX5_advance 91 = .ok (.iconst 4, 1) := by decide +kernel
theorem dX5_advance_92 : decode cX5_advance 92 = .ok (.goto 4, 3) := by decide +kernel
theorem dX5_advance_95 : decode cX5_advance 95 = .ok (.iconst 1, 1) := by decide +kernel
theorem dX5_advance_96 : decode cX5_advance 96 = .ok (.iload_n 2, 1) := by decide +kernel
theorem dX5_advance_97 : decode cX5_advance 97 = .ok (.iload_n 1, 1) := by decide +kernel
theorem dX5_advance_98 : decode cX5_advance 98 = .ok (.invokevirtual 135, 3) := by decide +kernel
theorem dX5_advance_101 : decode cX5_advance 101 = .ok (.goto 158, 3) := by decide +kernel
theorem dX5_advance_104 : decode cX5_advance 104 = .ok (.aload_n 0, 1) := by decide +kernel
theorem dX5_advance_105 : decode cX5_advance 105 = .ok (.getfield 15, 3) := by decide +kernel
theorem dX5_advance_108 : decode cX5_advance 108 = .ok (.aload_n 0, 1) := by decide +kernel
theorem dX5_advance_109 : decode cX5_advance 109 = .ok (.getfield 132, 3) := by decide +kernel
theorem dX5_advance_112 : decode cX5_advance 112 = .ok (.invokevirtual 148, 3) := by decide +kernel
theorem dX5_advance_115 : decode cX5_advance 115 = .ok (.ifCond .eq 75, 3) := by decide +kernel
theorem dX5_advance_118 : decode cX5_advance 118 = .ok (.aload_n 0, 1) := by decide +kernel
theorem dX5_advance_119 : decode cX5_advance 119 = .ok (.getfield 132, 3) := by decide +kernel
theorem dX5_advance_122 : decode cX5_advance 122 = .ok (.iconst 1, 1) := by decide +kernel
theorem dX5_advance_123 : decode cX5_advance 123 = .ok (.iadd, 1) := by decide +kernel
theorem dX5_advance_124 : decode cX5_advance 124 = .ok (.aload_n 0, 1) := by decide +kernel
theorem dX5_advance_125 : decode cX5_advance 125 = .ok (.getfield 19, 3) := by decide +kernel
theorem dX5_advance_128 : decode cX5_advance 128 = .ok (.if_icmp .ge 23, 3) := by decide +kernel
theorem dX5_advance_131 : decode cX5_advance 131 = .ok (.aload_n 0, 1) := by decide +kernel
theorem dX5_advance_132 : decode cX5_advance 132 = .ok (.getfield 15, 3) := by decide +kernel
theorem dX5_advance_135 : decode cX5_advance 135 = .ok (.aload_n 0, 1) := by decide +kernel
theorem dX5_advance_136 : decode cX5_advance 136 = .ok (.getfield 132, 3) := by decide +kernel
theorem dX5_advance_139 : decode cX5_advance 139 = .ok (.iconst 1, 1) := by decide +kernel
theorem dX5_advance_140 : decode cX5_advance 140 = .ok (.iadd, 1) := by decide +kernel
theorem dX5_advance_141 : decode cX5_advance 141 = .ok (.invokevirtual 148, 3) := by decide +kernel
theorem dX5_advance_144 : decode cX5_advance 144 = .ok (.ifCond .eq 7, 3) := by decide +kernel
theorem dX5_advance_147 : decode cX5_advance 147 = .ok (.iconst 1, 1) := by decide +kernel
theorem dX5_advance_148 : decode cX5_advance 148 = .ok (.goto 4, 3) := by decide +kernel
theorem dX5_advance_151 : decode cX5_advance 151 = .ok (.iconst 0, 1) := by decide +kernel
theorem dX5_advance_152 : decode cX5_advance 152 = .ok (.istore_n 1, 1) := by decide +kernel
theorem dX5_advance_153 : decode cX5_advance 153 = .ok (.aload_n 0, 1) := by decide +kernel
theorem dX5_advance_154 : decode cX5_advance 154 = .ok (.iload_n 1, 1) := by decide +kernel
theorem dX5_advance_155 : decode cX5_advance 155 = .ok (.ifCond .eq 7, 3) := by decide +kernel
theorem dX5_advance_158 : decode cX5_advance 158 = .ok (.iconst 4, 1) := by decide +kernel
theorem dX5_advance_159 : decode cX5_advance 159 = .ok (.goto 4, 3) := by decide +kernel
theorem dX5_advance_162 : decode cX5_advance 162 = .ok (.iconst 2, 1) := by decide +kernel
theorem dX5_advance_163 : decode cX5_advance 163 = .ok (.aload_n 0, 1) := by decide +kernel
theorem dX5_advance_164 : decode cX5_advance 164 = .ok (.getfield 15, 3) := by decide +kernel
theorem dX5_advance_167 : decode cX5_advance 167 = .ok (.getfield 151, 3) := by decide +kernel
theorem dX5_advance_170 : decode cX5_advance 170 = .ok (.aload_n 0, 1) := by decide +kernel
theorem dX5_advance_171 : decode cX5_advance 171 = .ok (.getfield 132, 3) := by decide +kernel
theorem dX5_advance_174 : decode cX5_advance 174 = .ok (.baload, 1) := by decide +kernel
theorem dX5_advance_175 : decode cX5_advance 175 = .ok (.bipush 48, 2) := by decide +kernel
theorem dX5_advance_177 : decode cX5_advance 177 = .ok (.isub, 1) := by decide +kernel
theorem dX5_advance_178 : decode cX5_advance 178 = .ok (.aload_n 0, 1) := by decide +kernel
theorem dX5_advance_179 : decode cX5_advance 179 = .ok (.getfield 132, 3) := by decide +kernel
theorem dX5_advance_182 : decode cX5_advance 182 = .ok (.iconst 1, 1) := by decide +kernel
theorem dX5_advance_183 : decode cX5_advance 183 = .ok (.iadd, 1) := by decide +kernel
theorem dX5_advance_184 : decode cX5_advance 184 = .ok (.invokevirtual 135, 3) := by decide +kernel
theorem dX5_advance_187 : decode cX5_advance 187 = .ok (.goto 72, 3) := by decide +kernel
theorem dX5_advance_190 : decode cX5_advance 190 = .ok (.aload_n 0, 1) := by decide +kernel
theorem dX5_advance_191 : decode cX5_advance 191 = .ok (.getfield 15, 3) := by decide +kernel
theorem dX5_advance_194 : decode cX5_advance 194 = .ok (.getfield 151, 3) := by decide +kernel
theorem dX5_advance_197 : decode cX5_advance 197 = .ok (.aload_n 0, 1) := by decide +kernel
theorem dX5_advance_198 : decode cX5_advance 198 = .ok (.getfield 132, 3) := by decide +kernel
theorem dX5_advance_201 : decode cX5_advance 201 = .ok (.baload, 1) := by decide +kernel
theorem dX5_advance_202 : decode cX5_advance 202 = .ok (.istore_n 1, 1) := by decide +kernel
theorem dX5_advance_203 : decode cX5_advance 203 = .ok (.iload_n 1, 1) := by decide +kernel
theorem dX5_advance_204 : decode cX5_advance 204 = .ok (.bipush 59, 2) := by decide +kernel
theorem dX5_advance_206 : decode cX5_advance 206 = .ok (.if_icmp .eq 27, 3) := by decide +kernel
theorem dX5_advance_209 : decode cX5_advance 209 = .ok (.iload_n 1, 1) := by decide +kernel
theorem dX5_advance_210 : decode cX5_advance 210 = .ok (.bipush 44, 2) := by decide +kernel
theorem dX5_advance_212 : decode cX5_advance 212 = .ok (.if_icmp .eq 21, 3) := by decide +kernel
theorem dX5_advance_215 : decode cX5_advance 215 = .ok (.iload_n 1, 1) := by decide +kernel
theorem dX5_advance_216 : decode cX5_advance 216 = .ok (.bipush 61, 2) := by decide +kernel
theorem dX5_advance_218 : decode cX5_advance 218 = .ok (.if_icmp .eq 15, 3) := by decide +kernel
theorem dX5_advance_221 : decode cX5_advance 221 = .ok (.iload_n 1, 1) := by decide +kernel
theorem dX5_advance_222 : decode cX5_advance 222 = .ok (.bipush 40, 2) := by decide +kernel
theorem dX5_advance_224 : decode cX5_advance 224 = .ok (.if_icmp .eq 9, 3) := by decide +kernel
theorem dX5_advance_227 : decode cX5_advance 227 = .ok (.iload_n 1, 1) := by decide +kernel
theorem dX5_advance_228 : decode cX5_advance 228 = .ok (.bipush 41, 2) := by decide +kernel
theorem dX5_advance_230 : decode cX5_advance 230 = .ok (.if_icmp .ne 7, 3) := by decide +kernel
theorem dX5_advance_233 : decode cX5_advance 233 = .ok (.iconst 1, 1) := by decide +kernel
theorem dX5_advance_234 : decode cX5_advance 234 = .ok (.goto 4, 3) := by decide +kernel
theorem dX5_advance_237 : decode cX5_advance 237 = .ok (.iconst 0, 1) := by decide +kernel
theorem dX5_advance_238 : decode cX5_advance 238 = .ok (.istore_n 2, 1) := by decide +kernel
theorem dX5_advance_239 : decode cX5_advance 239 = .ok (.aload_n 0, 1) := by decide +kernel
theorem dX5_advance_240 : decode cX5_advance 240 = .ok (.iload_n 2, 1) := by decide +kernel
theorem dX5_advance_241 : decode cX5_advance 241 = .ok (.ifCond .eq 7, 3) := by decide +kernel
theorem dX5_advance_244 : decode cX5_advance 244 = .ok (.iconst 3, 1) := by decide +kernel
theorem dX5_advance_245 : decode cX5_advance 245 = .ok (.goto 4, 3) := by decide +kernel
theorem dX5_advance_248 : decode cX5_advance 248 = .ok (.iconst 4, 1) := by decide +kernel
theorem dX5_advance_249 : decode cX5_advance 249 = .ok (.iload_n 1, 1) := by decide +kernel
theorem dX5_advance_250 : decode cX5_advance 250 = .ok (.aload_n 0, 1) := by decide +kernel
theorem dX5_advance_251 : decode cX5_advance 251 = .ok (.getfield 132, 3) := by decide +kernel
theorem dX5_advance_254 : decode cX5_advance 254 = .ok (.iconst 1, 1) := by decide +kernel
theorem dX5_advance_255 : decode cX5_advance 255 = .ok (.iadd, 1) := by decide +kernel
theorem dX5_advance_256 : decode cX5_advance 256 = .ok (.invokevirtual 135, 3) := by decide +kernel
theorem dX5_advance_259 : decode cX5_advance 259 = .ok (.return_, 1) := by decide +kernel
theorem dX5_see_0 : decode cX5_see 0 = .ok (.aload_n 0, 1) := by decide +kernel
theorem dX5_see_1 : decode cX5_see 1 = .ok (.iload_n 1, 1) := by decide +kernel
theorem dX5_see_2 : decode cX5_see 2 = .ok (.putfield 39, 3) := by decide +kernel
theorem dX5_see_5 : decode cX5_see 5 = .ok (.aload_n 0, 1) := by decide +kernel
theorem dX5_see_6 : decode cX5_see 6 = .ok (.iload_n 2, 1) := by decide +kernel
theorem dX5_see_7 : decode cX5_see 7 = .ok (.putfield 50, 3) := by decide +kernel
theorem dX5_see_10 : decode cX5_see 10 = .ok (.aload_n 0, 1) := by decide +kernel
theorem dX5_see_11 : decode cX5_see 11 = .ok (.iload_n 3, 1) := by decide +kernel
theorem dX5_see_12 : decode cX5_see 12 = .ok (.putfield 123, 3) := by decide +kernel
theorem dX5_see_15 : decode cX5_see 15 = .ok (.return_, 1) := by decide +kernel
theorem dX6_init_0 : decode cX6_init 0 = .ok (.aload_n 0, 1) := by decide +kernel
theorem dX6_init_1 : decode cX6_init 1 = .ok (.invokespecial 3, 3) := by decide +kernel
theorem dX6_init_4 : decode cX6_init 4 = .ok (.aload_n 0, 1) := by decide +kernel
theorem dX6_init_5 : decode cX6_init 5 = .ok (.sipush 500, 3) := by decide +kernel
theorem dX6_init_8 : decode cX6_init 8 = .ok (.newarray .byte, 2) := by decide +kernel
theorem dX6_init_10 : decode cX6_init 10 = .ok (.putfield 9, 3) := by decide +kernel
theorem dX6_init_13 : decode cX6_init 13 = .ok (.return_, 1) := by decide +kernel
theorem dX6_append_0 : decode cX6_append 0 = .ok (.aload_n 0, 1) := by decide +kernel
theorem dX6_append_1 : decode cX6_append 1 = .ok (.getfield 15, 3) := by decide +kernel
theorem dX6_append_4 : decode cX6_append 4 = .ok (.iconst 4, 1) := by decide +kernel
theorem dX6_append_5 : decode cX6_append 5 = .ok (.iadd, 1) := by decide +kernel
theorem dX6_append_6 : decode cX6_append 6 = .ok (.sipush 500, 3) := by decide +kernel
theorem dX6_append_9 : decode cX6_append 9 = .ok (.if_icmp .le 4, 3) := by decide +kernel
theorem dX6_append_12 : decode cX6_append 12 = .ok (.return_, 1) := by decide +kernel
theorem dX6_append_13 : decode cX6_append 13 = .ok (.aload_n 0, 1) := by decide +kernel
theorem dX6_append_14 : decode cX6_append 14 = .ok (.getfield 9, 3) := by decide +kernel
theorem dX6_append_17 : decode cX6_append 17 = .ok (.aload_n 0, 1) := by decide +kernel
theorem dX6_append_18 : decode cX6_append 18 = .ok (.getfield 15, 3) := by decide +kernel
theorem dX6_append_21 : decode cX6_append 21 = .ok (.iload_n 1, 1) := by decide +kernel
theorem dX6_append_22 : decode cX6_append 22 = .ok (.bipush 24, 2) := by decide +kernel
theorem dX6_append_24 : decode cX6_append 24 = .ok (.iushr, 1) := by decide +kernel
theorem dX6_append_25 : decode cX6_append 25 = .ok (.i2b, 1) := by decide +kernel
theorem dX6_append_26 : decode cX6_append 26 = .ok (.bastore, 1) := by decide +kernel
theorem dX6_append_27 : decode cX6_append 27 = .ok (.aload_n 0, 1) := by decide +kernel
theorem dX6_append_28 : decode cX6_append 28 = .ok (.getfield 9, 3) := by decide +kernel
theorem dX6_append_31 : decode cX6_append 31 = .ok (.aload_n 0, 1) := by decide +kernel
theorem dX6_append_32 : decode cX6_append 32 = .ok (.getfield 15, 3) := by decide +kernel
theorem dX6_append_35 : decode cX6_append 35 = .ok (.iconst 1, 1) := by decide +kernel
theorem dX6_append_36 : decode cX6_append 36 = .ok (.iadd, 1) := by decide +kernel
theorem dX6_append_37 : decode cX6_append 37 = .ok (.iload_n 1, 1) := by decide +kernel
theorem dX6_append_38 : decode cX6_append 38 = .ok (.bipush 16, 2) := by decide +kernel
theorem dX6_append_40 : decode cX6_append 40 = .ok (.iushr, 1) := by decide +kernel
theorem dX6_append_41 : decode cX6_append 41 = .ok (.i2b, 1) := by decide +kernel
theorem dX6_append_42 : decode cX6_append 42 = .ok (.bastore, 1) := by decide +kernel
theorem dX6_append_43 : decode cX6_append 43 = .ok (.aload_n 0, 1) := by decide +kernel
theorem dX6_append_44 : decode cX6_append 44 = .ok (.getfield 9, 3) := by decide +kernel
theorem dX6_append_47 : decode cX6_append 47 = .ok (.aload_n 0, 1) := by decide +kernel
theorem dX6_append_48 : decode cX6_append 48 = .ok (.getfield 15, 3) := by decide +kernel
theorem dX6_append_51 : decode cX6_append 51 = .ok (.iconst 2, 1) := by decide +kernel
theorem dX6_append_52 : decode cX6_append 52 = .ok (.iadd, 1) := by decide +kernel
theorem dX6_append_53 : decode cX6_append 53 = .ok (.iload_n 1, 1) := by decide +kernel
theorem dX6_append_54 : decode cX6_append 54 = .ok (.bipush 8, 2) := by decide +kernel
theorem dX6_append_56 : decode cX6_append 56 = .ok (.iushr, 1) := by decide +kernel
theorem dX6_append_57 : decode cX6_append 57 = .ok (.i2b, 1) := by decide +kernel
theorem dX6_append_58 : decode cX6_append 58 = .ok (.bastore, 1) := by decide +kernel
theorem dX6_append_59 : decode cX6_append 59 = .ok (.aload_n 0, 1) := by decide +kernel
theorem dX6_append_60 : decode cX6_append 60 = .ok (.getfield 9, 3) := by decide +kernel
theorem dX6_append_63 : decode cX6_append 63 = .ok (.aload_n 0, 1) := by decide +kernel
theorem dX6_append_64 : decode cX6_append 64 = .ok (.getfield 15, 3) := by decide +kernel
theorem dX6_append_67 : decode cX6_append 67 = .ok (.iconst 3, 1) := by decide +kernel
theorem dX6_append_68 : decode cX6_append 68 = .ok (.iadd, 1) := by decide +kernel
theorem dX6_append_69 : decode cX6_append 69 = .ok (.iload_n 1, 1) := by decide +kernel
theorem dX6_append_70 : decode cX6_append 70 = .ok (.i2b, 1) := by decide +kernel
theorem dX6_append_71 : decode cX6_append 71 = .ok (.bastore, 1) := by decide +kernel
theorem dX6_append_72 : decode cX6_append 72 = .ok (.aload_n 0, 1) := by decide +kernel
theorem dX6_append_73 : decode cX6_append 73 = .ok (.dup, 1) := by decide +kernel
theorem dX6_append_74 : decode cX6_append 74 = .ok (.getfield 15, 3) := by decide +kernel
theorem dX6_append_77 : decode cX6_append 77 = .ok (.iconst 4, 1) := by decide +kernel
theorem dX6_append_78 : decode cX6_append 78 = .ok (.iadd, 1) := by decide +kernel
theorem dX6_append_79 : decode cX6_append 79 = .ok (.putfield 15, 3) := by decide +kernel
theorem dX6_append_82 : decode cX6_append 82 = .ok (.return_, 1) := by decide +kernel
theorem dX6_isLetter_0 : decode cX6_isLetter 0 = .ok (.aload_n 0, 1) := by decide +kernel
theorem dX6_isLetter_1 : decode cX6_isLetter 1 = .ok (.getfield 9, 3) := by decide +kernel
theorem dX6_isLetter_4 : decode cX6_isLetter 4 = .ok (.iload_n 1, 1) := by decide +kernel
theorem dX6_isLetter_5 : decode cX6_isLetter 5 = .ok (.baload, 1) := by decide +kernel
theorem dX6_isLetter_6 : decode cX6_isLetter 6 = .ok (.bipush 97, 2) := by decide +kernel
theorem dX6_isLetter_8 : decode cX6_isLetter 8 = .ok (.if_icmp .lt 18, 3) := by decide +kernel
theorem dX6_isLetter_11 : decode cX6_isLetter 11 = .ok (.aload_n 0, 1) := by decide +kernel
theorem dX6_isLetter_12 : decode cX6_isLetter 12 = .ok (.getfield 9, 3) := by decide +kernel
theorem dX6_isLetter_15 : decode cX6_isLetter 15 = .ok (.iload_n 1, 1) := by decide +kernel
theorem dX6_isLetter_16 : decode cX6_isLetter 16 = .ok (.baload, 1) := by decide +kernel
theorem dX6_isLetter_17 : decode cX6_isLetter 17 = .ok (.bipush 122, 2) := by decide +kernel
theorem dX6_isLetter_19 : decode cX6_isLetter 19 = .ok (.if_icmp .gt 7, 3) := by decide +kernel
theorem dX6_isLetter_22 : decode cX6_isLetter 22 = .ok (.iconst 1, 1) := by decide +kernel
theorem dX6_isLetter_23 : decode cX6_isLetter 23 = .ok (.goto 4, 3) := by decide +kernel
theorem dX6_isLetter_26 : decode cX6_isLetter 26 = .ok (.iconst 0, 1) := by decide +kernel
theorem dX6_isLetter_27 : decode cX6_isLetter 27 = .ok (.ireturn, 1) := by decide +kernel
theorem dX6_isDigit_0 : decode cX6_isDigit 0 = .ok (.aload_n 0, 1) := by decide +kernel
theorem dX6_isDigit_1 : decode cX6_isDigit 1 = .ok (.getfield 9, 3) := by decide +kernel
theorem dX6_isDigit_4 : decode cX6_isDigit 4 = .ok (.iload_n 1, 1) := by decide +kernel
theorem dX6_isDigit_5 : decode cX6_isDigit 5 = .ok (.baload, 1) := by decide +kernel
theorem dX6_isDigit_6 : decode cX6_isDigit 6 = .ok (.bipush 48, 2) := by decide +kernel
theorem dX6_isDigit_8 : decode cX6_isDigit 8 = .ok (.if_icmp .lt 18, 3) := by decide +kernel
theorem dX6_isDigit_11 : decode cX6_isDigit 11 = .ok (.aload_n 0, 1) := by decide +kernel
theorem dX6_isDigit_12 : decode cX6_isDigit 12 = .ok (.getfield 9, 3) := by decide +kernel
theorem dX6_isDigit_15 : decode cX6_isDigit 15 = .ok (.iload_n 1, 1) := by decide +kernel
theorem dX6_isDigit_16 : decode cX6_isDigit 16 = .ok (.baload, 1) := by decide +kernel
theorem dX6_isDigit_17 : decode cX6_isDigit 17 = .ok (.bipush 57, 2) := by decide +kernel
theorem dX6_isDigit_19 : decode cX6_isDigit 19 = .ok (.if_icmp .gt 7, 3) := by decide +kernel
theorem dX6_isDigit_22 : decode cX6_isDigit 22 = .ok (.iconst 1, 1) := by decide +kernel
theorem dX6_isDigit_23 : decode cX6_isDigit 23 = .ok (.goto 4, 3) := by decide +kernel
theorem dX6_isDigit_26 : decode cX6_isDigit 26 = .ok (.iconst 0, 1) := by decide +kernel
theorem dX6_isDigit_27 : decode cX6_isDigit 27 = .ok (.ireturn, 1) := by decide +kernel
theorem dX6_behindLetters_0 : decode cX6_behindLetters 0 = .ok (.iload_n 1, 1) := by decide +kernel
theorem dX6_behindLetters_1 : decode cX6_behindLetters 1 = .ok (.istore_n 3, 1) := by decide +kernel
theorem dX6_behindLetters_2 : decode cX6_behindLetters 2 = .ok (.iload_n 3, 1) := by decide +kernel
theorem dX6_behindLetters_3 : decode cX6_behindLetters 3 = .ok (.iload_n 2, 1) := by decide +kernel
theorem dX6_behindLetters_4 : decode cX6_behindLetters 4 = .ok (.if_icmp .ge 20, 3) := by decide +kernel
theorem dX6_behindLetters_7 : decode cX6_behindLetters 7 = .ok (.aload_n 0, 1) := by decide +kernel
theorem dX6_behindLetters_8 : decode cX6_behindLetters 8 = .ok (.iload_n 3, 1) := by decide +kernel
theorem dX6_behindLetters_9 : decode cX6_behindLetters 9 = .ok (.invokevirtual 19, 3) := by decide +kernel
theorem dX6_behindLetters_12 : decode cX6_behindLetters 12 = .ok (.ifCond .ne 6, 3) := by decide +kernel
theorem dX6_behindLetters_15 : decode cX6_behindLetters 15 = .ok (.goto 9, 3) := by decide +kernel
theorem dX6_behindLetters_18 : decode cX6_behindLetters 18 = .ok (.iinc 3 1, 3) := by decide +kernel
theorem dX6_behindLetters_21 : decode cX6_behindLetters 21 = .ok (.goto (-19), 3) := by decide +kernel
theorem dX6_behindLetters_24 : decode cX6_behindLetters 24 = .ok (.iload_n 3, 1) := by decide +kernel
theorem dX6_behindLetters_25 : decode cX6_behindLetters 25 = .ok (.ireturn, 1) := by decide +kernel
theorem dX6_behindBlanks_0 : decode cX6_behindBlanks 0 = .ok (.iload_n 1, 1) := by decide +kernel
theorem dX6_behindBlanks_1 : decode cX6_behindBlanks 1 = .ok (.istore_n 3, 1) := by decide +kernel
theorem dX6_behindBlanks_2 : decode cX6_behindBlanks 2 = .ok (.iload_n 3, 1) := by decide +kernel
theorem dX6_behindBlanks_3 : decode cX6_behindBlanks 3 = .ok (.iload_n 2, 1) := by decide +kernel
theorem dX6_behindBlanks_4 : decode cX6_behindBlanks 4 = .ok (.if_icmp .ge 23, 3) := by decide +kernel
theorem dX6_behindBlanks_7 : decode cX6_behindBlanks 7 = .ok (.aload_n 0, 1) := by decide +kernel
theorem dX6_behindBlanks_8 : decode cX6_behindBlanks 8 = .ok (.getfield 9, 3) := by decide +kernel
theorem dX6_behindBlanks_11 : decode cX6_behindBlanks 11 = .ok (.iload_n 3, 1) := by decide +kernel
theorem dX6_behindBlanks_12 : decode cX6_behindBlanks 12 = .ok (.baload, 1) := by decide +kernel
theorem dX6_behindBlanks_13 : decode cX6_behindBlanks 13 = .ok (.bipush 32, 2) := by decide +kernel
theorem dX6_behindBlanks_15 : decode cX6_behindBlanks 15 = .ok (.if_icmp .eq 6, 3) := by decide +kernel
theorem dX6_behindBlanks_18 : decode cX6_behindBlanks 18 = .ok (.goto 9, 3) := by decide +kernel
theorem dX6_behindBlanks_21 : decode cX6_behindBlanks 21 = .ok (.iinc 3 1, 3) := by decide +kernel
theorem dX6_behindBlanks_24 : decode cX6_behindBlanks 24 = .ok (.goto (-22), 3) := by decide +kernel
theorem dX6_behindBlanks_27 : decode cX6_behindBlanks 27 = .ok (.iload_n 3, 1) := by decide +kernel
theorem dX6_behindBlanks_28 : decode cX6_behindBlanks 28 = .ok (.ireturn, 1) := by decide +kernel
theorem dX6_wordNumber_0 : decode cX6_wordNumber 0 = .ok (.iload_n 2, 1) := by decide +kernel
theorem dX6_wordNumber_1 : decode cX6_wordNumber 1 = .ok (.iload_n 1, 1) := by decide +kernel
theorem dX6_wordNumber_2 : decode cX6_wordNumber 2 = .ok (.isub, 1) := by decide +kernel
theorem dX6_wordNumber_3 : decode cX6_wordNumber 3 = .ok (.bipush 6, 2) := by decide +kernel
theorem dX6_wordNumber_5 : decode cX6_wordNumber 5 = .ok (.if_icmp .le 5, 3) := by decide +kernel
theorem dX6_wordNumber_8 : decode cX6_wordNumber 8 = .ok (.iconst 0, 1) := by decide +kernel
theorem dX6_wordNumber_9 : decode cX6_wordNumber 9 = .ok (.ireturn, 1) := by decide +kernel
theorem dX6_wordNumber_10 : decode cX6_wordNumber 10 = .ok (.iconst 0, 1) := by decide +kernel
theorem dX6_wordNumber_11 : decode cX6_wordNumber 11 = .ok (.istore_n 3, 1) := by decide +kernel
theorem dX6_wordNumber_12 : decode cX6_wordNumber 12 = .ok (.iload_n 1, 1) := by decide +kernel
theorem dX6_wordNumber_13 : decode cX6_wordNumber 13 = .ok (.istore 4, 2) := by decide +kernel
theorem dX6_wordNumber_15 : decode cX6_wordNumber 15 = .ok (.iload 4, 2) := by decide +kernel
theorem dX6_wordNumber_17 : decode cX6_wordNumber 17 = .ok (.iload_n 2, 1) := by decide +kernel
theorem dX6_wordNumber_18 : decode cX6_wordNumber 18 = .ok (.if_icmp .ge 27, 3) := by decide +kernel
theorem dX6_wordNumber_21 : decode cX6_wordNumber 21 = .ok (.iload_n 3, 1) := by decide +kernel
theorem dX6_wordNumber_22 : decode cX6_wordNumber 22 = .ok (.bipush 27, 2) := by decide +kernel
theorem dX6_wordNumber_24 : decode cX6_wordNumber 24 = .ok (.imul, 1) := by decide +kernel
theorem dX6_wordNumber_25 : decode cX6_wordNumber 25 = .ok (.aload_n 0, 1) := by decide +kernel
theorem dX6_wordNumber_26 : decode cX6_wordNumber 26 = .ok (.getfield 9, 3) := by decide +kernel
theorem dX6_wordNumber_29 : decode cX6_wordNumber 29 = .ok (.iload 4, 2) := by decide +kernel
theorem dX6_wordNumber_31 : decode cX6_wordNumber 31 = .ok (.baload, 1) := by decide +kernel
theorem dX6_wordNumber_32 : decode cX6_wordNumber 32 = .ok (.bipush 97, 2) := by decide +kernel
theorem dX6_wordNumber_34 : decode cX6_wordNumber 34 = .ok (.isub, 1) := by decide +kernel
theorem dX6_wordNumber_35 : decode cX6_wordNumber 35 = .ok (.iconst 1, 1) := by decide +kernel
theorem dX6_wordNumber_36 : decode cX6_wordNumber 36 = .ok (.iadd, 1) := by decide +kernel
theorem dX6_wordNumber_37 : decode cX6_wordNumber 37 = .ok (.iadd, 1) := by decide +kernel
theorem dX6_wordNumber_38 : decode cX6_wordNumber 38 = .ok (.istore_n 3, 1) := by decide +kernel
theorem dX6_wordNumber_39 : decode cX6_wordNumber 39 = .ok (.iinc 4 1, 3) := by decide +kernel
theorem dX6_wordNumber_42 : decode cX6_wordNumber 42 = .ok (.goto (-27), 3) := by decide +kernel
theorem dX6_wordNumber_45 : decode cX6_wordNumber 45 = .ok (.iload_n 3, 1) := by decide +kernel
theorem dX6_wordNumber_46 : decode cX6_wordNumber 46 = .ok (.ireturn, 1) := by decide +kernel
theorem dX7_init_0 : decode cX7_init 0 = .ok (.aload_n 0, 1) := by decide +kernel
theorem dX7_init_1 : decode cX7_init 1 = .ok (.invokespecial 3, 3) := by decide +kernel
theorem dX7_init_4 : decode cX7_init 4 = .ok (.aload_n 0, 1) := by decide +kernel
theorem dX7_init_5 : decode cX7_init 5 = .ok (.bipush 8, 2) := by decide +kernel
theorem dX7_init_7 : decode cX7_init 7 = .ok (.newarray .int, 2) := by decide +kernel
theorem dX7_init_9 : decode cX7_init 9 = .ok (.putfield 9, 3) := by decide +kernel
theorem dX7_init_12 : decode cX7_init 12 = .ok (.aload_n 0, 1) := by decide +kernel
theorem dX7_init_13 : decode cX7_init 13 = .ok (.bipush 8, 2) := by decide +kernel
theorem dX7_init_15 : decode cX7_init 15 = .ok (.newarray .int, 2) := by decide +kernel
theorem dX7_init_17 : decode cX7_init 17 = .ok (.putfield 15, 3) := by decide +kernel
theorem dX7_init_20 : decode cX7_init 20 = .ok (.aload_n 0, 1) := by decide +kernel
theorem dX7_init_21 : decode cX7_init 21 = .ok (.bipush 24, 2) := by decide +kernel
theorem dX7_init_23 : decode cX7_init 23 = .ok (.newarray .int, 2) := by decide +kernel
theorem dX7_init_25 : decode cX7_init 25 = .ok (.putfield 18, 3) := by decide +kernel
theorem dX7_init_28 : decode cX7_init 28 = .ok (.aload_n 0, 1) := by decide +kernel
theorem dX7_init_29 : decode cX7_init 29 = .ok (.bipush 24, 2) := by decide +kernel
theorem dX7_init_31 : decode cX7_init 31 = .ok (.newarray .int, 2) := by decide +kernel
theorem dX7_init_33 : decode cX7_init 33 = .ok (.putfield 21, 3) := by decide +kernel
theorem dX7_init_36 : decode cX7_init 36 = .ok (.aload_n 0, 1) := by decide +kernel
theorem dX7_init_37 : decode cX7_init 37 = .ok (.bipush 24, 2) := by decide +kernel
theorem dX7_init_39 : decode cX7_init 39 = .ok (.newarray .int, 2) := by decide +kernel
theorem dX7_init_41 : decode cX7_init 41 = .ok (.putfield 24, 3) := by decide +kernel
theorem dX7_init_44 : decode cX7_init 44 = .ok (.aload_n 0, 1) := by decide +kernel
theorem dX7_init_45 : decode cX7_init 45 = .ok (.bipush 72, 2) := by decide +kernel
theorem dX7_init_47 : decode cX7_init 47 = .ok (.newarray .int, 2) := by decide +kernel
theorem dX7_init_49 : decode cX7_init 49 = .ok (.putfield 27, 3) := by decide +kernel
theorem dX7_init_52 : decode cX7_init 52 = .ok (.aload_n 0, 1) := by decide +kernel
theorem dX7_init_53 : decode cX7_init 53 = .ok (.bipush 24, 2) := by decide +kernel
theorem dX7_init_55 : decode cX7_init 55 = .ok (.newarray .int, 2) := by decide +kernel
theorem dX7_init_57 : decode cX7_init 57 = .ok (.putfield 30, 3) := by decide +kernel
theorem dX7_init_60 : decode cX7_init 60 = .ok (.aload_n 0, 1) := by decide +kernel
theorem dX7_init_61 : decode cX7_init 61 = .ok (.sipush 276, 3) := by decide +kernel
theorem dX7_init_64 : decode cX7_init 64 = .ok (.newarray .int, 2) := by decide +kernel
theorem dX7_init_66 : decode cX7_init 66 = .ok (.putfield 33, 3) := by decide +kernel
theorem dX7_init_69 : decode cX7_init 69 = .ok (.aload_n 0, 1) := by decide +kernel
theorem dX7_init_70 : decode cX7_init 70 = .ok (.sipush 276, 3) := by decide +kernel
theorem dX7_init_73 : decode cX7_init 73 = .ok (.newarray .int, 2) := by decide +kernel
theorem dX7_init_75 : decode cX7_init 75 = .ok (.putfield 36, 3) := by decide +kernel
theorem dX7_init_78 : decode cX7_init 78 = .ok (.return_, 1) := by decide +kernel
theorem dX7_clear_0 : decode cX7_clear 0 = .ok (.aload_n 0, 1) := by decide +kernel
theorem dX7_clear_1 : decode cX7_clear 1 = .ok (.iconst 0, 1) := by decide +kernel
theorem dX7_clear_2 : decode cX7_clear 2 = .ok (.putfield 39, 3) := by decide +kernel
theorem dX7_clear_5 : decode cX7_clear 5 = .ok (.aload_n 0, 1) := by decide +kernel
theorem dX7_clear_6 : decode cX7_clear 6 = .ok (.iconst 0, 1) := by decide +kernel
theorem dX7_clear_7 : decode cX7_clear 7 = .ok (.putfield 43, 3) := by decide +kernel
theorem dX7_clear_10 : decode cX7_clear 10 = .ok (.aload_n 0, 1) := by decide +kernel
theorem dX7_clear_11 : decode cX7_clear 11 = .ok (.iconst 0, 1) := by decide +kernel
theorem dX7_clear_12 : decode cX7_clear 12 = .ok (.putfield 46, 3) := by decide +kernel
theorem dX7_clear_15 : decode cX7_clear 15 = .ok (.return_, 1) := by decide +kernel
theorem dX7_addFunction_0 : decode cX7_addFunction 0 = .ok (.aload_n 0, 1) := by decide +kernel
theorem dX7_addFunction_1 : decode cX7_addFunction 1 = .ok (.getfield 39, 3) := by decide +kernel
theorem dX7_addFunction_4 : decode cX7_addFunction 4 = .ok (.bipush 8, 2) := by decide +kernel
theorem dX7_addFunction_6 : decode cX7_addFunction 6 = .ok (.if_icmp .ge 33, 3) := by decide +kernel
theorem dX7_addFunction_9 : decode cX7_addFunction 9 = .ok (.aload_n 0, 1) := by decide +kernel
theorem dX7_addFunction_10 : decode cX7_addFunction 10 = .ok (.getfield 15, 3) := by decide +kernel
theorem dX7_addFunction_13 : decode cX7_addFunction 13 = .ok (.aload_n 0, 1) := by decide +kernel
theorem dX7_addFunction_14 : decode cX7_addFunction 14 = .ok (.getfield 39, 3) := by decide +kernel
theorem dX7_addFunction_17 : decode cX7_addFunction 17 = .ok (.iload_n 1, 1) := by decide +kernel
theorem dX7_addFunction_18 : decode cX7_addFunction 18 = .ok (.iastore, 1) := by decide +kernel
theorem dX7_addFunction_19 : decode cX7_addFunction 19 = .ok (.aload_n 0, 1) := by decide +kernel
theorem dX7_addFunction_20 : decode cX7_addFunction 20 = .ok (.getfield 9, 3) := by decide +kernel
theorem dX7_addFunction_23 : decode cX7_addFunction 23 = .ok (.aload_n 0, 1) := by decide +kernel
theorem dX7_addFunction_24 : decode cX7_addFunction 24 = .ok (.getfield 39, 3) := by decide +kernel
theorem dX7_addFunction_27 : decode cX7_addFunction 27 = .ok (.iload_n 2, 1) := by decide +kernel
theorem dX7_addFunction_28 : decode cX7_addFunction 28 = .ok (.iastore, 1) := by decide +kernel
theorem dX7_addFunction_29 : decode cX7_addFunction 29 = .ok (.aload_n 0, 1) := by decide +kernel
theorem dX7_addFunction_30 : decode cX7_addFunction 30 = .ok (.dup, 1) := by decide +kernel
theorem dX7_addFunction_31 : decode cX7_addFunction 31 = .ok (.getfield 39, 3) := by decide +kernel
theorem dX7_addFunction_34 : decode cX7_addFunction 34 = .ok (.iconst 1, 1) := by decide +kernel
theorem dX7_addFunction_35 : decode cX7_addFunction 35 = .ok (.iadd, 1) := by decide +kernel
theorem dX7_addFunction_36 : decode cX7_addFunction 36 = .ok (.putfield 39, 3) := by decide +kernel
theorem dX7_addFunction_39 : decode cX7_addFunction 39 = .ok (.return_, 1) := by decide +kernel
theorem dX7_addTerm_0 : decode cX7_addTerm 0 = .ok (.aload_n 0, 1) := by decide +kernel
theorem dX7_addTerm_1 : decode cX7_addTerm 1 = .ok (.getfield 43, 3) := by decide +kernel
theorem dX7_addTerm_4 : decode cX7_addTerm 4 = .ok (.bipush 24, 2) := by decide +kernel
theorem dX7_addTerm_6 : decode cX7_addTerm 6 = .ok (.if_icmp .lt 4, 3) := by decide +kernel
theorem dX7_addTerm_9 : decode cX7_addTerm 9 = .ok (.return_, 1) := by decide +kernel
theorem dX7_addTerm_10 : decode cX7_addTerm 10 = .ok (.aload_n 0, 1) := by decide +kernel
theorem dX7_addTerm_11 : decode cX7_addTerm 11 = .ok (.getfield 43, 3) := by decide +kernel
theorem dX7_addTerm_14 : decode cX7_addTerm 14 = .ok (.iconst 3, 1) := by decide +kernel
theorem dX7_addTerm_15 : decode cX7_addTerm 15 = .ok (.imul, 1) := by decide +kernel
theorem dX7_addTerm_16 : decode cX7_addTerm 16 = .ok (.istore 6, 2) := by decide +kernel
theorem dX7_addTerm_18 : decode cX7_addTerm 18 = .ok (.aload_n 0, 1) := by decide +kernel
theorem dX7_addTerm_19 : decode cX7_addTerm 19 = .ok (.getfield 27, 3) := by decide +kernel
theorem dX7_addTerm_22 : decode cX7_addTerm 22 = .ok (.iload 6, 2) := by decide +kernel
theorem dX7_addTerm_24 : decode cX7_addTerm 24 = .ok (.iload_n 3, 1) := by decide +kernel
theorem dX7_addTerm_25 : decode cX7_addTerm 25 = .ok (.iastore, 1) := by decide +kernel
theorem dX7_addTerm_26 : decode cX7_addTerm 26 = .ok (.aload_n 0, 1) := by decide +kernel
theorem dX7_addTerm_27 : decode cX7_addTerm 27 = .ok (.getfield 27, 3) := by decide +kernel
theorem dX7_addTerm_30 : decode cX7_addTerm 30 = .ok (.iload 6, 2) := by decide +kernel
theorem dX7_addTerm_32 : decode cX7_addTerm 32 = .ok (.iconst 1, 1) := by decide +kernel
theorem dX7_addTerm_33 : decode cX7_addTerm 33 = .ok (.iadd, 1) := by decide +kernel
theorem dX7_addTerm_34 : decode cX7_addTerm 34 = .ok (.iload 4, 2) := by decide +kernel
theorem dX7_addTerm_36 : decode cX7_addTerm 36 = .ok (.iastore, 1) := by decide +kernel
theorem dX7_addTerm_37 : decode cX7_addTerm 37 = .ok (.aload_n 0, 1) := by decide +kernel
theorem dX7_addTerm_38 : decode cX7_addTerm 38 = .ok (.getfield 27, 3) := by decide +kernel
theorem dX7_addTerm_41 : decode cX7_addTerm 41 = .ok (.iload 6, 2) := by decide +kernel
theorem dX7_addTerm_43 : decode cX7_addTerm 43 = .ok (.iconst 2, 1) := by decide +kernel
theorem dX7_addTerm_44 : decode cX7_addTerm 44 = .ok (.iadd, 1) := by decide +kernel
theorem dX7_addTerm_45 : decode cX7_addTerm 45 = .ok (.iload 5, 2) := by decide +kernel
theorem dX7_addTerm_47 : decode cX7_addTerm 47 = .ok (.iastore, 1) := by decide +kernel
theorem dX7_addTerm_48 : decode cX7_addTerm 48 = .ok (.aload_n 0, 1) := by decide +kernel
theorem dX7_addTerm_49 : decode cX7_addTerm 49 = .ok (.getfield 21, 3) := by decide +kernel
theorem dX7_addTerm_52 : decode cX7_addTerm 52 = .ok (.aload_n 0, 1) := by decide +kernel
theorem dX7_addTerm_53 : decode cX7_addTerm 53 = .ok (.getfield 43, 3) := by decide +kernel
theorem dX7_addTerm_56 : decode cX7_addTerm 56 = .ok (.iload_n 1, 1) := by decide +kernel
theorem dX7_addTerm_57 : decode cX7_addTerm 57 = .ok (.iastore, 1) := by decide +kernel
theorem dX7_addTerm_58 : decode cX7_addTerm 58 = .ok (.aload_n 0, 1) := by decide +kernel
theorem dX7_addTerm_59 : decode cX7_addTerm 59 = .ok (.getfield 18, 3) := by decide +kernel
theorem dX7_addTerm_62 : decode cX7_addTerm 62 = .ok (.aload_n 0, 1) := by decide +kernel
theorem dX7_addTerm_63 : decode cX7_addTerm 63 = .ok (.getfield 43, 3) := by decide +kernel
theorem dX7_addTerm_66 : decode cX7_addTerm 66 = .ok (.iload_n 2, 1) := by decide +kernel
theorem dX7_addTerm_67 : decode cX7_addTerm 67 = .ok (.iastore, 1) := by decide +kernel
theorem dX7_addTerm_68 : decode cX7_addTerm 68 = .ok (.iconst 0, 1) := by decide +kernel
theorem dX7_addTerm_69 : decode cX7_addTerm 69 = .ok (.istore 7, 2) := by decide +kernel
theorem dX7_addTerm_71 : decode cX7_addTerm 71 = .ok (.iconst 0, 1) := by decide +kernel
theorem dX7_addTerm_72 : decode cX7_addTerm 72 = .ok (.istore 8, 2) := by decide +kernel
theorem dX7_addTerm_74 : decode cX7_addTerm 74 = .ok (.iload 8, 2) := by decide +kernel
theorem dX7_addTerm_76 : decode cX7_addTerm 76 = .ok (.aload_n 0, 1) := by decide +kernel
theorem dX7_addTerm_77 : decode cX7_addTerm 77 = .ok (.getfield 9, 3) := by decide +kernel
theorem dX7_addTerm_80 : decode cX7_addTerm 80 = .ok (.iload_n 2, 1) := by decide +kernel
theorem dX7_addTerm_81 : decode cX7_addTerm 81 = .ok (.iaload, 1) := by decide +kernel
theorem dX7_addTerm_82 : decode cX7_addTerm 82 = .ok (.if_icmp .ge 33, 3) := by decide +kernel
theorem dX7_addTerm_85 : decode cX7_addTerm 85 = .ok (.iload 7, 2) := by decide +kernel
theorem dX7_addTerm_87 : decode cX7_addTerm 87 = .ok (.iconst 1, 1) := by decide +kernel
theorem dX7_addTerm_88 : decode cX7_addTerm 88 = .ok (.aload_n 0, 1) := by decide +kernel
theorem dX7_addTerm_89 : decode cX7_addTerm 89 = .ok (.getfield 24, 3) := by decide +kernel
theorem dX7_addTerm_92 : decode cX7_addTerm 92 = .ok (.aload_n 0, 1) := by decide +kernel
theorem dX7_addTerm_93 : decode cX7_addTerm 93 = .ok (.getfield 27, 3) := by decide +kernel
theorem dX7_addTerm_96 : decode cX7_addTerm 96 = .ok (.iload 6, 2) := by decide +kernel
theorem dX7_addTerm_98 : decode cX7_addTerm 98 = .ok (.iload 8, 2) := by decide +kernel
theorem dX7_addTerm_100 : decode cX7_addTerm 100 = .ok (.iadd, 1) := by decide +kernel
theorem dX7_addTerm_101 : decode cX7_addTerm 101 = .ok (.iaload, 1) := by decide +kernel
theorem dX7_addTerm_102 : decode cX7_addTerm 102 = .ok (.iaload, 1) := by decide +kernel
theorem dX7_addTerm_103 : decode cX7_addTerm 103 = .ok (.iadd, 1) := by decide +kernel
theorem dX7_addTerm_104 : decode cX7_addTerm 104 = .ok (.invokestatic 49, 3) := by decide +kernel
theorem dX7_addTerm_107 : decode cX7_addTerm 107 = .ok (.istore 7, 2) := by decide +kernel
theorem dX7_addTerm_109 : decode cX7_addTerm 109 = .ok (.iinc 8 1, 3) := by decide +kernel
theorem dX7_addTerm_112 : decode cX7_addTerm 112 = .ok (.goto (-38), 3) := by decide +kernel
theorem dX7_addTerm_115 : decode cX7_addTerm 115 = .ok (.aload_n 0, 1) := by decide +kernel
theorem dX7_addTerm_116 : decode cX7_addTerm 116 = .ok (.getfield 24, 3) := by decide +kernel
theorem dX7_addTerm_119 : decode cX7_addTerm 119 = .ok (.aload_n 0, 1) := by decide +kernel
theorem dX7_addTerm_120 : decode cX7_addTerm 120 = .ok (.getfield 43, 3) := by decide +kernel
theorem dX7_addTerm_123 : decode cX7_addTerm 123 = .ok (.iload 7, 2) := by decide +kernel
theorem dX7_addTerm_125 : decode cX7_addTerm 125 = .ok (.iastore, 1) := by decide +kernel
theorem dX7_addTerm_126 : decode cX7_addTerm 126 = .ok (.aload_n 0, 1) := by decide +kernel
theorem dX7_addTerm_127 : decode cX7_addTerm 127 = .ok (.dup, 1) := by decide +kernel
theorem dX7_addTerm_128 : decode cX7_addTerm 128 = .ok (.getfield 43, 3) := by decide +kernel
theorem dX7_addTerm_131 : decode cX7_addTerm 131 = .ok (.iconst 1, 1) := by decide +kernel
theorem dX7_addTerm_132 : decode cX7_addTerm 132 = .ok (.iadd, 1) := by decide +kernel
theorem dX7_addTerm_133 : decode cX7_addTerm 133 = .ok (.putfield 43, 3) := by decide +kernel
theorem dX7_addTerm_136 : decode cX7_addTerm 136 = .ok (.aload_n 0, 1) := by decide +kernel
theorem dX7_addTerm_137 : decode cX7_addTerm 137 = .ok (.invokevirtual 55, 3) := by decide +kernel
theorem dX7_addTerm_140 : decode cX7_addTerm 140 = .ok (.return_, 1) := by decide +kernel
theorem dX7_dropTerm_0 : decode cX7_dropTerm 0 = .ok (.aload_n 0, 1) := by decide +kernel
theorem dX7_dropTerm_1 : decode cX7_dropTerm 1 = .ok (.getfield 43, 3) := by decide +kernel
theorem dX7_dropTerm_4 : decode cX7_dropTerm 4 = .ok (.ifCond .le 17, 3) := by decide +kernel
theorem dX7_dropTerm_7 : decode cX7_dropTerm 7 = .ok (.aload_n 0, 1) := by decide +kernel
theorem dX7_dropTerm_8 : decode cX7_dropTerm 8 = .ok (.dup, 1) := by decide +kernel
theorem dX7_dropTerm_9 : decode cX7_dropTerm 9 = .ok (.getfield 43, 3) := by decide +kernel
theorem dX7_dropTerm_12 : decode cX7_dropTerm 12 = .ok (.iconst 1, 1) := by decide +kernel
theorem dX7_dropTerm_13 : decode cX7_dropTerm 13 = .ok (.isub, 1) := by decide +kernel
theorem dX7_dropTerm_14 : decode cX7_dropTerm 14 = .ok (.putfield 43, 3) := by decide +kernel
theorem dX7_dropTerm_17 : decode cX7_dropTerm 17 = .ok (.aload_n 0, 1) := by decide +kernel
theorem dX7_dropTerm_18 : decode cX7_dropTerm 18 = .ok (.invokevirtual 55, 3) := by decide +kernel
theorem dX7_dropTerm_21 : decode cX7_dropTerm 21 = .ok (.return_, 1) := by decide +kernel
theorem dX7_listPairs_0 : decode cX7_listPairs 0 = .ok (.aload_n 0, 1) := by decide +kernel
theorem dX7_listPairs_1 : decode cX7_listPairs 1 = .ok (.iconst 0, 1) := by decide +kernel
theorem dX7_listPairs_2 : decode cX7_listPairs 2 = .ok (.putfield 46, 3) := by decide +kernel
theorem dX7_listPairs_5 : decode cX7_listPairs 5 = .ok (.iconst 0, 1) := by decide +kernel
theorem dX7_listPairs_6 : decode cX7_listPairs 6 = .ok (.istore_n 1, 1) := by decide +kernel
theorem dX7_listPairs_7 : decode cX7_listPairs 7 = .ok (.iload_n 1, 1) := by decide +kernel
theorem dX7_listPairs_8 : decode cX7_listPairs 8 = .ok (.aload_n 0, 1) := by decide +kernel
theorem dX7_listPairs_9 : decode cX7_listPairs 9 = .ok (.getfield 43, 3) := by decide +kernel
theorem dX7_listPairs_12 : decode cX7_listPairs 12 = .ok (.if_icmp .ge 72, 3) := by decide +kernel
theorem dX7_listPairs_15 : decode cX7_listPairs 15 = .ok (.iload_n 1, 1) := by decide +kernel
theorem dX7_listPairs_16 : decode cX7_listPairs 16 = .ok (.iconst 1, 1) := by decide +kernel
theorem dX7_listPairs_17 : decode cX7_listPairs 17 = .ok (.iadd, 1) := by decide +kernel
theorem dX7_listPairs_18 : decode cX7_listPairs 18 = .ok (.istore_n 2, 1) := by decide +kernel
theorem dX7_listPairs_19 : decode cX7_listPairs 19 = .ok (.iload_n 2, 1) := by decide +kernel
theorem dX7_listPairs_20 : decode cX7_listPairs 20 = .ok (.aload_n 0, 1) := by decide +kernel
theorem dX7_listPairs_21 : decode cX7_listPairs 21 = .ok (.getfield 43, 3) := by decide +kernel
theorem dX7_listPairs_24 : decode cX7_listPairs 24 = .ok (.if_icmp .ge 54, 3) := by decide +kernel
theorem dX7_listPairs_27 : decode cX7_listPairs 27 = .ok (.aload_n 0, 1) := by decide +kernel
theorem dX7_listPairs_28 : decode cX7_listPairs 28 = .ok (.getfield 18, 3) := by decide +kernel
theorem dX7_listPairs_31 : decode cX7_listPairs 31 = .ok (.iload_n 1, 1) := by decide +kernel
theorem dX7_listPairs_32 : decode cX7_listPairs 32 = .ok (.iaload, 1) := by decide +kernel
theorem dX7_listPairs_33 : decode cX7_listPairs 33 = .ok (.aload_n 0, 1) := by decide +kernel
theorem dX7_listPairs_34 : decode cX7_listPairs 34 = .ok (.getfield 18, 3) := by decide +kernel
theorem dX7_listPairs_37 : decode cX7_listPairs 37 = .ok (.iload_n 2, 1) := by decide +kernel
theorem dX7_listPairs_38 : decode cX7_listPairs 38 = .ok (.iaload, 1) := by decide +kernel
theorem dX7_listPairs_39 : decode cX7_listPairs 39 = .ok (.if_icmp .ne 33, 3) := by decide +kernel
theorem dX7_listPairs_42 : decode cX7_listPairs 42 = .ok (.aload_n 0, 1) := by decide +kernel
theorem dX7_listPairs_43 : decode cX7_listPairs 43 = .ok (.getfield 33, 3) := by decide +kernel
theorem dX7_listPairs_46 : decode cX7_listPairs 46 = .ok (.aload_n 0, 1) := by decide +kernel
theorem dX7_listPairs_47 : decode cX7_listPairs 47 = .ok (.getfield 46, 3) := by decide +kernel
theorem dX7_listPairs_50 : decode cX7_listPairs 50 = .ok (.iload_n 1, 1) := by decide +kernel
theorem dX7_listPairs_51 : decode cX7_listPairs 51 = .ok (.iastore, 1) := by decide +kernel
theorem dX7_listPairs_52 : decode cX7_listPairs 52 = .ok (.aload_n 0, 1) := by decide +kernel
theorem dX7_listPairs_53 : decode cX7_listPairs 53 = .ok (.getfield 36, 3) := by decide +kernel
theorem dX7_listPairs_56 : decode cX7_listPairs 56 = .ok (.aload_n 0, 1) := by decide +kernel
theorem dX7_listPairs_57 : decode cX7_listPairs 57 = .ok (.getfield 46, 3) := by decide +kernel
theorem dX7_listPairs_60 : decode cX7_listPairs 60 = .ok (.iload_n 2, 1) := by decide +kernel
theorem dX7_listPairs_61 : decode cX7_listPairs 61 = .ok (.iastore, 1) := by decide +kernel
theorem dX7_listPairs_62 : decode cX7_listPairs 62 = .ok (.aload_n 0, 1) := by decide +kernel
theorem dX7_listPairs_63 : decode cX7_listPairs 63 = .ok (.dup, 1) := by decide +kernel
theorem dX7_listPairs_64 : decode cX7_listPairs 64 = .ok (.getfield 46, 3) := by decide +kernel
theorem dX7_listPairs_67 : decode cX7_listPairs 67 = .ok (.iconst 1, 1) := by decide +kernel
theorem dX7_listPairs_68 : decode cX7_listPairs 68 = .ok (.iadd, 1) := by decide +kernel
theorem dX7_listPairs_69 : decode cX7_listPairs 69 = .ok (.putfield 46, 3) := by decide +kernel
theorem dX7_listPairs_72 : decode cX7_listPairs 72 = .ok (.iinc 2 1, 3) := by decide +kernel
theorem dX7_listPairs_75 : decode cX7_listPairs 75 = .ok (.goto (-56), 3) := by decide +kernel
theorem dX7_listPairs_78 : decode cX7_listPairs 78 = .ok (.iinc 1 1, 3) := by decide +kernel
theorem dX7_listPairs_81 : decode cX7_listPairs 81 = .ok (.goto (-74), 3) := by decide +kernel
theorem dX7_listPairs_84 : decode cX7_listPairs 84 = .ok (.return_, 1) := by decide +kernel
theorem dX7_functionNamed_0 : decode cX7_functionNamed 0 = .ok (.iconst 0, 1) := by decide +kernel
theorem dX7_functionNamed_1 : decode cX7_functionNamed 1 = .ok (.istore_n 2, 1) := by decide +kernel
theorem dX7_functionNamed_2 : decode cX7_functionNamed 2 = .ok (.iload_n 2, 1) := by decide +kernel
theorem dX7_functionNamed_3 : decode cX7_functionNamed 3 = .ok (.aload_n 0, 1) := by decide +kernel
theorem dX7_functionNamed_4 : decode cX7_functionNamed 4 = .ok (.getfield 39, 3) := by decide +kernel
theorem dX7_functionNamed_7 : decode cX7_functionNamed 7 = .ok (.if_icmp .ge 21, 3) := by decide +kernel
theorem dX7_functionNamed_10 : decode cX7_functionNamed 10 = .ok (.aload_n 0, 1) := by decide +kernel
theorem dX7_functionNamed_11 : decode cX7_functionNamed 11 = .ok (.getfield 15, 3) := by decide +kernel
theorem dX7_functionNamed_14 : decode cX7_functionNamed 14 = .ok (.iload_n 2, 1) := by decide +kernel
theorem dX7_functionNamed_15 : decode cX7_functionNamed 15 = .ok (.iaload, 1) := by decide +kernel
theorem dX7_functionNamed_16 : decode cX7_functionNamed 16 = .ok (.iload_n 1, 1) := by decide +kernel
theorem dX7_functionNamed_17 : decode cX7_functionNamed 17 = .ok (.if_icmp .ne 5, 3) := by decide +kernel
theorem dX7_functionNamed_20 : decode cX7_functionNamed 20 = .ok (.iload_n 2, 1) := by decide +kernel
theorem dX7_functionNamed_21 : decode cX7_functionNamed 21 = .ok (.ireturn, 1) := by decide +kernel
theorem dX7_functionNamed_22 : decode cX7_functionNamed 22 = .ok (.iinc 2 1, 3) := by decide +kernel
theorem dX7_functionNamed_25 : decode cX7_functionNamed 25 = .ok (.goto (-23), 3) := by decide +kernel
theorem dX7_functionNamed_28 : decode cX7_functionNamed 28 = .ok (.iconst (-1), 1) := by decide +kernel
theorem dX7_functionNamed_29 : decode cX7_functionNamed 29 = .ok (.ireturn, 1) := by decide +kernel
theorem dX7_termNamed_0 : decode cX7_termNamed 0 = .ok (.iconst 0, 1) := by decide +kernel
theorem dX7_termNamed_1 : decode cX7_termNamed 1 = .ok (.istore_n 2, 1) := by decide +kernel
theorem dX7_termNamed_2 : decode cX7_termNamed 2 = .ok (.iload_n 2, 1) := by decide +kernel
theorem dX7_termNamed_3 : decode cX7_termNamed 3 = .ok (.aload_n 0, 1) := by decide +kernel
theorem dX7_termNamed_4 : decode cX7_termNamed 4 = .ok (.getfield 43, 3) := by decide +kernel
theorem dX7_termNamed_7 : decode cX7_termNamed 7 = .ok (.if_icmp .ge 25, 3) := by decide +kernel
theorem dX7_termNamed_10 : decode cX7_termNamed 10 = .ok (.iload_n 1, 1) := by decide +kernel
theorem dX7_termNamed_11 : decode cX7_termNamed 11 = .ok (.ifCond .le 21, 3) := by decide +kernel
theorem dX7_termNamed_14 : decode cX7_termNamed 14 = .ok (.aload_n 0, 1) := by decide +kernel
theorem dX7_termNamed_15 : decode cX7_termNamed 15 = .ok (.getfield 21, 3) := by decide +kernel
theorem dX7_termNamed_18 : decode cX7_termNamed 18 = .ok (.iload_n 2, 1) := by decide +kernel
theorem dX7_termNamed_19 : decode cX7_termNamed 19 = .ok (.iaload, 1) := by decide +kernel
theorem dX7_termNamed_20 : decode cX7_termNamed 20 = .ok (.iload_n 1, 1) := by decide +kernel
theorem dX7_termNamed_21 : decode cX7_termNamed 21 = .ok (.if_icmp .ne 5, 3) := by decide +kernel
theorem dX7_termNamed_24 : decode cX7_termNamed 24 = .ok (.iload_n 2, 1) := by decide +kernel
theorem dX7_termNamed_25 : decode cX7_termNamed 25 = .ok (.ireturn, 1) := by decide +kernel
theorem dX7_termNamed_26 : decode cX7_termNamed 26 = .ok (.iinc 2 1, 3) := by decide +kernel
theorem dX7_termNamed_29 : decode cX7_termNamed 29 = .ok (.goto (-27), 3) := by decide +kernel
theorem dX7_termNamed_32 : decode cX7_termNamed 32 = .ok (.iconst (-1), 1) := by decide +kernel
theorem dX7_termNamed_33 : decode cX7_termNamed 33 = .ok (.ireturn, 1) := by decide +kernel
theorem dX7_partsOf_0 : decode cX7_partsOf 0 = .ok (.aload_n 0, 1) := by decide +kernel
theorem dX7_partsOf_1 : decode cX7_partsOf 1 = .ok (.getfield 9, 3) := by decide +kernel
theorem dX7_partsOf_4 : decode cX7_partsOf 4 = .ok (.aload_n 0, 1) := by decide +kernel
theorem dX7_partsOf_5 : decode cX7_partsOf 5 = .ok (.getfield 18, 3) := by decide +kernel
theorem dX7_partsOf_8 : decode cX7_partsOf 8 = .ok (.iload_n 1, 1) := by decide +kernel
theorem dX7_partsOf_9 : decode cX7_partsOf 9 = .ok (.iaload, 1) := by decide +kernel
theorem dX7_partsOf_10 : decode cX7_partsOf 10 = .ok (.iaload, 1) := by decide +kernel
theorem dX7_partsOf_11 : decode cX7_partsOf 11 = .ok (.ireturn, 1) := by decide +kernel
theorem dX7_partAt_0 : decode cX7_partAt 0 = .ok (.aload_n 0, 1) := by decide +kernel
theorem dX7_partAt_1 : decode cX7_partAt 1 = .ok (.getfield 27, 3) := by decide +kernel
theorem dX7_partAt_4 : decode cX7_partAt 4 = .ok (.iload_n 1, 1) := by decide +kernel
theorem dX7_partAt_5 : decode cX7_partAt 5 = .ok (.iconst 3, 1) := by decide +kernel
theorem dX7_partAt_6 : decode cX7_partAt 6 = .ok (.imul, 1) := by decide +kernel
theorem dX7_partAt_7 : decode cX7_partAt 7 = .ok (.iload_n 2, 1) := by decide +kernel
theorem dX7_partAt_8 : decode cX7_partAt 8 = .ok (.iadd, 1) := by decide +kernel
theorem dX7_partAt_9 : decode cX7_partAt 9 = .ok (.iaload, 1) := by decide +kernel
theorem dX7_partAt_10 : decode cX7_partAt 10 = .ok (.ireturn, 1) := by decide +kernel
theorem dX7_termsAbove_0 : decode cX7_termsAbove 0 = .ok (.iconst 0, 1) := by decide +kernel
theorem dX7_termsAbove_1 : decode cX7_termsAbove 1 = .ok (.istore_n 3, 1) := by decide +kernel
theorem dX7_termsAbove_2 : decode cX7_termsAbove 2 = .ok (.iconst 0, 1) := by decide +kernel
theorem dX7_termsAbove_3 : decode cX7_termsAbove 3 = .ok (.istore 4, 2) := by decide +kernel
theorem dX7_termsAbove_5 : decode cX7_termsAbove 5 = .ok (.iload 4, 2) := by decide +kernel
theorem dX7_termsAbove_7 : decode cX7_termsAbove 7 = .ok (.aload_n 0, 1) := by decide +kernel
theorem dX7_termsAbove_8 : decode cX7_termsAbove 8 = .ok (.getfield 43, 3) := by decide +kernel
theorem dX7_termsAbove_11 : decode cX7_termsAbove 11 = .ok (.if_icmp .ge 31, 3) := by decide +kernel
theorem dX7_termsAbove_14 : decode cX7_termsAbove 14 = .ok (.aload_n 0, 1) := by decide +kernel
theorem dX7_termsAbove_15 : decode cX7_termsAbove 15 = .ok (.iload 4, 2) := by decide +kernel
theorem dX7_termsAbove_17 : decode cX7_termsAbove 17 = .ok (.aload_n 2, 1) := by decide +kernel
theorem dX7_termsAbove_18 : decode cX7_termsAbove 18 = .ok (.invokevirtual 69, 3) := by decide +kernel
theorem dX7_termsAbove_21 : decode cX7_termsAbove 21 = .ok (.aload_n 2, 1) := by decide +kernel
theorem dX7_termsAbove_22 : decode cX7_termsAbove 22 = .ok (.getfield 58, 3) := by decide +kernel
theorem dX7_termsAbove_25 : decode cX7_termsAbove 25 = .ok (.iload_n 1, 1) := by decide +kernel
theorem dX7_termsAbove_26 : decode cX7_termsAbove 26 = .ok (.iaload, 1) := by decide +kernel
theorem dX7_termsAbove_27 : decode cX7_termsAbove 27 = .ok (.iushr, 1) := by decide +kernel
theorem dX7_termsAbove_28 : decode cX7_termsAbove 28 = .ok (.iconst 1, 1) := by decide +kernel
theorem dX7_termsAbove_29 : decode cX7_termsAbove 29 = .ok (.iand, 1) := by decide +kernel
theorem dX7_termsAbove_30 : decode cX7_termsAbove 30 = .ok (.ifCond .eq 6, 3) := by decide +kernel
theorem dX7_termsAbove_33 : decode cX7_termsAbove 33 = .ok (.iinc 3 1, 3) := by decide +kernel
theorem dX7_termsAbove_36 : decode cX7_termsAbove 36 = .ok (.iinc 4 1, 3) := by decide +kernel
theorem dX7_termsAbove_39 : decode cX7_termsAbove 39 = .ok (.goto (-34), 3) := by decide +kernel
theorem dX7_termsAbove_42 : decode cX7_termsAbove 42 = .ok (.iload_n 3, 1) := by decide +kernel
theorem dX7_termsAbove_43 : decode cX7_termsAbove 43 = .ok (.ireturn, 1) := by decide +kernel
theorem dX7_partLeads_0 : decode cX7_partLeads 0 = .ok (.iconst 0, 1) := by decide +kernel
theorem dX7_partLeads_1 : decode cX7_partLeads 1 = .ok (.istore_n 3, 1) := by decide +kernel
theorem dX7_partLeads_2 : decode cX7_partLeads 2 = .ok (.iconst 0, 1) := by decide +kernel
theorem dX7_partLeads_3 : decode cX7_partLeads 3 = .ok (.istore 4, 2) := by decide +kernel
theorem dX7_partLeads_5 : decode cX7_partLeads 5 = .ok (.iload 4, 2) := by decide +kernel
theorem dX7_partLeads_7 : decode cX7_partLeads 7 = .ok (.aload_n 0, 1) := by decide +kernel
theorem dX7_partLeads_8 : decode cX7_partLeads 8 = .ok (.iload_n 1, 1) := by decide +kernel
theorem dX7_partLeads_9 : decode cX7_partLeads 9 = .ok (.invokevirtual 73, 3) := by decide +kernel
theorem dX7_partLeads_12 : decode cX7_partLeads 12 = .ok (.if_icmp .ge 26, 3) := by decide +kernel
theorem dX7_partLeads_15 : decode cX7_partLeads 15 = .ok (.iload_n 3, 1) := by decide +kernel
theorem dX7_partLeads_16 : decode cX7_partLeads 16 = .ok (.iconst 1, 1) := by decide +kernel
theorem dX7_partLeads_17 : decode cX7_partLeads 17 = .ok (.aload_n 2, 1) := by decide +kernel
theorem dX7_partLeads_18 : decode cX7_partLeads 18 = .ok (.getfield 58, 3) := by decide +kernel
theorem dX7_partLeads_21 : decode cX7_partLeads 21 = .ok (.aload_n 0, 1) := by decide +kernel
theorem dX7_partLeads_22 : decode cX7_partLeads 22 = .ok (.iload_n 1, 1) := by decide +kernel
theorem dX7_partLeads_23 : decode cX7_partLeads 23 = .ok (.iload 4, 2) := by decide +kernel
theorem dX7_partLeads_25 : decode cX7_partLeads 25 = .ok (.invokevirtual 76, 3) := by decide +kernel
theorem dX7_partLeads_28 : decode cX7_partLeads 28 = .ok (.iaload, 1) := by decide +kernel
theorem dX7_partLeads_29 : decode cX7_partLeads 29 = .ok (.ishl, 1) := by decide +kernel
theorem dX7_partLeads_30 : decode cX7_partLeads 30 = .ok (.ior, 1) := by decide +kernel
theorem dX7_partLeads_31 : decode cX7_partLeads 31 = .ok (.istore_n 3, 1) := by decide +kernel
theorem dX7_partLeads_32 : decode cX7_partLeads 32 = .ok (.iinc 4 1, 3) := by decide +kernel
theorem dX7_partLeads_35 : decode cX7_partLeads 35 = .ok (.goto (-30), 3) := by decide +kernel
theorem dX7_partLeads_38 : decode cX7_partLeads 38 = .ok (.iload_n 3, 1) := by decide +kernel
theorem dX7_partLeads_39 : decode cX7_partLeads 39 = .ok (.ireturn, 1) := by decide +kernel
theorem dX7_alike_0 : decode cX7_alike 0 = .ok (.aload_n 0, 1) := by decide +kernel
theorem dX7_alike_1 : decode cX7_alike 1 = .ok (.getfield 33, 3) := by decide +kernel
theorem dX7_alike_4 : decode cX7_alike 4 = .ok (.iload_n 1, 1) := by decide +kernel
theorem dX7_alike_5 : decode cX7_alike 5 = .ok (.iaload, 1) := by decide +kernel
theorem dX7_alike_6 : decode cX7_alike 6 = .ok (.iconst 3, 1) := by decide +kernel
theorem dX7_alike_7 : decode cX7_alike 7 = .ok (.imul, 1) := by decide +kernel
theorem dX7_alike_8 : decode cX7_alike 8 = .ok (.istore_n 3, 1) := by decide +kernel
theorem dX7_alike_9 : decode cX7_alike 9 = .ok (.aload_n 0, 1) := by decide +kernel
theorem dX7_alike_10 : decode cX7_alike 10 = .ok (.getfield 36, 3) := by decide +kernel
theorem dX7_alike_13 : decode cX7_alike 13 = .ok (.iload_n 1, 1) := by decide +kernel
theorem dX7_alike_14 : decode cX7_alike 14 = .ok (.iaload, 1) := by decide +kernel
theorem dX7_alike_15 : decode cX7_alike 15 = .ok (.iconst 3, 1) := by decide +kernel
theorem dX7_alike_16 : decode cX7_alike 16 = .ok (.imul, 1) := by decide +kernel
theorem dX7_alike_17 : decode cX7_alike 17 = .ok (.istore 4, 2) := by decide +kernel
theorem dX7_alike_19 : decode cX7_alike 19 = .ok (.aload_n 0, 1) := by decide +kernel
theorem dX7_alike_20 : decode cX7_alike 20 = .ok (.getfield 9, 3) := by decide +kernel
theorem dX7_alike_23 : decode cX7_alike 23 = .ok (.aload_n 0, 1) := by decide +kernel
theorem dX7_alike_24 : decode cX7_alike 24 = .ok (.getfield 18, 3) := by decide +kernel
theorem dX7_alike_27 : decode cX7_alike 27 = .ok (.aload_n 0, 1) := by decide +kernel
theorem dX7_alike_28 : decode cX7_alike 28 = .ok (.getfield 33, 3) := by decide +kernel
theorem dX7_alike_31 : decode cX7_alike 31 = .ok (.iload_n 1, 1) := by decide +kernel
theorem dX7_alike_32 : decode cX7_alike 32 = .ok (.iaload, 1) := by decide +kernel
theorem dX7_alike_33 : decode cX7_alike 33 = .ok (.iaload, 1) := by decide +kernel
theorem dX7_alike_34 : decode cX7_alike 34 = .ok (.iaload, 1) := by decide +kernel
theorem dX7_alike_35 : decode cX7_alike 35 = .ok (.istore 5, 2) := by decide +kernel
theorem dX7_alike_37 : decode cX7_alike 37 = .ok (.iconst 0, 1) := by decide +kernel
theorem dX7_alike_38 : decode cX7_alike 38 = .ok (.istore 6, 2) := by decide +kernel
theorem dX7_alike_40 : decode cX7_alike 40 = .ok (.iload 6, 2) := by decide +kernel
theorem dX7_alike_42 : decode cX7_alike 42 = .ok (.iload 5, 2) := by decide +kernel
theorem dX7_alike_44 : decode cX7_alike 44 = .ok (.if_icmp .ge 43, 3) := by decide +kernel
theorem dX7_alike_47 : decode cX7_alike 47 = .ok (.aload_n 2, 1) := by decide +kernel
theorem dX7_alike_48 : decode cX7_alike 48 = .ok (.getfield 58, 3) := by decide +kernel
theorem dX7_alike_51 : decode cX7_alike 51 = .ok (.aload_n 0, 1) := by decide +kernel
theorem dX7_alike_52 : decode cX7_alike 52 = .ok (.getfield 27, 3) := by decide +kernel
theorem dX7_alike_55 : decode cX7_alike 55 = .ok (.iload_n 3, 1) := by decide +kernel
theorem dX7_alike_56 : decode cX7_alike 56 = .ok (.iload 6, 2) := by decide +kernel
theorem dX7_alike_58 : decode cX7_alike 58 = .ok (.iadd, 1) := by decide +kernel
theorem dX7_alike_59 : decode cX7_alike 59 = .ok (.iaload, 1) := by decide +kernel
theorem dX7_alike_60 : decode cX7_alike 60 = .ok (.iaload, 1) := by decide +kernel
theorem dX7_alike_61 : decode cX7_alike 61 = .ok (.aload_n 2, 1) := by decide +kernel
theorem dX7_alike_62 : decode cX7_alike 62 = .ok (.getfield 58, 3) := by decide +kernel
theorem dX7_alike_65 : decode cX7_alike 65 = .ok (.aload_n 0, 1) := by decide +kernel
theorem dX7_alike_66 : decode cX7_alike 66 = .ok (.getfield 27, 3) := by decide +kernel
theorem dX7_alike_69 : decode cX7_alike 69 = .ok (.iload 4, 2) := by decide +kernel
theorem dX7_alike_71 : decode cX7_alike 71 = .ok (.iload 6, 2) := by decide +kernel
theorem dX7_alike_73 : decode cX7_alike 73 = .ok (.iadd, 1) := by decide +kernel
theorem dX7_alike_74 : decode cX7_alike 74 = .ok (.iaload, 1) := by decide +kernel
theorem dX7_alike_75 : decode cX7_alike 75 = .ok (.iaload, 1) := by decide +kernel
theorem dX7_alike_76 : decode cX7_alike 76 = .ok (.if_icmp .eq 5, 3) := by decide +kernel
theorem dX7_alike_79 : decode cX7_alike 79 = .ok (.iconst 0, 1) := by decide +kernel
theorem dX7_alike_80 : decode cX7_alike 80 = .ok (.ireturn, 1) := by decide +kernel
theorem dX7_alike_81 : decode cX7_alike 81 = .ok (.iinc 6 1, 3) := by decide +kernel
theorem dX7_alike_84 : decode cX7_alike 84 = .ok (.goto (-44), 3) := by decide +kernel
theorem dX7_alike_87 : decode cX7_alike 87 = .ok (.iconst 1, 1) := by decide +kernel
theorem dX7_alike_88 : decode cX7_alike 88 = .ok (.ireturn, 1) := by decide +kernel
theorem dX7_nextPair_0 : decode cX7_nextPair 0 = .ok (.iconst 0, 1) := by decide +kernel
theorem dX7_nextPair_1 : decode cX7_nextPair 1 = .ok (.istore_n 2, 1) := by decide +kernel
theorem dX7_nextPair_2 : decode cX7_nextPair 2 = .ok (.iload_n 2, 1) := by decide +kernel
theorem dX7_nextPair_3 : decode cX7_nextPair 3 = .ok (.aload_n 0, 1) := by decide +kernel
theorem dX7_nextPair_4 : decode cX7_nextPair 4 = .ok (.getfield 46, 3) := by decide +kernel
theorem dX7_nextPair_7 : decode cX7_nextPair 7 = .ok (.if_icmp .ge 39, 3) := by decide +kernel
theorem dX7_nextPair_10 : decode cX7_nextPair 10 = .ok (.aload_n 1, 1) := by decide +kernel
theorem dX7_nextPair_11 : decode cX7_nextPair 11 = .ok (.aload_n 0, 1) := by decide +kernel
theorem dX7_nextPair_12 : decode cX7_nextPair 12 = .ok (.getfield 33, 3) := by decide +kernel
theorem dX7_nextPair_15 : decode cX7_nextPair 15 = .ok (.iload_n 2, 1) := by decide +kernel
theorem dX7_nextPair_16 : decode cX7_nextPair 16 = .ok (.iaload, 1) := by decide +kernel
theorem dX7_nextPair_17 : decode cX7_nextPair 17 = .ok (.aload_n 0, 1) := by decide +kernel
theorem dX7_nextPair_18 : decode cX7_nextPair 18 = .ok (.getfield 36, 3) := by decide +kernel
theorem dX7_nextPair_21 : decode cX7_nextPair 21 = .ok (.iload_n 2, 1) := by decide +kernel
theorem dX7_nextPair_22 : decode cX7_nextPair 22 = .ok (.iaload, 1) := by decide +kernel
theorem dX7_nextPair_23 : decode cX7_nextPair 23 = .ok (.invokevirtual 79, 3) := by decide +kernel
theorem dX7_nextPair_26 : decode cX7_nextPair 26 = .ok (.ifCond .ne 14, 3) := by decide +kernel
theorem dX7_nextPair_29 : decode cX7_nextPair 29 = .ok (.aload_n 0, 1) := by decide +kernel
theorem dX7_nextPair_30 : decode cX7_nextPair 30 = .ok (.iload_n 2, 1) := by decide +kernel
theorem dX7_nextPair_31 : decode cX7_nextPair 31 = .ok (.aload_n 1, 1) := by decide +kernel
theorem dX7_nextPair_32 : decode cX7_nextPair 32 = .ok (.invokevirtual 83, 3) := by decide +kernel
theorem dX7_nextPair_35 : decode cX7_nextPair 35 = .ok (.ifCond .eq 5, 3) := by decide +kernel
theorem dX7_nextPair_38 : decode cX7_nextPair 38 = .ok (.iload_n 2, 1) := by decide +kernel
theorem dX7_nextPair_39 : decode cX7_nextPair 39 = .ok (.ireturn, 1) := by decide +kernel
theorem dX7_nextPair_40 : decode cX7_nextPair 40 = .ok (.iinc 2 1, 3) := by decide +kernel
theorem dX7_nextPair_43 : decode cX7_nextPair 43 = .ok (.goto (-41), 3) := by decide +kernel
theorem dX7_nextPair_46 : decode cX7_nextPair 46 = .ok (.iconst (-1), 1) := by decide +kernel
theorem dX7_nextPair_47 : decode cX7_nextPair 47 = .ok (.ireturn, 1) := by decide +kernel
theorem dX7_close_0 : decode cX7_close 0 = .ok (.iconst 1, 1) := by decide +kernel
theorem dX7_close_1 : decode cX7_close 1 = .ok (.istore_n 2, 1) := by decide +kernel
theorem dX7_close_2 : decode cX7_close 2 = .ok (.iconst 0, 1) := by decide +kernel
theorem dX7_close_3 : decode cX7_close 3 = .ok (.istore_n 3, 1) := by decide +kernel
theorem dX7_close_4 : decode cX7_close 4 = .ok (.iload_n 2, 1) := by decide +kernel
theorem dX7_close_5 : decode cX7_close 5 = .ok (.ifCond .eq 42, 3) := by decide +kernel
theorem dX7_close_8 : decode cX7_close 8 = .ok (.iload_n 3, 1) := by decide +kernel
theorem dX7_close_9 : decode cX7_close 9 = .ok (.bipush 24, 2) := by decide +kernel
theorem dX7_close_11 : decode cX7_close 11 = .ok (.if_icmp .gt 36, 3) := by decide +kernel
theorem dX7_close_14 : decode cX7_close 14 = .ok (.aload_n 1, 1) := by decide +kernel
theorem dX7_close_15 : decode cX7_close 15 = .ok (.getfield 87, 3) := by decide +kernel
theorem dX7_close_18 : decode cX7_close 18 = .ok (.istore 4, 2) := by decide +kernel
theorem dX7_close_20 : decode cX7_close 20 = .ok (.aload_n 0, 1) := by decide +kernel
theorem dX7_close_21 : decode cX7_close 21 = .ok (.aload_n 1, 1) := by decide +kernel
theorem dX7_close_22 : decode cX7_close 22 = .ok (.aload_n 1, 1) := by decide +kernel
theorem dX7_close_23 : decode cX7_close 23 = .ok (.invokevirtual 90, 3) := by decide +kernel
theorem dX7_close_26 : decode cX7_close 26 = .ok (.aload_n 1, 1) := by decide +kernel
theorem dX7_close_27 : decode cX7_close 27 = .ok (.getfield 87, 3) := by decide +kernel
theorem dX7_close_30 : decode cX7_close 30 = .ok (.iload 4, 2) := by decide +kernel
theorem dX7_close_32 : decode cX7_close 32 = .ok (.if_icmp .ge 7, 3) := by decide +kernel
theorem dX7_close_35 : decode cX7_close 35 = .ok (.iconst 1, 1) := by decide +kernel
theorem dX7_close_36 : decode cX7_close 36 = .ok (.goto 4, 3) := by decide +kernel
theorem dX7_close_39 : decode cX7_close 39 = .ok (.iconst 0, 1) := by decide +kernel
theorem dX7_close_40 : decode cX7_close 40 = .ok (.istore_n 2, 1) := by decide +kernel
theorem dX7_close_41 : decode cX7_close 41 = .ok (.iinc 3 1, 3) := by decide +kernel
theorem dX7_close_44 : decode cX7_close 44 = .ok (.goto (-40), 3) := by decide +kernel
theorem dX7_close_47 : decode cX7_close 47 = .ok (.return_, 1) := by decide +kernel
theorem dX7_climb_0 : decode cX7_climb 0 = .ok (.iconst 0, 1) := by decide +kernel
theorem dX7_climb_1 : decode cX7_climb 1 = .ok (.istore_n 3, 1) := by decide +kernel
theorem dX7_climb_2 : decode cX7_climb 2 = .ok (.iload_n 3, 1) := by decide +kernel
theorem dX7_climb_3 : decode cX7_climb 3 = .ok (.aload_n 0, 1) := by decide +kernel
theorem dX7_climb_4 : decode cX7_climb 4 = .ok (.getfield 43, 3) := by decide +kernel
theorem dX7_climb_7 : decode cX7_climb 7 = .ok (.if_icmp .ge 21, 3) := by decide +kernel
theorem dX7_climb_10 : decode cX7_climb 10 = .ok (.aload_n 0, 1) := by decide +kernel
theorem dX7_climb_11 : decode cX7_climb 11 = .ok (.getfield 30, 3) := by decide +kernel
theorem dX7_climb_14 : decode cX7_climb 14 = .ok (.iload_n 3, 1) := by decide +kernel
theorem dX7_climb_15 : decode cX7_climb 15 = .ok (.aload_n 0, 1) := by decide +kernel
theorem dX7_climb_16 : decode cX7_climb 16 = .ok (.iload_n 3, 1) := by decide +kernel
theorem dX7_climb_17 : decode cX7_climb 17 = .ok (.aload_n 1, 1) := by decide +kernel
theorem dX7_climb_18 : decode cX7_climb 18 = .ok (.invokevirtual 94, 3) := by decide +kernel
theorem dX7_climb_21 : decode cX7_climb 21 = .ok (.iastore, 1) := by decide +kernel
theorem dX7_climb_22 : decode cX7_climb 22 = .ok (.iinc 3 1, 3) := by decide +kernel
theorem dX7_climb_25 : decode cX7_climb 25 = .ok (.goto (-23), 3) := by decide +kernel
theorem dX7_climb_28 : decode cX7_climb 28 = .ok (.iconst 0, 1) := by decide +kernel
theorem dX7_climb_29 : decode cX7_climb 29 = .ok (.istore_n 3, 1) := by decide +kernel
theorem dX7_climb_30 : decode cX7_climb 30 = .ok (.iload_n 3, 1) := by decide +kernel
theorem dX7_climb_31 : decode cX7_climb 31 = .ok (.aload_n 0, 1) := by decide +kernel
theorem dX7_climb_32 : decode cX7_climb 32 = .ok (.getfield 46, 3) := by decide +kernel
theorem dX7_climb_35 : decode cX7_climb 35 = .ok (.if_icmp .ge 50, 3) := by decide +kernel
theorem dX7_climb_38 : decode cX7_climb 38 = .ok (.aload_n 0, 1) := by decide +kernel
theorem dX7_climb_39 : decode cX7_climb 39 = .ok (.getfield 30, 3) := by decide +kernel
theorem dX7_climb_42 : decode cX7_climb 42 = .ok (.aload_n 0, 1) := by decide +kernel
theorem dX7_climb_43 : decode cX7_climb 43 = .ok (.getfield 33, 3) := by decide +kernel
theorem dX7_climb_46 : decode cX7_climb 46 = .ok (.iload_n 3, 1) := by decide +kernel
theorem dX7_climb_47 : decode cX7_climb 47 = .ok (.iaload, 1) := by decide +kernel
theorem dX7_climb_48 : decode cX7_climb 48 = .ok (.iaload, 1) := by decide +kernel
theorem dX7_climb_49 : decode cX7_climb 49 = .ok (.aload_n 0, 1) := by decide +kernel
theorem dX7_climb_50 : decode cX7_climb 50 = .ok (.getfield 30, 3) := by decide +kernel
theorem dX7_climb_53 : decode cX7_climb 53 = .ok (.aload_n 0, 1) := by decide +kernel
theorem dX7_climb_54 : decode cX7_climb 54 = .ok (.getfield 36, 3) := by decide +kernel
theorem dX7_climb_57 : decode cX7_climb 57 = .ok (.iload_n 3, 1) := by decide +kernel
theorem dX7_climb_58 : decode cX7_climb 58 = .ok (.iaload, 1) := by decide +kernel
theorem dX7_climb_59 : decode cX7_climb 59 = .ok (.iaload, 1) := by decide +kernel
theorem dX7_climb_60 : decode cX7_climb 60 = .ok (.if_icmp .ne 19, 3) := by decide +kernel
theorem dX7_climb_63 : decode cX7_climb 63 = .ok (.aload_n 2, 1) := by decide +kernel
theorem dX7_climb_64 : decode cX7_climb 64 = .ok (.aload_n 0, 1) := by decide +kernel
theorem dX7_climb_65 : decode cX7_climb 65 = .ok (.getfield 33, 3) := by decide +kernel
theorem dX7_climb_68 : decode cX7_climb 68 = .ok (.iload_n 3, 1) := by decide +kernel
theorem dX7_climb_69 : decode cX7_climb 69 = .ok (.iaload, 1) := by decide +kernel
theorem dX7_climb_70 : decode cX7_climb 70 = .ok (.aload_n 0, 1) := by decide +kernel
theorem dX7_climb_71 : decode cX7_climb 71 = .ok (.getfield 36, 3) := by decide +kernel
theorem dX7_climb_74 : decode cX7_climb 74 = .ok (.iload_n 3, 1) := by decide +kernel
theorem dX7_climb_75 : decode cX7_climb 75 = .ok (.iaload, 1) := by decide +kernel
theorem dX7_climb_76 : decode cX7_climb 76 = .ok (.invokevirtual 97, 3) := by decide +kernel
theorem dX7_climb_79 : decode cX7_climb 79 = .ok (.iinc 3 1, 3) := by decide +kernel
theorem dX7_climb_82 : decode cX7_climb 82 = .ok (.goto (-52), 3) := by decide +kernel
theorem dX7_climb_85 : decode cX7_climb 85 = .ok (.return_, 1) := by decide +kernel
theorem dX7_madeOf_0 : decode cX7_madeOf 0 = .ok (.iconst 0, 1) := by decide +kernel
theorem dX7_madeOf_1 : decode cX7_madeOf 1 = .ok (.istore_n 3, 1) := by decide +kernel
theorem dX7_madeOf_2 : decode cX7_madeOf 2 = .ok (.iconst 0, 1) := by decide +kernel
theorem dX7_madeOf_3 : decode cX7_madeOf 3 = .ok (.istore 4, 2) := by decide +kernel
theorem dX7_madeOf_5 : decode cX7_madeOf 5 = .ok (.iload 4, 2) := by decide +kernel
theorem dX7_madeOf_7 : decode cX7_madeOf 7 = .ok (.aload_n 0, 1) := by decide +kernel
theorem dX7_madeOf_8 : decode cX7_madeOf 8 = .ok (.getfield 9, 3) := by decide +kernel
theorem dX7_madeOf_11 : decode cX7_madeOf 11 = .ok (.aload_n 0, 1) := by decide +kernel
theorem dX7_madeOf_12 : decode cX7_madeOf 12 = .ok (.getfield 18, 3) := by decide +kernel
theorem dX7_madeOf_15 : decode cX7_madeOf 15 = .ok (.iload_n 1, 1) := by decide +kernel
theorem dX7_madeOf_16 : decode cX7_madeOf 16 = .ok (.iaload, 1) := by decide +kernel
theorem dX7_madeOf_17 : decode cX7_madeOf 17 = .ok (.iaload, 1) := by decide +kernel
theorem dX7_madeOf_18 : decode cX7_madeOf 18 = .ok (.if_icmp .ge 31, 3) := by decide +kernel
theorem dX7_madeOf_21 : decode cX7_madeOf 21 = .ok (.iload_n 3, 1) := by decide +kernel
theorem dX7_madeOf_22 : decode cX7_madeOf 22 = .ok (.bipush 24, 2) := by decide +kernel
theorem dX7_madeOf_24 : decode cX7_madeOf 24 = .ok (.imul, 1) := by decide +kernel
theorem dX7_madeOf_25 : decode cX7_madeOf 25 = .ok (.aload_n 2, 1) := by decide +kernel
theorem dX7_madeOf_26 : decode cX7_madeOf 26 = .ok (.getfield 58, 3) := by decide +kernel
theorem dX7_madeOf_29 : decode cX7_madeOf 29 = .ok (.aload_n 0, 1) := by decide +kernel
theorem dX7_madeOf_30 : decode cX7_madeOf 30 = .ok (.getfield 27, 3) := by decide +kernel
theorem dX7_madeOf_33 : decode cX7_madeOf 33 = .ok (.iload_n 1, 1) := by decide +kernel
theorem dX7_madeOf_34 : decode cX7_madeOf 34 = .ok (.iconst 3, 1) := by decide +kernel
theorem dX7_madeOf_35 : decode cX7_madeOf 35 = .ok (.imul, 1) := by decide +kernel
theorem dX7_madeOf_36 : decode cX7_madeOf 36 = .ok (.iload 4, 2) := by decide +kernel
theorem dX7_madeOf_38 : decode cX7_madeOf 38 = .ok (.iadd, 1) := by decide +kernel
theorem dX7_madeOf_39 : decode cX7_madeOf 39 = .ok (.iaload, 1) := by decide +kernel
theorem dX7_madeOf_40 : decode cX7_madeOf 40 = .ok (.iaload, 1) := by decide +kernel
theorem dX7_madeOf_41 : decode cX7_madeOf 41 = .ok (.iadd, 1) := by decide +kernel
theorem dX7_madeOf_42 : decode cX7_madeOf 42 = .ok (.istore_n 3, 1) := by decide +kernel
theorem dX7_madeOf_43 : decode cX7_madeOf 43 = .ok (.iinc 4 1, 3) := by decide +kernel
theorem dX7_madeOf_46 : decode cX7_madeOf 46 = .ok (.goto (-41), 3) := by decide +kernel
theorem dX7_madeOf_49 : decode cX7_madeOf 49 = .ok (.iload_n 3, 1) := by decide +kernel
theorem dX7_madeOf_50 : decode cX7_madeOf 50 = .ok (.ireturn, 1) := by decide +kernel
theorem dX8_init_0 : decode cX8_init 0 = .ok (.aload_n 0, 1) := by decide +kernel
theorem dX8_init_1 : decode cX8_init 1 = .ok (.invokespecial 3, 3) := by decide +kernel
theorem dX8_init_4 : decode cX8_init 4 = .ok (.aload_n 0, 1) := by decide +kernel
theorem dX8_init_5 : decode cX8_init 5 = .ok (.new 9, 3) := by decide +kernel
theorem dX8_init_8 : decode cX8_init 8 = .ok (.dup, 1) := by decide +kernel
theorem dX8_init_9 : decode cX8_init 9 = .ok (.invokespecial 11, 3) := by decide +kernel
theorem dX8_init_12 : decode cX8_init 12 = .ok (.putfield 12, 3) := by decide +kernel
theorem dX8_init_15 : decode cX8_init 15 = .ok (.aload_n 0, 1) := by decide +kernel
theorem dX8_init_16 : decode cX8_init 16 = .ok (.new 16, 3) := by decide +kernel
theorem dX8_init_19 : decode cX8_init 19 = .ok (.dup, 1) := by decide +kernel
theorem dX8_init_20 : decode cX8_init 20 = .ok (.invokespecial 18, 3) := by decide +kernel
theorem dX8_init_23 : decode cX8_init 23 = .ok (.putfield 19, 3) := by decide +kernel
theorem dX8_init_26 : decode cX8_init 26 = .ok (.aload_n 0, 1) := by decide +kernel
theorem dX8_init_27 : decode cX8_init 27 = .ok (.new 23, 3) := by decide +kernel
theorem dX8_init_30 : decode cX8_init 30 = .ok (.dup, 1) := by decide +kernel
theorem dX8_init_31 : decode cX8_init 31 = .ok (.invokespecial 25, 3) := by decide +kernel
theorem dX8_init_34 : decode cX8_init 34 = .ok (.putfield 26, 3) := by decide +kernel
theorem dX8_init_37 : decode cX8_init 37 = .ok (.aload_n 0, 1) := by decide +kernel
theorem dX8_init_38 : decode cX8_init 38 = .ok (.new 30, 3) := by decide +kernel
theorem dX8_init_41 : decode cX8_init 41 = .ok (.dup, 1) := by decide +kernel
theorem dX8_init_42 : decode cX8_init 42 = .ok (.invokespecial 32, 3) := by decide +kernel
theorem dX8_init_45 : decode cX8_init 45 = .ok (.putfield 33, 3) := by decide +kernel
theorem dX8_init_48 : decode cX8_init 48 = .ok (.aload_n 0, 1) := by decide +kernel
theorem dX8_init_49 : decode cX8_init 49 = .ok (.new 30, 3) := by decide +kernel
theorem dX8_init_52 : decode cX8_init 52 = .ok (.dup, 1) := by decide +kernel
theorem dX8_init_53 : decode cX8_init 53 = .ok (.invokespecial 32, 3) := by decide +kernel
theorem dX8_init_56 : decode cX8_init 56 = .ok (.putfield 37, 3) := by decide +kernel
theorem dX8_init_59 : decode cX8_init 59 = .ok (.aload_n 0, 1) := by decide +kernel
theorem dX8_init_60 : decode cX8_init 60 = .ok (.new 40, 3) := by decide +kernel
theorem dX8_init_63 : decode cX8_init 63 = .ok (.dup, 1) := by decide +kernel
theorem dX8_init_64 : decode cX8_init 64 = .ok (.invokespecial 42, 3) := by decide +kernel
theorem dX8_init_67 : decode cX8_init 67 = .ok (.putfield 43, 3) := by decide +kernel
theorem dX8_init_70 : decode cX8_init 70 = .ok (.aload_n 0, 1) := by decide +kernel
theorem dX8_init_71 : decode cX8_init 71 = .ok (.new 40, 3) := by decide +kernel
theorem dX8_init_74 : decode cX8_init 74 = .ok (.dup, 1) := by decide +kernel
theorem dX8_init_75 : decode cX8_init 75 = .ok (.invokespecial 42, 3) := by decide +kernel
theorem dX8_init_78 : decode cX8_init 78 = .ok (.putfield 47, 3) := by decide +kernel
theorem dX8_init_81 : decode cX8_init 81 = .ok (.aload_n 0, 1) := by decide +kernel
theorem dX8_init_82 : decode cX8_init 82 = .ok (.iconst (-1), 1) := by decide +kernel
theorem dX8_init_83 : decode cX8_init 83 = .ok (.putfield 50, 3) := by decide +kernel
theorem dX8_init_86 : decode cX8_init 86 = .ok (.return_, 1) := by decide +kernel
theorem dX8_feed_0 : decode cX8_feed 0 = .ok (.aload_n 0, 1) := by decide +kernel
theorem dX8_feed_1 : decode cX8_feed 1 = .ok (.getfield 12, 3) := by decide +kernel
theorem dX8_feed_4 : decode cX8_feed 4 = .ok (.getfield 54, 3) := by decide +kernel
theorem dX8_feed_7 : decode cX8_feed 7 = .ok (.bipush 20, 2) := by decide +kernel
theorem dX8_feed_9 : decode cX8_feed 9 = .ok (.iadd, 1) := by decide +kernel
theorem dX8_feed_10 : decode cX8_feed 10 = .ok (.sipush 500, 3) := by decide +kernel
theorem dX8_feed_13 : decode cX8_feed 13 = .ok (.if_icmp .le 5, 3) := by decide +kernel
theorem dX8_feed_16 : decode cX8_feed 16 = .ok (.iconst (-1), 1) := by decide +kernel
theorem dX8_feed_17 : decode cX8_feed 17 = .ok (.ireturn, 1) := by decide +kernel
theorem dX8_feed_18 : decode cX8_feed 18 = .ok (.aload_n 0, 1) := by decide +kernel
theorem dX8_feed_19 : decode cX8_feed 19 = .ok (.getfield 12, 3) := by decide +kernel
theorem dX8_feed_22 : decode cX8_feed 22 = .ok (.iload_n 1, 1) := by decide +kernel
theorem dX8_feed_23 : decode cX8_feed 23 = .ok (.invokevirtual 57, 3) := by decide +kernel
theorem dX8_feed_26 : decode cX8_feed 26 = .ok (.aload_n 0, 1) := by decide +kernel
theorem dX8_feed_27 : decode cX8_feed 27 = .ok (.getfield 12, 3) := by decide +kernel
theorem dX8_feed_30 : decode cX8_feed 30 = .ok (.iload_n 2, 1) := by decide +kernel
theorem dX8_feed_31 : decode cX8_feed 31 = .ok (.invokevirtual 57, 3) := by decide +kernel
theorem dX8_feed_34 : decode cX8_feed 34 = .ok (.aload_n 0, 1) := by decide +kernel
theorem dX8_feed_35 : decode cX8_feed 35 = .ok (.getfield 12, 3) := by decide +kernel
theorem dX8_feed_38 : decode cX8_feed 38 = .ok (.iload_n 3, 1) := by decide +kernel
theorem dX8_feed_39 : decode cX8_feed 39 = .ok (.invokevirtual 57, 3) := by decide +kernel
theorem dX8_feed_42 : decode cX8_feed 42 = .ok (.aload_n 0, 1) := by decide +kernel
theorem dX8_feed_43 : decode cX8_feed 43 = .ok (.getfield 12, 3) := by decide +kernel
theorem dX8_feed_46 : decode cX8_feed 46 = .ok (.iload 4, 2) := by decide +kernel
theorem dX8_feed_48 : decode cX8_feed 48 = .ok (.invokevirtual 57, 3) := by decide +kernel
theorem dX8_feed_51 : decode cX8_feed 51 = .ok (.aload_n 0, 1) := by decide +kernel
theorem dX8_feed_52 : decode cX8_feed 52 = .ok (.getfield 12, 3) := by decide +kernel
theorem dX8_feed_55 : decode cX8_feed 55 = .ok (.iload 5, 2) := by decide +kernel
theorem dX8_feed_57 : decode cX8_feed 57 = .ok (.invokevirtual 57, 3) := by decide +kernel
theorem dX8_feed_60 : decode cX8_feed 60 = .ok (.aload_n 0, 1) := by decide +kernel
theorem dX8_feed_61 : decode cX8_feed 61 = .ok (.getfield 12, 3) := by decide +kernel
theorem dX8_feed_64 : decode cX8_feed 64 = .ok (.getfield 54, 3) := by decide +kernel
theorem dX8_feed_67 : decode cX8_feed 67 = .ok (.ireturn, 1) := by decide +kernel
theorem dX8_text_0 : decode cX8_text 0 = .ok (.iload_n 1, 1) := by decide +kernel
theorem dX8_text_1 : decode cX8_text 1 = .ok (.ifCond .lt 14, 3) := by decide +kernel
theorem dX8_text_4 : decode cX8_text 4 = .ok (.iload_n 1, 1) := by decide +kernel
theorem dX8_text_5 : decode cX8_text 5 = .ok (.aload_n 0, 1) := by decide +kernel
theorem dX8_text_6 : decode cX8_text 6 = .ok (.getfield 12, 3) := by decide +kernel
theorem dX8_text_9 : decode cX8_text 9 = .ok (.getfield 54, 3) := by decide +kernel
theorem dX8_text_12 : decode cX8_text 12 = .ok (.if_icmp .le 9, 3) := by decide +kernel
theorem dX8_text_15 : decode cX8_text 15 = .ok (.aload_n 0, 1) := by decide +kernel
theorem dX8_text_16 : decode cX8_text 16 = .ok (.iconst 2, 1) := by decide +kernel
theorem dX8_text_17 : decode cX8_text 17 = .ok (.invokevirtual 61, 3) := by decide +kernel
theorem dX8_text_20 : decode cX8_text 20 = .ok (.ireturn, 1) := by decide +kernel
theorem dX8_text_21 : decode cX8_text 21 = .ok (.new 65, 3) := by decide +kernel
theorem dX8_text_24 : decode cX8_text 24 = .ok (.dup, 1) := by decide +kernel
theorem dX8_text_25 : decode cX8_text 25 = .ok (.aload_n 0, 1) := by decide +kernel
theorem dX8_text_26 : decode cX8_text 26 = .ok (.getfield 12, 3) := by decide +kernel
theorem dX8_text_29 : decode cX8_text 29 = .ok (.iload_n 1, 1) := by decide +kernel
theorem dX8_text_30 : decode cX8_text 30 = .ok (.aload_n 0, 1) := by decide +kernel
theorem dX8_text_31 : decode cX8_text 31 = .ok (.getfield 47, 3) := by decide +kernel
theorem dX8_text_34 : decode cX8_text 34 = .ok (.invokespecial 67, 3) := by decide +kernel
theorem dX8_text_37 : decode cX8_text 37 = .ok (.astore_n 2, 1) := by decide +kernel
theorem dX8_text_38 : decode cX8_text 38 = .ok (.aload_n 2, 1) := by decide +kernel
theorem dX8_text_39 : decode cX8_text 39 = .ok (.invokevirtual 70, 3) := by decide +kernel
theorem dX8_text_42 : decode cX8_text 42 = .ok (.istore_n 3, 1) := by decide +kernel
theorem dX8_text_43 : decode cX8_text 43 = .ok (.aload_n 0, 1) := by decide +kernel
theorem dX8_text_44 : decode cX8_text 44 = .ok (.getfield 12, 3) := by decide +kernel
theorem dX8_text_47 : decode cX8_text 47 = .ok (.iconst 0, 1) := by decide +kernel
theorem dX8_text_48 : decode cX8_text 48 = .ok (.putfield 54, 3) := by decide +kernel
theorem dX8_text_51 : decode cX8_text 51 = .ok (.aload_n 0, 1) := by decide +kernel
theorem dX8_text_52 : decode cX8_text 52 = .ok (.aload_n 2, 1) := by decide +kernel
theorem dX8_text_53 : decode cX8_text 53 = .ok (.getfield 74, 3) := by decide +kernel
theorem dX8_text_56 : decode cX8_text 56 = .ok (.putfield 77, 3) := by decide +kernel
theorem dX8_text_59 : decode cX8_text 59 = .ok (.iload_n 3, 1) := by decide +kernel
theorem dX8_text_60 : decode cX8_text 60 = .ok (.ifCond .ne 19, 3) := by decide +kernel
theorem dX8_text_63 : decode cX8_text 63 = .ok (.aload_n 0, 1) := by decide +kernel
theorem dX8_text_64 : decode cX8_text 64 = .ok (.iconst 4, 1) := by decide +kernel
theorem dX8_text_65 : decode cX8_text 65 = .ok (.invokevirtual 61, 3) := by decide +kernel
theorem dX8_text_68 : decode cX8_text 68 = .ok (.pop, 1) := by decide +kernel
theorem dX8_text_69 : decode cX8_text 69 = .ok (.aload_n 0, 1) := by decide +kernel
theorem dX8_text_70 : decode cX8_text 70 = .ok (.aload_n 2, 1) := by decide +kernel
theorem dX8_text_71 : decode cX8_text 71 = .ok (.getfield 80, 3) := by decide +kernel
theorem dX8_text_74 : decode cX8_text 74 = .ok (.putfield 50, 3) := by decide +kernel
theorem dX8_text_77 : decode cX8_text 77 = .ok (.iconst (-1), 1) := by decide +kernel
theorem dX8_text_78 : decode cX8_text 78 = .ok (.ireturn, 1) := by decide +kernel
theorem dX8_text_79 : decode cX8_text 79 = .ok (.aload_n 0, 1) := by decide +kernel
theorem dX8_text_80 : decode cX8_text 80 = .ok (.getfield 43, 3) := by decide +kernel
theorem dX8_text_83 : decode cX8_text 83 = .ok (.astore 4, 2) := by decide +kernel
theorem dX8_text_85 : decode cX8_text 85 = .ok (.aload_n 0, 1) := by decide +kernel
theorem dX8_text_86 : decode cX8_text 86 = .ok (.aload_n 0, 1) := by decide +kernel
theorem dX8_text_87 : decode cX8_text 87 = .ok (.getfield 47, 3) := by decide +kernel
theorem dX8_text_90 : decode cX8_text 90 = .ok (.putfield 43, 3) := by decide +kernel
theorem dX8_text_93 : decode cX8_text 93 = .ok (.aload_n 0, 1) := by decide +kernel
theorem dX8_text_94 : decode cX8_text 94 = .ok (.aload 4, 2) := by decide +kernel
theorem dX8_text_96 : decode cX8_text 96 = .ok (.putfield 47, 3) := by decide +kernel
theorem dX8_text_99 : decode cX8_text 99 = .ok (.aload_n 0, 1) := by decide +kernel
theorem dX8_text_100 : decode cX8_text 100 = .ok (.getfield 19, 3) := by decide +kernel
theorem dX8_text_103 : decode cX8_text 103 = .ok (.iconst 0, 1) := by decide +kernel
theorem dX8_text_104 : decode cX8_text 104 = .ok (.putfield 83, 3) := by decide +kernel
theorem dX8_text_107 : decode cX8_text 107 = .ok (.aload_n 0, 1) := by decide +kernel
theorem dX8_text_108 : decode cX8_text 108 = .ok (.aload_n 0, 1) := by decide +kernel
theorem dX8_text_109 : decode cX8_text 109 = .ok (.getfield 43, 3) := by decide +kernel
theorem dX8_text_112 : decode cX8_text 112 = .ok (.getfield 87, 3) := by decide +kernel
theorem dX8_text_115 : decode cX8_text 115 = .ok (.getfield 91, 3) := by decide +kernel
theorem dX8_text_118 : decode cX8_text 118 = .ok (.invokevirtual 96, 3) := by decide +kernel
theorem dX8_text_121 : decode cX8_text 121 = .ok (.ireturn, 1) := by decide +kernel
theorem dX8_about_0 : decode cX8_about 0 = .ok (.iload_n 1, 1) := by decide +kernel
theorem dX8_about_1 : decode cX8_about 1 = .ok (.tableswitch 162 0 7 #[47, 62, 77, 89, 101, 116, 128, 143], 47) := by decide +kernel
theorem dX8_about_48 : decode cX8_about 48 = .ok (.aload_n 0, 1) := by decide +kernel
theorem dX8_about_49 : decode cX8_about 49 = .ok (.aload_n 0, 1) := by decide +kernel
theorem dX8_about_50 : decode cX8_about 50 = .ok (.getfield 43, 3) := by decide +kernel
theorem dX8_about_53 : decode cX8_about 53 = .ok (.getfield 87, 3) := by decide +kernel
theorem dX8_about_56 : decode cX8_about 56 = .ok (.getfield 99, 3) := by decide +kernel
theorem dX8_about_59 : decode cX8_about 59 = .ok (.invokevirtual 96, 3) := by decide +kernel
theorem dX8_about_62 : decode cX8_about 62 = .ok (.ireturn, 1) := by decide +kernel
theorem dX8_about_63 : decode cX8_about 63 = .ok (.aload_n 0, 1) := by decide +kernel
theorem dX8_about_64 : decode cX8_about 64 = .ok (.aload_n 0, 1) := by decide +kernel
theorem dX8_about_65 : decode cX8_about 65 = .ok (.getfield 43, 3) := by decide +kernel
theorem dX8_about_68 : decode cX8_about 68 = .ok (.getfield 87, 3) := by decide +kernel
theorem dX8_about_71 : decode cX8_about 71 = .ok (.getfield 91, 3) := by decide +kernel
theorem dX8_about_74 : decode cX8_about 74 = .ok (.invokevirtual 96, 3) := by decide +kernel
theorem dX8_about_77 : decode cX8_about 77 = .ok (.ireturn, 1) := by decide +kernel
theorem dX8_about_78 : decode cX8_about 78 = .ok (.aload_n 0, 1) := by decide +kernel
theorem dX8_about_79 : decode cX8_about 79 = .ok (.aload_n 0, 1) := by decide +kernel
theorem dX8_about_80 : decode cX8_about 80 = .ok (.getfield 43, 3) := by decide +kernel
theorem dX8_about_83 : decode cX8_about 83 = .ok (.getfield 102, 3) := by decide +kernel
theorem dX8_about_86 : decode cX8_about 86 = .ok (.invokevirtual 96, 3) := by decide +kernel
theorem dX8_about_89 : decode cX8_about 89 = .ok (.ireturn, 1) := by decide +kernel
theorem dX8_about_90 : decode cX8_about 90 = .ok (.aload_n 0, 1) := by decide +kernel
theorem dX8_about_91 : decode cX8_about 91 = .ok (.aload_n 0, 1) := by decide +kernel
theorem dX8_about_92 : decode cX8_about 92 = .ok (.getfield 43, 3) := by decide +kernel
theorem dX8_about_95 : decode cX8_about 95 = .ok (.getfield 105, 3) := by decide +kernel
theorem dX8_about_98 : decode cX8_about 98 = .ok (.invokevirtual 96, 3) := by decide +kernel
theorem dX8_about_101 : decode cX8_about 101 = .ok (.ireturn, 1) := by decide +kernel
theorem dX8_about_102 : decode cX8_about 102 = .ok (.aload_n 0, 1) := by decide +kernel
theorem dX8_about_103 : decode cX8_about 103 = .ok (.aload_n 0, 1) := by decide +kernel
theorem dX8_about_104 : decode cX8_about 104 = .ok (.getfield 43, 3) := by decide +kernel
theorem dX8_about_107 : decode cX8_about 107 = .ok (.getfield 108, 3) := by decide +kernel
theorem dX8_about_110 : decode cX8_about 110 = .ok (.getfield 111, 3) := by decide +kernel
theorem dX8_about_113 : decode cX8_about 113 = .ok (.invokevirtual 96, 3) := by decide +kernel
theorem dX8_about_116 : decode cX8_about 116 = .ok (.ireturn, 1) := by decide +kernel
theorem dX8_about_117 : decode cX8_about 117 = .ok (.aload_n 0, 1) := by decide +kernel
theorem dX8_about_118 : decode cX8_about 118 = .ok (.aload_n 0, 1) := by decide +kernel
theorem dX8_about_119 : decode cX8_about 119 = .ok (.getfield 43, 3) := by decide +kernel
theorem dX8_about_122 : decode cX8_about 122 = .ok (.getfield 113, 3) := by decide +kernel
theorem dX8_about_125 : decode cX8_about 125 = .ok (.invokevirtual 96, 3) := by decide +kernel
theorem dX8_about_128 : decode cX8_about 128 = .ok (.ireturn, 1) := by decide +kernel
theorem dX8_about_129 : decode cX8_about 129 = .ok (.aload_n 0, 1) := by decide +kernel
theorem dX8_about_130 : decode cX8_about 130 = .ok (.aload_n 0, 1) := by decide +kernel
theorem dX8_about_131 : decode cX8_about 131 = .ok (.getfield 43, 3) := by decide +kernel
theorem dX8_about_134 : decode cX8_about 134 = .ok (.getfield 116, 3) := by decide +kernel
theorem dX8_about_137 : decode cX8_about 137 = .ok (.getfield 120, 3) := by decide +kernel
theorem dX8_about_140 : decode cX8_about 140 = .ok (.invokevirtual 96, 3) := by decide +kernel
theorem dX8_about_143 : decode cX8_about 143 = .ok (.ireturn, 1) := by decide +kernel
theorem dX8_about_144 : decode cX8_about 144 = .ok (.aload_n 0, 1) := by decide +kernel
theorem dX8_about_145 : decode cX8_about 145 = .ok (.aload_n 0, 1) := by decide +kernel
theorem dX8_about_146 : decode cX8_about 146 = .ok (.getfield 43, 3) := by decide +kernel
theorem dX8_about_149 : decode cX8_about 149 = .ok (.aload_n 0, 1) := by decide +kernel
theorem dX8_about_150 : decode cX8_about 150 = .ok (.getfield 43, 3) := by decide +kernel
theorem dX8_about_153 : decode cX8_about 153 = .ok (.getfield 108, 3) := by decide +kernel
theorem dX8_about_156 : decode cX8_about 156 = .ok (.invokevirtual 125, 3) := by decide +kernel
theorem dX8_about_159 : decode cX8_about 159 = .ok (.invokevirtual 96, 3) := by decide +kernel
theorem dX8_about_162 : decode cX8_about 162 = .ok (.ireturn, 1) := by decide +kernel
theorem dX8_about_163 : decode cX8_about 163 = .ok (.aload_n 0, 1) := by decide +kernel
theorem dX8_about_164 : decode cX8_about 164 = .ok (.iconst 1, 1) := by decide +kernel
theorem dX8_about_165 : decode cX8_about 165 = .ok (.invokevirtual 61, 3) := by decide +kernel
theorem dX8_about_168 : decode cX8_about 168 = .ok (.ireturn, 1) := by decide +kernel
theorem dX8_term_0 : decode cX8_term 0 = .ok (.aload_n 0, 1) := by decide +kernel
theorem dX8_term_1 : decode cX8_term 1 = .ok (.iload_n 1, 1) := by decide +kernel
theorem dX8_term_2 : decode cX8_term 2 = .ok (.invokevirtual 140, 3) := by decide +kernel
theorem dX8_term_5 : decode cX8_term 5 = .ok (.ifCond .ne 9, 3) := by decide +kernel
theorem dX8_term_8 : decode cX8_term 8 = .ok (.aload_n 0, 1) := by decide +kernel
theorem dX8_term_9 : decode cX8_term 9 = .ok (.iconst 1, 1) := by decide +kernel
theorem dX8_term_10 : decode cX8_term 10 = .ok (.invokevirtual 61, 3) := by decide +kernel
theorem dX8_term_13 : decode cX8_term 13 = .ok (.ireturn, 1) := by decide +kernel
theorem dX8_term_14 : decode cX8_term 14 = .ok (.iload_n 2, 1) := by decide +kernel
theorem dX8_term_15 : decode cX8_term 15 = .ok (.tableswitch 164 0 5 #[37, 54, 71, 87, 110, 127], 37) := by decide +kernel
theorem dX8_term_52 : decode cX8_term 52 = .ok (.aload_n 0, 1) := by decide +kernel
theorem dX8_term_53 : decode cX8_term 53 = .ok (.aload_n 0, 1) := by decide +kernel
theorem dX8_term_54 : decode cX8_term 54 = .ok (.getfield 43, 3) := by decide +kernel
theorem dX8_term_57 : decode cX8_term 57 = .ok (.getfield 87, 3) := by decide +kernel
theorem dX8_term_60 : decode cX8_term 60 = .ok (.getfield 144, 3) := by decide +kernel
theorem dX8_term_63 : decode cX8_term 63 = .ok (.iload_n 1, 1) := by decide +kernel
theorem dX8_term_64 : decode cX8_term 64 = .ok (.iaload, 1) := by decide +kernel
theorem dX8_term_65 : decode cX8_term 65 = .ok (.invokevirtual 96, 3) := by decide +kernel
theorem dX8_term_68 : decode cX8_term 68 = .ok (.ireturn, 1) := by decide +kernel
theorem dX8_term_69 : decode cX8_term 69 = .ok (.aload_n 0, 1) := by decide +kernel
theorem dX8_term_70 : decode cX8_term 70 = .ok (.aload_n 0, 1) := by decide +kernel
theorem dX8_term_71 : decode cX8_term 71 = .ok (.getfield 43, 3) := by decide +kernel
theorem dX8_term_74 : decode cX8_term 74 = .ok (.getfield 108, 3) := by decide +kernel
theorem dX8_term_77 : decode cX8_term 77 = .ok (.getfield 147, 3) := by decide +kernel
theorem dX8_term_80 : decode cX8_term 80 = .ok (.iload_n 1, 1) := by decide +kernel
theorem dX8_term_81 : decode cX8_term 81 = .ok (.iaload, 1) := by decide +kernel
theorem dX8_term_82 : decode cX8_term 82 = .ok (.invokevirtual 96, 3) := by decide +kernel
theorem dX8_term_85 : decode cX8_term 85 = .ok (.ireturn, 1) := by decide +kernel
theorem dX8_term_86 : decode cX8_term 86 = .ok (.aload_n 0, 1) := by decide +kernel
theorem dX8_term_87 : decode cX8_term 87 = .ok (.aload_n 0, 1) := by decide +kernel
theorem dX8_term_88 : decode cX8_term 88 = .ok (.getfield 43, 3) := by decide +kernel
theorem dX8_term_91 : decode cX8_term 91 = .ok (.getfield 108, 3) := by decide +kernel
theorem dX8_term_94 : decode cX8_term 94 = .ok (.iload_n 1, 1) := by decide +kernel
theorem dX8_term_95 : decode cX8_term 95 = .ok (.invokevirtual 150, 3) := by decide +kernel
theorem dX8_term_98 : decode cX8_term 98 = .ok (.invokevirtual 96, 3) := by decide +kernel
theorem dX8_term_101 : decode cX8_term 101 = .ok (.ireturn, 1) := by decide +kernel
theorem dX8_term_102 : decode cX8_term 102 = .ok (.aload_n 0, 1) := by decide +kernel
theorem dX8_term_103 : decode cX8_term 103 = .ok (.aload_n 0, 1) := by decide +kernel
theorem dX8_term_104 : decode cX8_term 104 = .ok (.getfield 43, 3) := by decide +kernel
theorem dX8_term_107 : decode cX8_term 107 = .ok (.getfield 87, 3) := by decide +kernel
theorem dX8_term_110 : decode cX8_term 110 = .ok (.iload_n 1, 1) := by decide +kernel
theorem dX8_term_111 : decode cX8_term 111 = .ok (.aload_n 0, 1) := by decide +kernel
theorem dX8_term_112 : decode cX8_term 112 = .ok (.getfield 43, 3) := by decide +kernel
theorem dX8_term_115 : decode cX8_term 115 = .ok (.getfield 108, 3) := by decide +kernel
theorem dX8_term_118 : decode cX8_term 118 = .ok (.invokevirtual 153, 3) := by decide +kernel
theorem dX8_term_121 : decode cX8_term 121 = .ok (.invokevirtual 96, 3) := by decide +kernel
theorem dX8_term_124 : decode cX8_term 124 = .ok (.ireturn, 1) := by decide +kernel
theorem dX8_term_125 : decode cX8_term 125 = .ok (.aload_n 0, 1) := by decide +kernel
theorem dX8_term_126 : decode cX8_term 126 = .ok (.aload_n 0, 1) := by decide +kernel
theorem dX8_term_127 : decode cX8_term 127 = .ok (.getfield 43, 3) := by decide +kernel
theorem dX8_term_130 : decode cX8_term 130 = .ok (.getfield 87, 3) := by decide +kernel
theorem dX8_term_133 : decode cX8_term 133 = .ok (.getfield 156, 3) := by decide +kernel
theorem dX8_term_136 : decode cX8_term 136 = .ok (.iload_n 1, 1) := by decide +kernel
theorem dX8_term_137 : decode cX8_term 137 = .ok (.iaload, 1) := by decide +kernel
theorem dX8_term_138 : decode cX8_term 138 = .ok (.invokevirtual 96, 3) := by decide +kernel
theorem dX8_term_141 : decode cX8_term 141 = .ok (.ireturn, 1) := by decide +kernel
theorem dX8_term_142 : decode cX8_term 142 = .ok (.aload_n 0, 1) := by decide +kernel
theorem dX8_term_143 : decode cX8_term 143 = .ok (.aload_n 0, 1) := by decide +kernel
theorem dX8_term_144 : decode cX8_term 144 = .ok (.getfield 43, 3) := by decide +kernel
theorem dX8_term_147 : decode cX8_term 147 = .ok (.getfield 116, 3) := by decide +kernel
theorem dX8_term_150 : decode cX8_term 150 = .ok (.getfield 159, 3) := by decide +kernel
theorem dX8_term_153 : decode cX8_term 153 = .ok (.iload_n 1, 1) := by decide +kernel
theorem dX8_term_154 : decode cX8_term 154 = .ok (.iaload, 1) := by decide +kernel
theorem dX8_term_155 : decode cX8_term 155 = .ok (.ifCond .ge 8, 3) := by decide +kernel
theorem dX8_term_158 : decode cX8_term 158 = .ok (.bipush (-2), 2) := by decide +kernel
theorem dX8_term_160 : decode cX8_term 160 = .ok (.goto 15, 3) := by decide +kernel
theorem dX8_term_163 : decode cX8_term 163 = .ok (.aload_n 0, 1) := by decide +kernel
theorem dX8_term_164 : decode cX8_term 164 = .ok (.getfield 43, 3) := by decide +kernel
theorem dX8_term_167 : decode cX8_term 167 = .ok (.getfield 116, 3) := by decide +kernel
theorem dX8_term_170 : decode cX8_term 170 = .ok (.getfield 159, 3) := by decide +kernel
theorem dX8_term_173 : decode cX8_term 173 = .ok (.iload_n 1, 1) := by decide +kernel
theorem dX8_term_174 : decode cX8_term 174 = .ok (.iaload, 1) := by decide +kernel
theorem dX8_term_175 : decode cX8_term 175 = .ok (.invokevirtual 96, 3) := by decide +kernel
theorem dX8_term_178 : decode cX8_term 178 = .ok (.ireturn, 1) := by decide +kernel
theorem dX8_term_179 : decode cX8_term 179 = .ok (.aload_n 0, 1) := by decide +kernel
theorem dX8_term_180 : decode cX8_term 180 = .ok (.iconst 1, 1) := by decide +kernel
theorem dX8_term_181 : decode cX8_term 181 = .ok (.invokevirtual 61, 3) := by decide +kernel
theorem dX8_term_184 : decode cX8_term 184 = .ok (.ireturn, 1) := by decide +kernel
theorem dX8_partOf_0 : decode cX8_partOf 0 = .ok (.aload_n 0, 1) := by decide +kernel
theorem dX8_partOf_1 : decode cX8_partOf 1 = .ok (.iload_n 1, 1) := by decide +kernel
theorem dX8_partOf_2 : decode cX8_partOf 2 = .ok (.invokevirtual 140, 3) := by decide +kernel
theorem dX8_partOf_5 : decode cX8_partOf 5 = .ok (.ifCond .eq 7, 3) := by decide +kernel
theorem dX8_partOf_8 : decode cX8_partOf 8 = .ok (.iload_n 2, 1) := by decide +kernel
theorem dX8_partOf_9 : decode cX8_partOf 9 = .ok (.ifCond .ge 9, 3) := by decide +kernel
theorem dX8_partOf_12 : decode cX8_partOf 12 = .ok (.aload_n 0, 1) := by decide +kernel
theorem dX8_partOf_13 : decode cX8_partOf 13 = .ok (.iconst 1, 1) := by decide +kernel
theorem dX8_partOf_14 : decode cX8_partOf 14 = .ok (.invokevirtual 61, 3) := by decide +kernel
theorem dX8_partOf_17 : decode cX8_partOf 17 = .ok (.ireturn, 1) := by decide +kernel
theorem dX8_partOf_18 : decode cX8_partOf 18 = .ok (.aload_n 0, 1) := by decide +kernel
theorem dX8_partOf_19 : decode cX8_partOf 19 = .ok (.iload_n 2, 1) := by decide +kernel
theorem dX8_partOf_20 : decode cX8_partOf 20 = .ok (.aload_n 0, 1) := by decide +kernel
theorem dX8_partOf_21 : decode cX8_partOf 21 = .ok (.getfield 43, 3) := by decide +kernel
theorem dX8_partOf_24 : decode cX8_partOf 24 = .ok (.getfield 87, 3) := by decide +kernel
theorem dX8_partOf_27 : decode cX8_partOf 27 = .ok (.iload_n 1, 1) := by decide +kernel
theorem dX8_partOf_28 : decode cX8_partOf 28 = .ok (.invokevirtual 162, 3) := by decide +kernel
theorem dX8_partOf_31 : decode cX8_partOf 31 = .ok (.if_icmp .ge 18, 3) := by decide +kernel
theorem dX8_partOf_34 : decode cX8_partOf 34 = .ok (.aload_n 0, 1) := by decide +kernel
theorem dX8_partOf_35 : decode cX8_partOf 35 = .ok (.getfield 43, 3) := by decide +kernel
theorem dX8_partOf_38 : decode cX8_partOf 38 = .ok (.getfield 87, 3) := by decide +kernel
theorem dX8_partOf_41 : decode cX8_partOf 41 = .ok (.iload_n 1, 1) := by decide +kernel
theorem dX8_partOf_42 : decode cX8_partOf 42 = .ok (.iload_n 2, 1) := by decide +kernel
theorem dX8_partOf_43 : decode cX8_partOf 43 = .ok (.invokevirtual 165, 3) := by decide +kernel
theorem dX8_partOf_46 : decode cX8_partOf 46 = .ok (.goto 5, 3) := by decide +kernel
theorem dX8_partOf_49 : decode cX8_partOf 49 = .ok (.bipush (-2), 2) := by decide +kernel
theorem dX8_partOf_51 : decode cX8_partOf 51 = .ok (.invokevirtual 96, 3) := by decide +kernel
theorem dX8_partOf_54 : decode cX8_partOf 54 = .ok (.ireturn, 1) := by decide +kernel
theorem dX8_sameOf_0 : decode cX8_sameOf 0 = .ok (.aload_n 0, 1) := by decide +kernel
theorem dX8_sameOf_1 : decode cX8_sameOf 1 = .ok (.iload_n 1, 1) := by decide +kernel
theorem dX8_sameOf_2 : decode cX8_sameOf 2 = .ok (.invokevirtual 169, 3) := by decide +kernel
theorem dX8_sameOf_5 : decode cX8_sameOf 5 = .ok (.ifCond .ne 9, 3) := by decide +kernel
theorem dX8_sameOf_8 : decode cX8_sameOf 8 = .ok (.aload_n 0, 1) := by decide +kernel
theorem dX8_sameOf_9 : decode cX8_sameOf 9 = .ok (.iconst 1, 1) := by decide +kernel
theorem dX8_sameOf_10 : decode cX8_sameOf 10 = .ok (.invokevirtual 61, 3) := by decide +kernel
theorem dX8_sameOf_13 : decode cX8_sameOf 13 = .ok (.ireturn, 1) := by decide +kernel
theorem dX8_sameOf_14 : decode cX8_sameOf 14 = .ok (.aload_n 0, 1) := by decide +kernel
theorem dX8_sameOf_15 : decode cX8_sameOf 15 = .ok (.getfield 43, 3) := by decide +kernel
theorem dX8_sameOf_18 : decode cX8_sameOf 18 = .ok (.getfield 172, 3) := by decide +kernel
theorem dX8_sameOf_21 : decode cX8_sameOf 21 = .ok (.iload_n 1, 1) := by decide +kernel
theorem dX8_sameOf_22 : decode cX8_sameOf 22 = .ok (.iaload, 1) := by decide +kernel
theorem dX8_sameOf_23 : decode cX8_sameOf 23 = .ok (.istore_n 3, 1) := by decide +kernel
theorem dX8_sameOf_24 : decode cX8_sameOf 24 = .ok (.aload_n 0, 1) := by decide +kernel
theorem dX8_sameOf_25 : decode cX8_sameOf 25 = .ok (.getfield 43, 3) := by decide +kernel
theorem dX8_sameOf_28 : decode cX8_sameOf 28 = .ok (.getfield 175, 3) := by decide +kernel
theorem dX8_sameOf_31 : decode cX8_sameOf 31 = .ok (.iload_n 1, 1) := by decide +kernel
theorem dX8_sameOf_32 : decode cX8_sameOf 32 = .ok (.iaload, 1) := by decide +kernel
theorem dX8_sameOf_33 : decode cX8_sameOf 33 = .ok (.istore 4, 2) := by decide +kernel
theorem dX8_sameOf_35 : decode cX8_sameOf 35 = .ok (.iload_n 2, 1) := by decide +kernel
theorem dX8_sameOf_36 : decode cX8_sameOf 36 = .ok (.tableswitch 70 0 2 #[28, 34, 41], 28) := by decide +kernel
theorem dX8_sameOf_64 : decode cX8_sameOf 64 = .ok (.aload_n 0, 1) := by decide +kernel
theorem dX8_sameOf_65 : decode cX8_sameOf 65 = .ok (.iload_n 3, 1) := by decide +kernel
theorem dX8_sameOf_66 : decode cX8_sameOf 66 = .ok (.invokevirtual 96, 3) := by decide +kernel
theorem dX8_sameOf_69 : decode cX8_sameOf 69 = .ok (.ireturn, 1) := by decide +kernel
theorem dX8_sameOf_70 : decode cX8_sameOf 70 = .ok (.aload_n 0, 1) := by decide +kernel
theorem dX8_sameOf_71 : decode cX8_sameOf 71 = .ok (.iload 4, 2) := by decide +kernel
theorem dX8_sameOf_73 : decode cX8_sameOf 73 = .ok (.invokevirtual 96, 3) := by decide +kernel
theorem dX8_sameOf_76 : decode cX8_sameOf 76 = .ok (.ireturn, 1) := by decide +kernel
theorem dX8_sameOf_77 : decode cX8_sameOf 77 = .ok (.aload_n 0, 1) := by decide +kernel
theorem dX8_sameOf_78 : decode cX8_sameOf 78 = .ok (.aload_n 0, 1) := by decide +kernel
theorem dX8_sameOf_79 : decode cX8_sameOf 79 = .ok (.aload_n 0, 1) := by decide +kernel
theorem dX8_sameOf_80 : decode cX8_sameOf 80 = .ok (.aload_n 0, 1) := by decide +kernel
theorem dX8_sameOf_81 : decode cX8_sameOf 81 = .ok (.getfield 43, 3) := by decide +kernel
theorem dX8_sameOf_84 : decode cX8_sameOf 84 = .ok (.invokevirtual 178, 3) := by decide +kernel
theorem dX8_sameOf_87 : decode cX8_sameOf 87 = .ok (.iconst 1, 1) := by decide +kernel
theorem dX8_sameOf_88 : decode cX8_sameOf 88 = .ok (.iload_n 1, 1) := by decide +kernel
theorem dX8_sameOf_89 : decode cX8_sameOf 89 = .ok (.ishl, 1) := by decide +kernel
theorem dX8_sameOf_90 : decode cX8_sameOf 90 = .ok (.iconst (-1), 1) := by decide +kernel
theorem dX8_sameOf_91 : decode cX8_sameOf 91 = .ok (.ixor, 1) := by decide +kernel
theorem dX8_sameOf_92 : decode cX8_sameOf 92 = .ok (.iand, 1) := by decide +kernel
theorem dX8_sameOf_93 : decode cX8_sameOf 93 = .ok (.iload_n 3, 1) := by decide +kernel
theorem dX8_sameOf_94 : decode cX8_sameOf 94 = .ok (.iload 4, 2) := by decide +kernel
theorem dX8_sameOf_96 : decode cX8_sameOf 96 = .ok (.invokevirtual 182, 3) := by decide +kernel
theorem dX8_sameOf_99 : decode cX8_sameOf 99 = .ok (.invokevirtual 186, 3) := by decide +kernel
theorem dX8_sameOf_102 : decode cX8_sameOf 102 = .ok (.invokevirtual 96, 3) := by decide +kernel
theorem dX8_sameOf_105 : decode cX8_sameOf 105 = .ok (.ireturn, 1) := by decide +kernel
theorem dX8_sameOf_106 : decode cX8_sameOf 106 = .ok (.aload_n 0, 1) := by decide +kernel
theorem dX8_sameOf_107 : decode cX8_sameOf 107 = .ok (.iconst 1, 1) := by decide +kernel
theorem dX8_sameOf_108 : decode cX8_sameOf 108 = .ok (.invokevirtual 61, 3) := by decide +kernel
theorem dX8_sameOf_111 : decode cX8_sameOf 111 = .ok (.ireturn, 1) := by decide +kernel
theorem dX8_joinOf_0 : decode cX8_joinOf 0 = .ok (.iload_n 1, 1) := by decide +kernel
theorem dX8_joinOf_1 : decode cX8_joinOf 1 = .ok (.ifCond .lt 17, 3) := by decide +kernel
theorem dX8_joinOf_4 : decode cX8_joinOf 4 = .ok (.iload_n 1, 1) := by decide +kernel
theorem dX8_joinOf_5 : decode cX8_joinOf 5 = .ok (.aload_n 0, 1) := by decide +kernel
theorem dX8_joinOf_6 : decode cX8_joinOf 6 = .ok (.getfield 43, 3) := by decide +kernel
theorem dX8_joinOf_9 : decode cX8_joinOf 9 = .ok (.getfield 116, 3) := by decide +kernel
theorem dX8_joinOf_12 : decode cX8_joinOf 12 = .ok (.getfield 120, 3) := by decide +kernel
theorem dX8_joinOf_15 : decode cX8_joinOf 15 = .ok (.if_icmp .lt 9, 3) := by decide +kernel
theorem dX8_joinOf_18 : decode cX8_joinOf 18 = .ok (.aload_n 0, 1) := by decide +kernel
theorem dX8_joinOf_19 : decode cX8_joinOf 19 = .ok (.iconst 1, 1) := by decide +kernel
theorem dX8_joinOf_20 : decode cX8_joinOf 20 = .ok (.invokevirtual 61, 3) := by decide +kernel
theorem dX8_joinOf_23 : decode cX8_joinOf 23 = .ok (.ireturn, 1) := by decide +kernel
theorem dX8_joinOf_24 : decode cX8_joinOf 24 = .ok (.iload_n 2, 1) := by decide +kernel
theorem dX8_joinOf_25 : decode cX8_joinOf 25 = .ok (.tableswitch 98 0 2 #[27, 44, 61], 27) := by decide +kernel
theorem dX8_joinOf_52 : decode cX8_joinOf 52 = .ok (.aload_n 0, 1) := by decide +kernel
theorem dX8_joinOf_53 : decode cX8_joinOf 53 = .ok (.aload_n 0, 1) := by decide +kernel
theorem dX8_joinOf_54 : decode cX8_joinOf 54 = .ok (.getfield 43, 3) := by decide +kernel
theorem dX8_joinOf_57 : decode cX8_joinOf 57 = .ok (.getfield 116, 3) := by decide +kernel
theorem dX8_joinOf_60 : decode cX8_joinOf 60 = .ok (.getfield 200, 3) := by decide +kernel
theorem dX8_joinOf_63 : decode cX8_joinOf 63 = .ok (.iload_n 1, 1) := by decide +kernel
theorem dX8_joinOf_64 : decode cX8_joinOf 64 = .ok (.iaload, 1) := by decide +kernel
theorem dX8_joinOf_65 : decode cX8_joinOf 65 = .ok (.invokevirtual 96, 3) := by decide +kernel
theorem dX8_joinOf_68 : decode cX8_joinOf 68 = .ok (.ireturn, 1) := by decide +kernel
theorem dX8_joinOf_69 : decode cX8_joinOf 69 = .ok (.aload_n 0, 1) := by decide +kernel
theorem dX8_joinOf_70 : decode cX8_joinOf 70 = .ok (.aload_n 0, 1) := by decide +kernel
theorem dX8_joinOf_71 : decode cX8_joinOf 71 = .ok (.getfield 43, 3) := by decide +kernel
theorem dX8_joinOf_74 : decode cX8_joinOf 74 = .ok (.getfield 116, 3) := by decide +kernel
theorem dX8_joinOf_77 : decode cX8_joinOf 77 = .ok (.getfield 203, 3) := by decide +kernel
theorem dX8_joinOf_80 : decode cX8_joinOf 80 = .ok (.iload_n 1, 1) := by decide +kernel
theorem dX8_joinOf_81 : decode cX8_joinOf 81 = .ok (.iaload, 1) := by decide +kernel
theorem dX8_joinOf_82 : decode cX8_joinOf 82 = .ok (.invokevirtual 96, 3) := by decide +kernel
theorem dX8_joinOf_85 : decode cX8_joinOf 85 = .ok (.ireturn, 1) := by decide +kernel
theorem dX8_joinOf_86 : decode cX8_joinOf 86 = .ok (.aload_n 0, 1) := by decide +kernel
theorem dX8_joinOf_87 : decode cX8_joinOf 87 = .ok (.aload_n 0, 1) := by decide +kernel
theorem dX8_joinOf_88 : decode cX8_joinOf 88 = .ok (.getfield 43, 3) := by decide +kernel
theorem dX8_joinOf_91 : decode cX8_joinOf 91 = .ok (.getfield 116, 3) := by decide +kernel
theorem dX8_joinOf_94 : decode cX8_joinOf 94 = .ok (.getfield 206, 3) := by decide +kernel
theorem dX8_joinOf_97 : decode cX8_joinOf 97 = .ok (.iload_n 1, 1) := by decide +kernel
theorem dX8_joinOf_98 : decode cX8_joinOf 98 = .ok (.iaload, 1) := by decide +kernel
theorem dX8_joinOf_99 : decode cX8_joinOf 99 = .ok (.ifCond .ge 8, 3) := by decide +kernel
theorem dX8_joinOf_102 : decode cX8_joinOf 102 = .ok (.bipush (-2), 2) := by decide +kernel
theorem dX8_joinOf_104 : decode cX8_joinOf 104 = .ok (.goto 15, 3) := by decide +kernel
theorem dX8_joinOf_107 : decode cX8_joinOf 107 = .ok (.aload_n 0, 1) := by decide +kernel
theorem dX8_joinOf_108 : decode cX8_joinOf 108 = .ok (.getfield 43, 3) := by decide +kernel
theorem dX8_joinOf_111 : decode cX8_joinOf 111 = .ok (.getfield 116, 3) := by decide +kernel
theorem dX8_joinOf_114 : decode cX8_joinOf 114 = .ok (.getfield 206, 3) := by decide +kernel
theorem dX8_joinOf_117 : decode cX8_joinOf 117 = .ok (.iload_n 1, 1) := by decide +kernel
theorem dX8_joinOf_118 : decode cX8_joinOf 118 = .ok (.iaload, 1) := by decide +kernel
theorem dX8_joinOf_119 : decode cX8_joinOf 119 = .ok (.invokevirtual 96, 3) := by decide +kernel
theorem dX8_joinOf_122 : decode cX8_joinOf 122 = .ok (.ireturn, 1) := by decide +kernel
theorem dX8_joinOf_123 : decode cX8_joinOf 123 = .ok (.aload_n 0, 1) := by decide +kernel
theorem dX8_joinOf_124 : decode cX8_joinOf 124 = .ok (.iconst 1, 1) := by decide +kernel
theorem dX8_joinOf_125 : decode cX8_joinOf 125 = .ok (.invokevirtual 61, 3) := by decide +kernel
theorem dX8_joinOf_128 : decode cX8_joinOf 128 = .ok (.ireturn, 1) := by decide +kernel
theorem dX8_height_0 : decode cX8_height 0 = .ok (.aload_n 0, 1) := by decide +kernel
theorem dX8_height_1 : decode cX8_height 1 = .ok (.iload_n 1, 1) := by decide +kernel
theorem dX8_height_2 : decode cX8_height 2 = .ok (.invokevirtual 140, 3) := by decide +kernel
theorem dX8_height_5 : decode cX8_height 5 = .ok (.ifCond .ne 9, 3) := by decide +kernel
theorem dX8_height_8 : decode cX8_height 8 = .ok (.aload_n 0, 1) := by decide +kernel
theorem dX8_height_9 : decode cX8_height 9 = .ok (.iconst 1, 1) := by decide +kernel
theorem dX8_height_10 : decode cX8_height 10 = .ok (.invokevirtual 61, 3) := by decide +kernel
theorem dX8_height_13 : decode cX8_height 13 = .ok (.ireturn, 1) := by decide +kernel
theorem dX8_height_14 : decode cX8_height 14 = .ok (.aload_n 0, 1) := by decide +kernel
theorem dX8_height_15 : decode cX8_height 15 = .ok (.aload_n 0, 1) := by decide +kernel
theorem dX8_height_16 : decode cX8_height 16 = .ok (.getfield 43, 3) := by decide +kernel
theorem dX8_height_19 : decode cX8_height 19 = .ok (.getfield 116, 3) := by decide +kernel
theorem dX8_height_22 : decode cX8_height 22 = .ok (.iload_n 1, 1) := by decide +kernel
theorem dX8_height_23 : decode cX8_height 23 = .ok (.invokevirtual 209, 3) := by decide +kernel
theorem dX8_height_26 : decode cX8_height 26 = .ok (.invokevirtual 96, 3) := by decide +kernel
theorem dX8_height_29 : decode cX8_height 29 = .ok (.ireturn, 1) := by decide +kernel
theorem dX8_hung_0 : decode cX8_hung 0 = .ok (.aload_n 0, 1) := by decide +kernel
theorem dX8_hung_1 : decode cX8_hung 1 = .ok (.iload_n 1, 1) := by decide +kernel
theorem dX8_hung_2 : decode cX8_hung 2 = .ok (.invokevirtual 140, 3) := by decide +kernel
theorem dX8_hung_5 : decode cX8_hung 5 = .ok (.ifCond .eq 7, 3) := by decide +kernel
theorem dX8_hung_8 : decode cX8_hung 8 = .ok (.iload_n 2, 1) := by decide +kernel
theorem dX8_hung_9 : decode cX8_hung 9 = .ok (.ifCond .ge 9, 3) := by decide +kernel
theorem dX8_hung_12 : decode cX8_hung 12 = .ok (.aload_n 0, 1) := by decide +kernel
theorem dX8_hung_13 : decode cX8_hung 13 = .ok (.iconst 1, 1) := by decide +kernel
theorem dX8_hung_14 : decode cX8_hung 14 = .ok (.invokevirtual 61, 3) := by decide +kernel
theorem dX8_hung_17 : decode cX8_hung 17 = .ok (.ireturn, 1) := by decide +kernel
theorem dX8_hung_18 : decode cX8_hung 18 = .ok (.aload_n 0, 1) := by decide +kernel
theorem dX8_hung_19 : decode cX8_hung 19 = .ok (.aload_n 0, 1) := by decide +kernel
theorem dX8_hung_20 : decode cX8_hung 20 = .ok (.getfield 43, 3) := by decide +kernel
theorem dX8_hung_23 : decode cX8_hung 23 = .ok (.getfield 116, 3) := by decide +kernel
theorem dX8_hung_26 : decode cX8_hung 26 = .ok (.iload_n 1, 1) := by decide +kernel
theorem dX8_hung_27 : decode cX8_hung 27 = .ok (.iload_n 2, 1) := by decide +kernel
theorem dX8_hung_28 : decode cX8_hung 28 = .ok (.invokevirtual 212, 3) := by decide +kernel
theorem dX8_hung_31 : decode cX8_hung 31 = .ok (.invokevirtual 96, 3) := by decide +kernel
theorem dX8_hung_34 : decode cX8_hung 34 = .ok (.ireturn, 1) := by decide +kernel
theorem dX8_equal_0 : decode cX8_equal 0 = .ok (.aload_n 0, 1) := by decide +kernel
theorem dX8_equal_1 : decode cX8_equal 1 = .ok (.iload_n 1, 1) := by decide +kernel
theorem dX8_equal_2 : decode cX8_equal 2 = .ok (.invokevirtual 140, 3) := by decide +kernel
theorem dX8_equal_5 : decode cX8_equal 5 = .ok (.ifCond .eq 11, 3) := by decide +kernel
theorem dX8_equal_8 : decode cX8_equal 8 = .ok (.aload_n 0, 1) := by decide +kernel
theorem dX8_equal_9 : decode cX8_equal 9 = .ok (.iload_n 2, 1) := by decide +kernel
theorem dX8_equal_10 : decode cX8_equal 10 = .ok (.invokevirtual 140, 3) := by decide +kernel
theorem dX8_equal_13 : decode cX8_equal 13 = .ok (.ifCond .ne 9, 3) := by decide +kernel
theorem dX8_equal_16 : decode cX8_equal 16 = .ok (.aload_n 0, 1) := by decide +kernel
theorem dX8_equal_17 : decode cX8_equal 17 = .ok (.iconst 1, 1) := by decide +kernel
theorem dX8_equal_18 : decode cX8_equal 18 = .ok (.invokevirtual 61, 3) := by decide +kernel
theorem dX8_equal_21 : decode cX8_equal 21 = .ok (.ireturn, 1) := by decide +kernel
theorem dX8_equal_22 : decode cX8_equal 22 = .ok (.aload_n 0, 1) := by decide +kernel
theorem dX8_equal_23 : decode cX8_equal 23 = .ok (.aload_n 0, 1) := by decide +kernel
theorem dX8_equal_24 : decode cX8_equal 24 = .ok (.aload_n 0, 1) := by decide +kernel
theorem dX8_equal_25 : decode cX8_equal 25 = .ok (.getfield 43, 3) := by decide +kernel
theorem dX8_equal_28 : decode cX8_equal 28 = .ok (.getfield 108, 3) := by decide +kernel
theorem dX8_equal_31 : decode cX8_equal 31 = .ok (.iload_n 1, 1) := by decide +kernel
theorem dX8_equal_32 : decode cX8_equal 32 = .ok (.iload_n 2, 1) := by decide +kernel
theorem dX8_equal_33 : decode cX8_equal 33 = .ok (.invokevirtual 215, 3) := by decide +kernel
theorem dX8_equal_36 : decode cX8_equal 36 = .ok (.invokevirtual 186, 3) := by decide +kernel
theorem dX8_equal_39 : decode cX8_equal 39 = .ok (.invokevirtual 96, 3) := by decide +kernel
theorem dX8_equal_42 : decode cX8_equal 42 = .ok (.ireturn, 1) := by decide +kernel
theorem dX8_proves_0 : decode cX8_proves 0 = .ok (.aload_n 0, 1) := by decide +kernel
theorem dX8_proves_1 : decode cX8_proves 1 = .ok (.iload_n 2, 1) := by decide +kernel
theorem dX8_proves_2 : decode cX8_proves 2 = .ok (.invokevirtual 140, 3) := by decide +kernel
theorem dX8_proves_5 : decode cX8_proves 5 = .ok (.ifCond .eq 11, 3) := by decide +kernel
theorem dX8_proves_8 : decode cX8_proves 8 = .ok (.aload_n 0, 1) := by decide +kernel
theorem dX8_proves_9 : decode cX8_proves 9 = .ok (.iload_n 3, 1) := by decide +kernel
theorem dX8_proves_10 : decode cX8_proves 10 = .ok (.invokevirtual 140, 3) := by decide +kernel
theorem dX8_proves_13 : decode cX8_proves 13 = .ok (.ifCond .ne 9, 3) := by decide +kernel
theorem dX8_proves_16 : decode cX8_proves 16 = .ok (.aload_n 0, 1) := by decide +kernel
theorem dX8_proves_17 : decode cX8_proves 17 = .ok (.iconst 1, 1) := by decide +kernel
theorem dX8_proves_18 : decode cX8_proves 18 = .ok (.invokevirtual 61, 3) := by decide +kernel
theorem dX8_proves_21 : decode cX8_proves 21 = .ok (.ireturn, 1) := by decide +kernel
theorem dX8_proves_22 : decode cX8_proves 22 = .ok (.iload_n 1, 1) := by decide +kernel
theorem dX8_proves_23 : decode cX8_proves 23 = .ok (.ifCond .lt 14, 3) := by decide +kernel
theorem dX8_proves_26 : decode cX8_proves 26 = .ok (.iload_n 1, 1) := by decide +kernel
theorem dX8_proves_27 : decode cX8_proves 27 = .ok (.aload_n 0, 1) := by decide +kernel
theorem dX8_proves_28 : decode cX8_proves 28 = .ok (.getfield 43, 3) := by decide +kernel
theorem dX8_proves_31 : decode cX8_proves 31 = .ok (.invokevirtual 178, 3) := by decide +kernel
theorem dX8_proves_34 : decode cX8_proves 34 = .ok (.if_icmp .le 9, 3) := by decide +kernel
theorem dX8_proves_37 : decode cX8_proves 37 = .ok (.aload_n 0, 1) := by decide +kernel
theorem dX8_proves_38 : decode cX8_proves 38 = .ok (.iconst 2, 1) := by decide +kernel
theorem dX8_proves_39 : decode cX8_proves 39 = .ok (.invokevirtual 61, 3) := by decide +kernel
theorem dX8_proves_42 : decode cX8_proves 42 = .ok (.ireturn, 1) := by decide +kernel
theorem dX8_proves_43 : decode cX8_proves 43 = .ok (.aload_n 0, 1) := by decide +kernel
theorem dX8_proves_44 : decode cX8_proves 44 = .ok (.aload_n 0, 1) := by decide +kernel
theorem dX8_proves_45 : decode cX8_proves 45 = .ok (.aload_n 0, 1) := by decide +kernel
theorem dX8_proves_46 : decode cX8_proves 46 = .ok (.iload_n 1, 1) := by decide +kernel
theorem dX8_proves_47 : decode cX8_proves 47 = .ok (.iload_n 2, 1) := by decide +kernel
theorem dX8_proves_48 : decode cX8_proves 48 = .ok (.iload_n 3, 1) := by decide +kernel
theorem dX8_proves_49 : decode cX8_proves 49 = .ok (.invokevirtual 182, 3) := by decide +kernel
theorem dX8_proves_52 : decode cX8_proves 52 = .ok (.invokevirtual 186, 3) := by decide +kernel
theorem dX8_proves_55 : decode cX8_proves 55 = .ok (.invokevirtual 96, 3) := by decide +kernel
theorem dX8_proves_58 : decode cX8_proves 58 = .ok (.ireturn, 1) := by decide +kernel
theorem dX8_would_0 : decode cX8_would 0 = .ok (.aload_n 0, 1) := by decide +kernel
theorem dX8_would_1 : decode cX8_would 1 = .ok (.iload_n 1, 1) := by decide +kernel
theorem dX8_would_2 : decode cX8_would 2 = .ok (.invokevirtual 140, 3) := by decide +kernel
theorem dX8_would_5 : decode cX8_would 5 = .ok (.ifCond .eq 20, 3) := by decide +kernel
theorem dX8_would_8 : decode cX8_would 8 = .ok (.aload_n 0, 1) := by decide +kernel
theorem dX8_would_9 : decode cX8_would 9 = .ok (.iload_n 2, 1) := by decide +kernel
theorem dX8_would_10 : decode cX8_would 10 = .ok (.invokevirtual 140, 3) := by decide +kernel
theorem dX8_would_13 : decode cX8_would 13 = .ok (.ifCond .eq 12, 3) := by decide +kernel
theorem dX8_would_16 : decode cX8_would 16 = .ok (.iload_n 3, 1) := by decide +kernel
theorem dX8_would_17 : decode cX8_would 17 = .ok (.ifCond .lt 8, 3) := by decide +kernel
theorem dX8_would_20 : decode cX8_would 20 = .ok (.iload_n 3, 1) := by decide +kernel
theorem dX8_would_21 : decode cX8_would 21 = .ok (.iconst 2, 1) := by decide +kernel
theorem dX8_would_22 : decode cX8_would 22 = .ok (.if_icmp .le 9, 3) := by decide +kernel
theorem dX8_would_25 : decode cX8_would 25 = .ok (.aload_n 0, 1) := by decide +kernel
theorem dX8_would_26 : decode cX8_would 26 = .ok (.iconst 1, 1) := by decide +kernel
theorem dX8_would_27 : decode cX8_would 27 = .ok (.invokevirtual 61, 3) := by decide +kernel
theorem dX8_would_30 : decode cX8_would 30 = .ok (.ireturn, 1) := by decide +kernel
theorem dX8_would_31 : decode cX8_would 31 = .ok (.aload_n 0, 1) := by decide +kernel
theorem dX8_would_32 : decode cX8_would 32 = .ok (.getfield 33, 3) := by decide +kernel
theorem dX8_would_35 : decode cX8_would 35 = .ok (.aload_n 0, 1) := by decide +kernel
theorem dX8_would_36 : decode cX8_would 36 = .ok (.getfield 43, 3) := by decide +kernel
theorem dX8_would_39 : decode cX8_would 39 = .ok (.getfield 108, 3) := by decide +kernel
theorem dX8_would_42 : decode cX8_would 42 = .ok (.invokevirtual 251, 3) := by decide +kernel
theorem dX8_would_45 : decode cX8_would 45 = .ok (.aload_n 0, 1) := by decide +kernel
theorem dX8_would_46 : decode cX8_would 46 = .ok (.getfield 43, 3) := by decide +kernel
theorem dX8_would_49 : decode cX8_would 49 = .ok (.iload_n 1, 1) := by decide +kernel
theorem dX8_would_50 : decode cX8_would 50 = .ok (.iload_n 2, 1) := by decide +kernel
theorem dX8_would_51 : decode cX8_would 51 = .ok (.aload_n 0, 1) := by decide +kernel
theorem dX8_would_52 : decode cX8_would 52 = .ok (.getfield 33, 3) := by decide +kernel
theorem dX8_would_55 : decode cX8_would 55 = .ok (.invokevirtual 236, 3) := by decide +kernel
theorem dX8_would_58 : decode cX8_would 58 = .ok (.iload_n 3, 1) := by decide +kernel
theorem dX8_would_59 : decode cX8_would 59 = .ok (.ifCond .ne 15, 3) := by decide +kernel
theorem dX8_would_62 : decode cX8_would 62 = .ok (.aload_n 0, 1) := by decide +kernel
theorem dX8_would_63 : decode cX8_would 63 = .ok (.aload_n 0, 1) := by decide +kernel
theorem dX8_would_64 : decode cX8_would 64 = .ok (.getfield 33, 3) := by decide +kernel
theorem dX8_would_67 : decode cX8_would 67 = .ok (.getfield 111, 3) := by decide +kernel
theorem dX8_would_70 : decode cX8_would 70 = .ok (.invokevirtual 96, 3) := by decide +kernel
theorem dX8_would_73 : decode cX8_would 73 = .ok (.ireturn, 1) := by decide +kernel
theorem dX8_would_74 : decode cX8_would 74 = .ok (.aload_n 0, 1) := by decide +kernel
theorem dX8_would_75 : decode cX8_would 75 = .ok (.iload_n 3, 1) := by decide +kernel
theorem dX8_would_76 : decode cX8_would 76 = .ok (.iconst 1, 1) := by decide +kernel
theorem dX8_would_77 : decode cX8_would 77 = .ok (.if_icmp .ne 17, 3) := by decide +kernel
theorem dX8_would_80 : decode cX8_would 80 = .ok (.aload_n 0, 1) := by decide +kernel
theorem dX8_would_81 : decode cX8_would 81 = .ok (.getfield 43, 3) := by decide +kernel
theorem dX8_would_84 : decode cX8_would 84 = .ok (.aload_n 0, 1) := by decide +kernel
theorem dX8_would_85 : decode cX8_would 85 = .ok (.getfield 33, 3) := by decide +kernel
theorem dX8_would_88 : decode cX8_would 88 = .ok (.invokevirtual 125, 3) := by decide +kernel
theorem dX8_would_91 : decode cX8_would 91 = .ok (.goto 21, 3) := by decide +kernel
theorem dX8_would_94 : decode cX8_would 94 = .ok (.aload_n 0, 1) := by decide +kernel
theorem dX8_would_95 : decode cX8_would 95 = .ok (.getfield 43, 3) := by decide +kernel
theorem dX8_would_98 : decode cX8_would 98 = .ok (.getfield 108, 3) := by decide +kernel
theorem dX8_would_101 : decode cX8_would 101 = .ok (.getfield 111, 3) := by decide +kernel
theorem dX8_would_104 : decode cX8_would 104 = .ok (.aload_n 0, 1) := by decide +kernel
theorem dX8_would_105 : decode cX8_would 105 = .ok (.getfield 33, 3) := by decide +kernel
theorem dX8_would_108 : decode cX8_would 108 = .ok (.getfield 111, 3) := by decide +kernel
theorem dX8_would_111 : decode cX8_would 111 = .ok (.isub, 1) := by decide +kernel
theorem dX8_would_112 : decode cX8_would 112 = .ok (.invokevirtual 96, 3) := by decide +kernel
theorem dX8_would_115 : decode cX8_would 115 = .ok (.ireturn, 1) := by decide +kernel
theorem dX8_without_0 : decode cX8_without 0 = .ok (.aload_n 0, 1) := by decide +kernel
theorem dX8_without_1 : decode cX8_without 1 = .ok (.iload_n 1, 1) := by decide +kernel
theorem dX8_without_2 : decode cX8_without 2 = .ok (.invokevirtual 169, 3) := by decide +kernel
theorem dX8_without_5 : decode cX8_without 5 = .ok (.ifCond .eq 12, 3) := by decide +kernel
theorem dX8_without_8 : decode cX8_without 8 = .ok (.iload_n 2, 1) := by decide +kernel
theorem dX8_without_9 : decode cX8_without 9 = .ok (.ifCond .lt 8, 3) := by decide +kernel
theorem dX8_without_12 : decode cX8_without 12 = .ok (.iload_n 2, 1) := by decide +kernel
theorem dX8_without_13 : decode cX8_without 13 = .ok (.iconst 1, 1) := by decide +kernel
theorem dX8_without_14 : decode cX8_without 14 = .ok (.if_icmp .le 9, 3) := by decide +kernel
theorem dX8_without_17 : decode cX8_without 17 = .ok (.aload_n 0, 1) := by decide +kernel
theorem dX8_without_18 : decode cX8_without 18 = .ok (.iconst 1, 1) := by decide +kernel
theorem dX8_without_19 : decode cX8_without 19 = .ok (.invokevirtual 61, 3) := by decide +kernel
theorem dX8_without_22 : decode cX8_without 22 = .ok (.ireturn, 1) := by decide +kernel
theorem dX8_without_23 : decode cX8_without 23 = .ok (.aload_n 0, 1) := by decide +kernel
theorem dX8_without_24 : decode cX8_without 24 = .ok (.getfield 43, 3) := by decide +kernel
theorem dX8_without_27 : decode cX8_without 27 = .ok (.aload_n 0, 1) := by decide +kernel
theorem dX8_without_28 : decode cX8_without 28 = .ok (.getfield 43, 3) := by decide +kernel
theorem dX8_without_31 : decode cX8_without 31 = .ok (.invokevirtual 178, 3) := by decide +kernel
theorem dX8_without_34 : decode cX8_without 34 = .ok (.iconst 1, 1) := by decide +kernel
theorem dX8_without_35 : decode cX8_without 35 = .ok (.iload_n 1, 1) := by decide +kernel
theorem dX8_without_36 : decode cX8_without 36 = .ok (.ishl, 1) := by decide +kernel
theorem dX8_without_37 : decode cX8_without 37 = .ok (.iconst (-1), 1) := by decide +kernel
theorem dX8_without_38 : decode cX8_without 38 = .ok (.ixor, 1) := by decide +kernel
theorem dX8_without_39 : decode cX8_without 39 = .ok (.iand, 1) := by decide +kernel
theorem dX8_without_40 : decode cX8_without 40 = .ok (.aload_n 0, 1) := by decide +kernel
theorem dX8_without_41 : decode cX8_without 41 = .ok (.getfield 33, 3) := by decide +kernel
theorem dX8_without_44 : decode cX8_without 44 = .ok (.invokevirtual 232, 3) := by decide +kernel
theorem dX8_without_47 : decode cX8_without 47 = .ok (.aload_n 0, 1) := by decide +kernel
theorem dX8_without_48 : decode cX8_without 48 = .ok (.iload_n 2, 1) := by decide +kernel
theorem dX8_without_49 : decode cX8_without 49 = .ok (.ifCond .ne 13, 3) := by decide +kernel
theorem dX8_without_52 : decode cX8_without 52 = .ok (.aload_n 0, 1) := by decide +kernel
theorem dX8_without_53 : decode cX8_without 53 = .ok (.getfield 33, 3) := by decide +kernel
theorem dX8_without_56 : decode cX8_without 56 = .ok (.getfield 111, 3) := by decide +kernel
theorem dX8_without_59 : decode cX8_without 59 = .ok (.goto 14, 3) := by decide +kernel
theorem dX8_without_62 : decode cX8_without 62 = .ok (.aload_n 0, 1) := by decide +kernel
theorem dX8_without_63 : decode cX8_without 63 = .ok (.getfield 43, 3) := by decide +kernel
theorem dX8_without_66 : decode cX8_without 66 = .ok (.aload_n 0, 1) := by decide +kernel
theorem dX8_without_67 : decode cX8_without 67 = .ok (.getfield 33, 3) := by decide +kernel
theorem dX8_without_70 : decode cX8_without 70 = .ok (.invokevirtual 125, 3) := by decide +kernel
theorem dX8_without_73 : decode cX8_without 73 = .ok (.invokevirtual 96, 3) := by decide +kernel
theorem dX8_without_76 : decode cX8_without 76 = .ok (.ireturn, 1) := by decide +kernel
theorem dX8_join_0 : decode cX8_join 0 = .ok (.aload_n 0, 1) := by decide +kernel
theorem dX8_join_1 : decode cX8_join 1 = .ok (.iload_n 1, 1) := by decide +kernel
theorem dX8_join_2 : decode cX8_join 2 = .ok (.invokevirtual 140, 3) := by decide +kernel
theorem dX8_join_5 : decode cX8_join 5 = .ok (.ifCond .eq 11, 3) := by decide +kernel
theorem dX8_join_8 : decode cX8_join 8 = .ok (.aload_n 0, 1) := by decide +kernel
theorem dX8_join_9 : decode cX8_join 9 = .ok (.iload_n 2, 1) := by decide +kernel
theorem dX8_join_10 : decode cX8_join 10 = .ok (.invokevirtual 140, 3) := by decide +kernel
theorem dX8_join_13 : decode cX8_join 13 = .ok (.ifCond .ne 9, 3) := by decide +kernel
theorem dX8_join_16 : decode cX8_join 16 = .ok (.aload_n 0, 1) := by decide +kernel
theorem dX8_join_17 : decode cX8_join 17 = .ok (.iconst 1, 1) := by decide +kernel
theorem dX8_join_18 : decode cX8_join 18 = .ok (.invokevirtual 61, 3) := by decide +kernel
theorem dX8_join_21 : decode cX8_join 21 = .ok (.ireturn, 1) := by decide +kernel
theorem dX8_join_22 : decode cX8_join 22 = .ok (.aload_n 0, 1) := by decide +kernel
theorem dX8_join_23 : decode cX8_join 23 = .ok (.getfield 43, 3) := by decide +kernel
theorem dX8_join_26 : decode cX8_join 26 = .ok (.getfield 102, 3) := by decide +kernel
theorem dX8_join_29 : decode cX8_join 29 = .ok (.bipush 12, 2) := by decide +kernel
theorem dX8_join_31 : decode cX8_join 31 = .ok (.if_icmp .lt 9, 3) := by decide +kernel
theorem dX8_join_34 : decode cX8_join 34 = .ok (.aload_n 0, 1) := by decide +kernel
theorem dX8_join_35 : decode cX8_join 35 = .ok (.iconst 3, 1) := by decide +kernel
theorem dX8_join_36 : decode cX8_join 36 = .ok (.invokevirtual 61, 3) := by decide +kernel
theorem dX8_join_39 : decode cX8_join 39 = .ok (.ireturn, 1) := by decide +kernel
theorem dX8_join_40 : decode cX8_join 40 = .ok (.aload_n 0, 1) := by decide +kernel
theorem dX8_join_41 : decode cX8_join 41 = .ok (.getfield 43, 3) := by decide +kernel
theorem dX8_join_44 : decode cX8_join 44 = .ok (.iconst 0, 1) := by decide +kernel
theorem dX8_join_45 : decode cX8_join 45 = .ok (.invokevirtual 287, 3) := by decide +kernel
theorem dX8_join_48 : decode cX8_join 48 = .ok (.aload_n 0, 1) := by decide +kernel
theorem dX8_join_49 : decode cX8_join 49 = .ok (.getfield 43, 3) := by decide +kernel
theorem dX8_join_52 : decode cX8_join 52 = .ok (.iload_n 1, 1) := by decide +kernel
theorem dX8_join_53 : decode cX8_join 53 = .ok (.iload_n 2, 1) := by decide +kernel
theorem dX8_join_54 : decode cX8_join 54 = .ok (.invokevirtual 290, 3) := by decide +kernel
theorem dX8_join_57 : decode cX8_join 57 = .ok (.aload_n 0, 1) := by decide +kernel
theorem dX8_join_58 : decode cX8_join 58 = .ok (.getfield 19, 3) := by decide +kernel
theorem dX8_join_61 : decode cX8_join 61 = .ok (.iconst 0, 1) := by decide +kernel
theorem dX8_join_62 : decode cX8_join 62 = .ok (.putfield 83, 3) := by decide +kernel
theorem dX8_join_65 : decode cX8_join 65 = .ok (.aload_n 0, 1) := by decide +kernel
theorem dX8_join_66 : decode cX8_join 66 = .ok (.aload_n 0, 1) := by decide +kernel
theorem dX8_join_67 : decode cX8_join 67 = .ok (.getfield 43, 3) := by decide +kernel
theorem dX8_join_70 : decode cX8_join 70 = .ok (.getfield 108, 3) := by decide +kernel
theorem dX8_join_73 : decode cX8_join 73 = .ok (.getfield 111, 3) := by decide +kernel
theorem dX8_join_76 : decode cX8_join 76 = .ok (.invokevirtual 96, 3) := by decide +kernel
theorem dX8_join_79 : decode cX8_join 79 = .ok (.ireturn, 1) := by decide +kernel
theorem dX8_undo_0 : decode cX8_undo 0 = .ok (.aload_n 0, 1) := by decide +kernel
theorem dX8_undo_1 : decode cX8_undo 1 = .ok (.getfield 43, 3) := by decide +kernel
theorem dX8_undo_4 : decode cX8_undo 4 = .ok (.getfield 113, 3) := by decide +kernel
theorem dX8_undo_7 : decode cX8_undo 7 = .ok (.ifCond .ne 5, 3) := by decide +kernel
theorem dX8_undo_10 : decode cX8_undo 10 = .ok (.iconst 0, 1) := by decide +kernel
theorem dX8_undo_11 : decode cX8_undo 11 = .ok (.ireturn, 1) := by decide +kernel
theorem dX8_undo_12 : decode cX8_undo 12 = .ok (.aload_n 0, 1) := by decide +kernel
theorem dX8_undo_13 : decode cX8_undo 13 = .ok (.getfield 43, 3) := by decide +kernel
theorem dX8_undo_16 : decode cX8_undo 16 = .ok (.invokevirtual 300, 3) := by decide +kernel
theorem dX8_undo_19 : decode cX8_undo 19 = .ok (.aload_n 0, 1) := by decide +kernel
theorem dX8_undo_20 : decode cX8_undo 20 = .ok (.getfield 19, 3) := by decide +kernel
theorem dX8_undo_23 : decode cX8_undo 23 = .ok (.iconst 0, 1) := by decide +kernel
theorem dX8_undo_24 : decode cX8_undo 24 = .ok (.putfield 83, 3) := by decide +kernel
theorem dX8_undo_27 : decode cX8_undo 27 = .ok (.iconst 1, 1) := by decide +kernel
theorem dX8_undo_28 : decode cX8_undo 28 = .ok (.ireturn, 1) := by decide +kernel
theorem dX8_trouble_0 : decode cX8_trouble 0 = .ok (.aload_n 0, 1) := by decide +kernel
theorem dX8_trouble_1 : decode cX8_trouble 1 = .ok (.getfield 318, 3) := by decide +kernel
theorem dX8_trouble_4 : decode cX8_trouble 4 = .ok (.ireturn, 1) := by decide +kernel
theorem dX8_answer_0 : decode cX8_answer 0 = .ok (.aload_n 0, 1) := by decide +kernel
theorem dX8_answer_1 : decode cX8_answer 1 = .ok (.iconst 0, 1) := by decide +kernel
theorem dX8_answer_2 : decode cX8_answer 2 = .ok (.putfield 318, 3) := by decide +kernel
theorem dX8_answer_5 : decode cX8_answer 5 = .ok (.aload_n 0, 1) := by decide +kernel
theorem dX8_answer_6 : decode cX8_answer 6 = .ok (.iconst (-1), 1) := by decide +kernel
theorem dX8_answer_7 : decode cX8_answer 7 = .ok (.putfield 50, 3) := by decide +kernel
theorem dX8_answer_10 : decode cX8_answer 10 = .ok (.iload_n 1, 1) := by decide +kernel
theorem dX8_answer_11 : decode cX8_answer 11 = .ok (.ireturn, 1) := by decide +kernel
theorem dX8_refuse_0 : decode cX8_refuse 0 = .ok (.aload_n 0, 1) := by decide +kernel
theorem dX8_refuse_1 : decode cX8_refuse 1 = .ok (.iload_n 1, 1) := by decide +kernel
theorem dX8_refuse_2 : decode cX8_refuse 2 = .ok (.putfield 318, 3) := by decide +kernel
theorem dX8_refuse_5 : decode cX8_refuse 5 = .ok (.aload_n 0, 1) := by decide +kernel
theorem dX8_refuse_6 : decode cX8_refuse 6 = .ok (.iconst (-1), 1) := by decide +kernel
theorem dX8_refuse_7 : decode cX8_refuse 7 = .ok (.putfield 50, 3) := by decide +kernel
theorem dX8_refuse_10 : decode cX8_refuse 10 = .ok (.iconst (-1), 1) := by decide +kernel
theorem dX8_refuse_11 : decode cX8_refuse 11 = .ok (.ireturn, 1) := by decide +kernel
theorem dX8_bit_0 : decode cX8_bit 0 = .ok (.iload_n 1, 1) := by decide +kernel
theorem dX8_bit_1 : decode cX8_bit 1 = .ok (.ifCond .eq 7, 3) := by decide +kernel
theorem dX8_bit_4 : decode cX8_bit 4 = .ok (.iconst 1, 1) := by decide +kernel
theorem dX8_bit_5 : decode cX8_bit 5 = .ok (.goto 4, 3) := by decide +kernel
theorem dX8_bit_8 : decode cX8_bit 8 = .ok (.iconst 0, 1) := by decide +kernel
theorem dX8_bit_9 : decode cX8_bit 9 = .ok (.ireturn, 1) := by decide +kernel
theorem dX8_isTerm_0 : decode cX8_isTerm 0 = .ok (.iload_n 1, 1) := by decide +kernel
theorem dX8_isTerm_1 : decode cX8_isTerm 1 = .ok (.ifCond .lt 21, 3) := by decide +kernel
theorem dX8_isTerm_4 : decode cX8_isTerm 4 = .ok (.iload_n 1, 1) := by decide +kernel
theorem dX8_isTerm_5 : decode cX8_isTerm 5 = .ok (.aload_n 0, 1) := by decide +kernel
theorem dX8_isTerm_6 : decode cX8_isTerm 6 = .ok (.getfield 43, 3) := by decide +kernel
theorem dX8_isTerm_9 : decode cX8_isTerm 9 = .ok (.getfield 87, 3) := by decide +kernel
theorem dX8_isTerm_12 : decode cX8_isTerm 12 = .ok (.getfield 91, 3) := by decide +kernel
theorem dX8_isTerm_15 : decode cX8_isTerm 15 = .ok (.if_icmp .ge 7, 3) := by decide +kernel
theorem dX8_isTerm_18 : decode cX8_isTerm 18 = .ok (.iconst 1, 1) := by decide +kernel
theorem dX8_isTerm_19 : decode cX8_isTerm 19 = .ok (.goto 4, 3) := by decide +kernel
theorem dX8_isTerm_22 : decode cX8_isTerm 22 = .ok (.iconst 0, 1) := by decide +kernel
theorem dX8_isTerm_23 : decode cX8_isTerm 23 = .ok (.ireturn, 1) := by decide +kernel
theorem dX8_isSame_0 : decode cX8_isSame 0 = .ok (.iload_n 1, 1) := by decide +kernel
theorem dX8_isSame_1 : decode cX8_isSame 1 = .ok (.ifCond .lt 18, 3) := by decide +kernel
theorem dX8_isSame_4 : decode cX8_isSame 4 = .ok (.iload_n 1, 1) := by decide +kernel
theorem dX8_isSame_5 : decode cX8_isSame 5 = .ok (.aload_n 0, 1) := by decide +kernel
theorem dX8_isSame_6 : decode cX8_isSame 6 = .ok (.getfield 43, 3) := by decide +kernel
theorem dX8_isSame_9 : decode cX8_isSame 9 = .ok (.getfield 102, 3) := by decide +kernel
theorem dX8_isSame_12 : decode cX8_isSame 12 = .ok (.if_icmp .ge 7, 3) := by decide +kernel
theorem dX8_isSame_15 : decode cX8_isSame 15 = .ok (.iconst 1, 1) := by decide +kernel
theorem dX8_isSame_16 : decode cX8_isSame 16 = .ok (.goto 4, 3) := by decide +kernel
theorem dX8_isSame_19 : decode cX8_isSame 19 = .ok (.iconst 0, 1) := by decide +kernel
theorem dX8_isSame_20 : decode cX8_isSame 20 = .ok (.ireturn, 1) := by decide +kernel
theorem dX8_isOneBy_0 : decode cX8_isOneBy 0 = .ok (.aload_n 0, 1) := by decide +kernel
theorem dX8_isOneBy_1 : decode cX8_isOneBy 1 = .ok (.getfield 43, 3) := by decide +kernel
theorem dX8_isOneBy_4 : decode cX8_isOneBy 4 = .ok (.iload_n 1, 1) := by decide +kernel
theorem dX8_isOneBy_5 : decode cX8_isOneBy 5 = .ok (.aload_n 0, 1) := by decide +kernel
theorem dX8_isOneBy_6 : decode cX8_isOneBy 6 = .ok (.getfield 33, 3) := by decide +kernel
theorem dX8_isOneBy_9 : decode cX8_isOneBy 9 = .ok (.invokevirtual 232, 3) := by decide +kernel
theorem dX8_isOneBy_12 : decode cX8_isOneBy 12 = .ok (.aload_n 0, 1) := by decide +kernel
theorem dX8_isOneBy_13 : decode cX8_isOneBy 13 = .ok (.getfield 33, 3) := by decide +kernel
theorem dX8_isOneBy_16 : decode cX8_isOneBy 16 = .ok (.iload_n 2, 1) := by decide +kernel
theorem dX8_isOneBy_17 : decode cX8_isOneBy 17 = .ok (.iload_n 3, 1) := by decide +kernel
theorem dX8_isOneBy_18 : decode cX8_isOneBy 18 = .ok (.invokevirtual 215, 3) := by decide +kernel
theorem dX8_isOneBy_21 : decode cX8_isOneBy 21 = .ok (.ireturn, 1) := by decide +kernel
theorem dX9_init_0 : decode cX9_init 0 = .ok (.aload_n 0, 1) := by decide +kernel
theorem dX9_init_1 : decode cX9_init 1 = .ok (.invokespecial 1, 3) := by decide +kernel
theorem dX9_init_4 : decode cX9_init 4 = .ok (.aload_n 0, 1) := by decide +kernel
theorem dX9_init_5 : decode cX9_init 5 = .ok (.aload_n 1, 1) := by decide +kernel
theorem dX9_init_6 : decode cX9_init 6 = .ok (.putfield 7, 3) := by decide +kernel
theorem dX9_init_9 : decode cX9_init 9 = .ok (.return_, 1) := by decide +kernel
theorem dX9_next_0 : decode cX9_next 0 = .ok (.aload_n 0, 1) := by decide +kernel
theorem dX9_next_1 : decode cX9_next 1 = .ok (.getfield 13, 3) := by decide +kernel
theorem dX9_next_4 : decode cX9_next 4 = .ok (.aload_n 0, 1) := by decide +kernel
theorem dX9_next_5 : decode cX9_next 5 = .ok (.getfield 7, 3) := by decide +kernel
theorem dX9_next_8 : decode cX9_next 8 = .ok (.arraylength, 1) := by decide +kernel
theorem dX9_next_9 : decode cX9_next 9 = .ok (.if_icmp .ge 18, 3) := by decide +kernel
theorem dX9_next_12 : decode cX9_next 12 = .ok (.aload_n 0, 1) := by decide +kernel
theorem dX9_next_13 : decode cX9_next 13 = .ok (.getfield 7, 3) := by decide +kernel
theorem dX9_next_16 : decode cX9_next 16 = .ok (.aload_n 0, 1) := by decide +kernel
theorem dX9_next_17 : decode cX9_next 17 = .ok (.getfield 13, 3) := by decide +kernel
theorem dX9_next_20 : decode cX9_next 20 = .ok (.iaload, 1) := by decide +kernel
theorem dX9_next_21 : decode cX9_next 21 = .ok (.ldc 17, 2) := by decide +kernel
theorem dX9_next_23 : decode cX9_next 23 = .ok (.iand, 1) := by decide +kernel
theorem dX9_next_24 : decode cX9_next 24 = .ok (.goto 4, 3) := by decide +kernel
theorem dX9_next_27 : decode cX9_next 27 = .ok (.iconst 0, 1) := by decide +kernel
theorem dX9_next_28 : decode cX9_next 28 = .ok (.istore_n 3, 1) := by decide +kernel
theorem dX9_next_29 : decode cX9_next 29 = .ok (.aload_n 0, 1) := by decide +kernel
theorem dX9_next_30 : decode cX9_next 30 = .ok (.dup, 1) := by decide +kernel
theorem dX9_next_31 : decode cX9_next 31 = .ok (.getfield 13, 3) := by decide +kernel
theorem dX9_next_34 : decode cX9_next 34 = .ok (.iconst 1, 1) := by decide +kernel
theorem dX9_next_35 : decode cX9_next 35 = .ok (.iadd, 1) := by decide +kernel
theorem dX9_next_36 : decode cX9_next 36 = .ok (.putfield 13, 3) := by decide +kernel
theorem dX9_next_39 : decode cX9_next 39 = .ok (.iload_n 1, 1) := by decide +kernel
theorem dX9_next_40 : decode cX9_next 40 = .ok (.iload_n 3, 1) := by decide +kernel
theorem dX9_next_41 : decode cX9_next 41 = .ok (.iload_n 2, 1) := by decide +kernel
theorem dX9_next_42 : decode cX9_next 42 = .ok (.iload_n 1, 1) := by decide +kernel
theorem dX9_next_43 : decode cX9_next 43 = .ok (.isub, 1) := by decide +kernel
theorem dX9_next_44 : decode cX9_next 44 = .ok (.iconst 1, 1) := by decide +kernel
theorem dX9_next_45 : decode cX9_next 45 = .ok (.iadd, 1) := by decide +kernel
theorem dX9_next_46 : decode cX9_next 46 = .ok (.irem, 1) := by decide +kernel
theorem dX9_next_47 : decode cX9_next 47 = .ok (.iadd, 1) := by decide +kernel
theorem dX9_next_48 : decode cX9_next 48 = .ok (.ireturn, 1) := by decide +kernel
theorem dX10_init_0 : decode cX10_init 0 = .ok (.aload_n 0, 1) := by decide +kernel
theorem dX10_init_1 : decode cX10_init 1 = .ok (.invokespecial 1, 3) := by decide +kernel
theorem dX10_init_4 : decode cX10_init 4 = .ok (.aload_n 0, 1) := by decide +kernel
theorem dX10_init_5 : decode cX10_init 5 = .ok (.bipush 12, 2) := by decide +kernel
theorem dX10_init_7 : decode cX10_init 7 = .ok (.newarray .int, 2) := by decide +kernel
theorem dX10_init_9 : decode cX10_init 9 = .ok (.putfield 7, 3) := by decide +kernel
theorem dX10_init_12 : decode cX10_init 12 = .ok (.aload_n 0, 1) := by decide +kernel
theorem dX10_init_13 : decode cX10_init 13 = .ok (.bipush 12, 2) := by decide +kernel
theorem dX10_init_15 : decode cX10_init 15 = .ok (.newarray .int, 2) := by decide +kernel
theorem dX10_init_17 : decode cX10_init 17 = .ok (.putfield 13, 3) := by decide +kernel
theorem dX10_init_20 : decode cX10_init 20 = .ok (.aload_n 0, 1) := by decide +kernel
theorem dX10_init_21 : decode cX10_init 21 = .ok (.bipush 12, 2) := by decide +kernel
theorem dX10_init_23 : decode cX10_init 23 = .ok (.newarray .int, 2) := by decide +kernel
theorem dX10_init_25 : decode cX10_init 25 = .ok (.putfield 16, 3) := by decide +kernel
theorem dX10_init_28 : decode cX10_init 28 = .ok (.aload_n 0, 1) := by decide +kernel
theorem dX10_init_29 : decode cX10_init 29 = .ok (.bipush 12, 2) := by decide +kernel
theorem dX10_init_31 : decode cX10_init 31 = .ok (.newarray .int, 2) := by decide +kernel
theorem dX10_init_33 : decode cX10_init 33 = .ok (.putfield 19, 3) := by decide +kernel
theorem dX10_init_36 : decode cX10_init 36 = .ok (.aload_n 0, 1) := by decide +kernel
theorem dX10_init_37 : decode cX10_init 37 = .ok (.bipush 12, 2) := by decide +kernel
theorem dX10_init_39 : decode cX10_init 39 = .ok (.newarray .int, 2) := by decide +kernel
theorem dX10_init_41 : decode cX10_init 41 = .ok (.putfield 22, 3) := by decide +kernel
theorem dX10_init_44 : decode cX10_init 44 = .ok (.aload_n 0, 1) := by decide +kernel
theorem dX10_init_45 : decode cX10_init 45 = .ok (.bipush 12, 2) := by decide +kernel
theorem dX10_init_47 : decode cX10_init 47 = .ok (.newarray .int, 2) := by decide +kernel
theorem dX10_init_49 : decode cX10_init 49 = .ok (.putfield 25, 3) := by decide +kernel
theorem dX10_init_52 : decode cX10_init 52 = .ok (.return_, 1) := by decide +kernel
theorem dX10_name_0 : decode cX10_name 0 = .ok (.bipush 107, 2) := by decide +kernel
theorem dX10_name_2 : decode cX10_name 2 = .ok (.iload_n 0, 1) := by decide +kernel
theorem dX10_name_3 : decode cX10_name 3 = .ok (.iadd, 1) := by decide +kernel
theorem dX10_name_4 : decode cX10_name 4 = .ok (.i2c, 1) := by decide +kernel
theorem dX10_name_5 : decode cX10_name 5 = .ok (.ireturn, 1) := by decide +kernel
theorem dX10_text_0 : decode cX10_text 0 = .ok (.new 28, 3) := by decide +kernel
theorem dX10_text_3 : decode cX10_text 3 = .ok (.dup, 1) := by decide +kernel
theorem dX10_text_4 : decode cX10_text 4 = .ok (.ldc 30, 2) := by decide +kernel
theorem dX10_text_6 : decode cX10_text 6 = .ok (.invokespecial 32, 3) := by decide +kernel
theorem dX10_text_9 : decode cX10_text 9 = .ok (.astore_n 2, 1) := by decide +kernel
theorem dX10_text_10 : decode cX10_text 10 = .ok (.aload_n 1, 1) := by decide +kernel
theorem dX10_text_11 : decode cX10_text 11 = .ok (.iconst 4, 1) := by decide +kernel
theorem dX10_text_12 : decode cX10_text 12 = .ok (.bipush 9, 2) := by decide +kernel
theorem dX10_text_14 : decode cX10_text 14 = .ok (.invokevirtual 35, 3) := by decide +kernel
theorem dX10_text_17 : decode cX10_text 17 = .ok (.istore_n 3, 1) := by decide +kernel
theorem dX10_text_18 : decode cX10_text 18 = .ok (.iconst 0, 1) := by decide +kernel
theorem dX10_text_19 : decode cX10_text 19 = .ok (.istore 4, 2) := by decide +kernel
theorem dX10_text_21 : decode cX10_text 21 = .ok (.iload 4, 2) := by decide +kernel
theorem dX10_text_23 : decode cX10_text 23 = .ok (.iload_n 3, 1) := by decide +kernel
theorem dX10_text_24 : decode cX10_text 24 = .ok (.if_icmp .ge 349, 3) := by decide +kernel
theorem dX10_text_27 : decode cX10_text 27 = .ok (.aload_n 0, 1) := by decide +kernel
theorem dX10_text_28 : decode cX10_text 28 = .ok (.getfield 7, 3) := by decide +kernel
theorem dX10_text_31 : decode cX10_text 31 = .ok (.iload 4, 2) := by decide +kernel
theorem dX10_text_33 : decode cX10_text 33 = .ok (.iload 4, 2) := by decide +kernel
theorem dX10_text_35 : decode cX10_text 35 = .ok (.iconst 3, 1) := by decide +kernel
theorem dX10_text_36 : decode cX10_text 36 = .ok (.if_icmp .ge 8, 3) := by decide +kernel
theorem dX10_text_39 : decode cX10_text 39 = .ok (.iload 4, 2) := by decide +kernel
theorem dX10_text_41 : decode cX10_text 41 = .ok (.goto 9, 3) := by decide +kernel
theorem dX10_text_44 : decode cX10_text 44 = .ok (.aload_n 1, 1) := by decide +kernel
theorem dX10_text_45 : decode cX10_text 45 = .ok (.iconst 3, 1) := by decide +kernel
theorem dX10_text_46 : decode cX10_text 46 = .ok (.iconst 4, 1) := by decide +kernel
theorem dX10_text_47 : decode cX10_text 47 = .ok (.invokevirtual 35, 3) := by decide +kernel
theorem dX10_text_50 : decode cX10_text 50 = .ok (.iastore, 1) := by decide +kernel
theorem dX10_text_51 : decode cX10_text 51 = .ok (.aload_n 2, 1) := by decide +kernel
theorem dX10_text_52 : decode cX10_text 52 = .ok (.ldc 41, 2) := by decide +kernel
theorem dX10_text_54 : decode cX10_text 54 = .ok (.invokevirtual 43, 3) := by decide +kernel
theorem dX10_text_57 : decode cX10_text 57 = .ok (.iload 4, 2) := by decide +kernel
theorem dX10_text_59 : decode cX10_text 59 = .ok (.invokestatic 47, 3) := by decide +kernel
theorem dX10_text_62 : decode cX10_text 62 = .ok (.invokevirtual 51, 3) := by decide +kernel
theorem dX10_text_65 : decode cX10_text 65 = .ok (.ldc 54, 2) := by decide +kernel
theorem dX10_text_67 : decode cX10_text 67 = .ok (.invokevirtual 43, 3) := by decide +kernel
theorem dX10_text_70 : decode cX10_text 70 = .ok (.aload_n 0, 1) := by decide +kernel
theorem dX10_text_71 : decode cX10_text 71 = .ok (.getfield 7, 3) := by decide +kernel
theorem dX10_text_74 : decode cX10_text 74 = .ok (.iload 4, 2) := by decide +kernel
theorem dX10_text_76 : decode cX10_text 76 = .ok (.iaload, 1) := by decide +kernel
theorem dX10_text_77 : decode cX10_text 77 = .ok (.iconst 3, 1) := by decide +kernel
theorem dX10_text_78 : decode cX10_text 78 = .ok (.if_icmp .ge 16, 3) := by decide +kernel
theorem dX10_text_81 : decode cX10_text 81 = .ok (.bipush 97, 2) := by decide +kernel
theorem dX10_text_83 : decode cX10_text 83 = .ok (.aload_n 0, 1) := by decide +kernel
theorem dX10_text_84 : decode cX10_text 84 = .ok (.getfield 7, 3) := by decide +kernel
theorem dX10_text_87 : decode cX10_text 87 = .ok (.iload 4, 2) := by decide +kernel
theorem dX10_text_89 : decode cX10_text 89 = .ok (.iaload, 1) := by decide +kernel
theorem dX10_text_90 : decode cX10_text 90 = .ok (.iadd, 1) := by decide +kernel
theorem dX10_text_91 : decode cX10_text 91 = .ok (.goto 21, 3) := by decide +kernel
theorem dX10_text_94 : decode cX10_text 94 = .ok (.aload_n 0, 1) := by decide +kernel
theorem dX10_text_95 : decode cX10_text 95 = .ok (.getfield 7, 3) := by decide +kernel
theorem dX10_text_98 : decode cX10_text 98 = .ok (.iload 4, 2) := by decide +kernel
theorem dX10_text_100 : decode cX10_text 100 = .ok (.iaload, 1) := by decide +kernel
theorem dX10_text_101 : decode cX10_text 101 = .ok (.iconst 3, 1) := by decide +kernel
theorem dX10_text_102 : decode cX10_text 102 = .ok (.if_icmp .ne 8, 3) := by decide +kernel
theorem dX10_text_105 : decode cX10_text 105 = .ok (.bipush 102, 2) := by decide +kernel
theorem dX10_text_107 : decode cX10_text 107 = .ok (.goto 5, 3) := by decide +kernel
theorem dX10_text_110 : decode cX10_text 110 = .ok (.bipush 103, 2) := by decide +kernel
theorem dX10_text_112 : decode cX10_text 112 = .ok (.i2c, 1) := by decide +kernel
theorem dX10_text_113 : decode cX10_text 113 = .ok (.invokevirtual 51, 3) := by decide +kernel
theorem dX10_text_116 : decode cX10_text 116 = .ok (.pop, 1) := by decide +kernel
theorem dX10_text_117 : decode cX10_text 117 = .ok (.aload_n 0, 1) := by decide +kernel
theorem dX10_text_118 : decode cX10_text 118 = .ok (.getfield 13, 3) := by decide +kernel
theorem dX10_text_121 : decode cX10_text 121 = .ok (.iload 4, 2) := by decide +kernel
theorem dX10_text_123 : decode cX10_text 123 = .ok (.iload 4, 2) := by decide +kernel
theorem dX10_text_125 : decode cX10_text 125 = .ok (.ifCond .le 15, 3) := by decide +kernel
theorem dX10_text_128 : decode cX10_text 128 = .ok (.aload_n 1, 1) := by decide +kernel
theorem dX10_text_129 : decode cX10_text 129 = .ok (.iconst 0, 1) := by decide +kernel
theorem dX10_text_130 : decode cX10_text 130 = .ok (.iload 4, 2) := by decide +kernel
theorem dX10_text_132 : decode cX10_text 132 = .ok (.iconst 1, 1) := by decide +kernel
theorem dX10_text_133 : decode cX10_text 133 = .ok (.isub, 1) := by decide +kernel
theorem dX10_text_134 : decode cX10_text 134 = .ok (.invokevirtual 35, 3) := by decide +kernel
theorem dX10_text_137 : decode cX10_text 137 = .ok (.goto 4, 3) := by decide +kernel
theorem dX10_text_140 : decode cX10_text 140 = .ok (.iconst 0, 1) := by decide +kernel
theorem dX10_text_141 : decode cX10_text 141 = .ok (.iastore, 1) := by decide +kernel
theorem dX10_text_142 : decode cX10_text 142 = .ok (.aload_n 0, 1) := by decide +kernel
theorem dX10_text_143 : decode cX10_text 143 = .ok (.getfield 16, 3) := by decide +kernel
theorem dX10_text_146 : decode cX10_text 146 = .ok (.iload 4, 2) := by decide +kernel
theorem dX10_text_148 : decode cX10_text 148 = .ok (.iload 4, 2) := by decide +kernel
theorem dX10_text_150 : decode cX10_text 150 = .ok (.ifCond .le 15, 3) := by decide +kernel
theorem dX10_text_153 : decode cX10_text 153 = .ok (.aload_n 1, 1) := by decide +kernel
theorem dX10_text_154 : decode cX10_text 154 = .ok (.iconst 0, 1) := by decide +kernel
theorem dX10_text_155 : decode cX10_text 155 = .ok (.iload 4, 2) := by decide +kernel
theorem dX10_text_157 : decode cX10_text 157 = .ok (.iconst 1, 1) := by decide +kernel
theorem dX10_text_158 : decode cX10_text 158 = .ok (.isub, 1) := by decide +kernel
theorem dX10_text_159 : decode cX10_text 159 = .ok (.invokevirtual 35, 3) := by decide +kernel
theorem dX10_text_162 : decode cX10_text 162 = .ok (.goto 4, 3) := by decide +kernel
theorem dX10_text_165 : decode cX10_text 165 = .ok (.iconst 0, 1) := by decide +kernel
theorem dX10_text_166 : decode cX10_text 166 = .ok (.iastore, 1) := by decide +kernel
theorem dX10_text_167 : decode cX10_text 167 = .ok (.aload_n 0, 1) := by decide +kernel
theorem dX10_text_168 : decode cX10_text 168 = .ok (.getfield 7, 3) := by decide +kernel
theorem dX10_text_171 : decode cX10_text 171 = .ok (.iload 4, 2) := by decide +kernel
theorem dX10_text_173 : decode cX10_text 173 = .ok (.iaload, 1) := by decide +kernel
theorem dX10_text_174 : decode cX10_text 174 = .ok (.iconst 3, 1) := by decide +kernel
theorem dX10_text_175 : decode cX10_text 175 = .ok (.if_icmp .ne 28, 3) := by decide +kernel
theorem dX10_text_178 : decode cX10_text 178 = .ok (.aload_n 2, 1) := by decide +kernel
theorem dX10_text_179 : decode cX10_text 179 = .ok (.ldc 56, 2) := by decide +kernel
theorem dX10_text_181 : decode cX10_text 181 = .ok (.invokevirtual 43, 3) := by decide +kernel
theorem dX10_text_184 : decode cX10_text 184 = .ok (.aload_n 0, 1) := by decide +kernel
theorem dX10_text_185 : decode cX10_text 185 = .ok (.getfield 13, 3) := by decide +kernel
theorem dX10_text_188 : decode cX10_text 188 = .ok (.iload 4, 2) := by decide +kernel
theorem dX10_text_190 : decode cX10_text 190 = .ok (.iaload, 1) := by decide +kernel
theorem dX10_text_191 : decode cX10_text 191 = .ok (.invokestatic 47, 3) := by decide +kernel
theorem dX10_text_194 : decode cX10_text 194 = .ok (.invokevirtual 51, 3) := by decide +kernel
theorem dX10_text_197 : decode cX10_text 197 = .ok (.ldc 58, 2) := by decide +kernel
theorem dX10_text_199 : decode cX10_text 199 = .ok (.invokevirtual 43, 3) := by decide +kernel
theorem dX10_text_202 : decode cX10_text 202 = .ok (.pop, 1) := by decide +kernel
theorem dX10_text_203 : decode cX10_text 203 = .ok (.aload_n 0, 1) := by decide +kernel
theorem dX10_text_204 : decode cX10_text 204 = .ok (.getfield 7, 3) := by decide +kernel
theorem dX10_text_207 : decode cX10_text 207 = .ok (.iload 4, 2) := by decide +kernel
theorem dX10_text_209 : decode cX10_text 209 = .ok (.iaload, 1) := by decide +kernel
theorem dX10_text_210 : decode cX10_text 210 = .ok (.iconst 4, 1) := by decide +kernel
theorem dX10_text_211 : decode cX10_text 211 = .ok (.if_icmp .ne 46, 3) := by decide +kernel
theorem dX10_text_214 : decode cX10_text 214 = .ok (.aload_n 2, 1) := by decide +kernel
theorem dX10_text_215 : decode cX10_text 215 = .ok (.ldc 56, 2) := by decide +kernel
theorem dX10_text_217 : decode cX10_text 217 = .ok (.invokevirtual 43, 3) := by decide +kernel
theorem dX10_text_220 : decode cX10_text 220 = .ok (.aload_n 0, 1) := by decide +kernel
theorem dX10_text_221 : decode cX10_text 221 = .ok (.getfield 13, 3) := by decide +kernel
theorem dX10_text_224 : decode cX10_text 224 = .ok (.iload 4, 2) := by decide +kernel
theorem dX10_text_226 : decode cX10_text 226 = .ok (.iaload, 1) := by decide +kernel
theorem dX10_text_227 : decode cX10_text 227 = .ok (.invokestatic 47, 3) := by decide +kernel
theorem dX10_text_230 : decode cX10_text 230 = .ok (.invokevirtual 51, 3) := by decide +kernel
theorem dX10_text_233 : decode cX10_text 233 = .ok (.ldc 60, 2) := by decide +kernel
theorem dX10_text_235 : decode cX10_text 235 = .ok (.invokevirtual 43, 3) := by decide +kernel
theorem dX10_text_238 : decode cX10_text 238 = .ok (.aload_n 0, 1) := by decide +kernel
theorem dX10_text_239 : decode cX10_text 239 = .ok (.getfield 16, 3) := by decide +kernel
theorem dX10_text_242 : decode cX10_text 242 = .ok (.iload 4, 2) := by decide +kernel
theorem dX10_text_244 : decode cX10_text 244 = .ok (.iaload, 1) := by decide +kernel
theorem dX10_text_245 : decode cX10_text 245 = .ok (.invokestatic 47, 3) := by decide +kernel
theorem dX10_text_248 : decode cX10_text 248 = .ok (.invokevirtual 51, 3) := by decide +kernel
theorem dX10_text_251 : decode cX10_text 251 = .ok (.ldc 58, 2) := by decide +kernel
theorem dX10_text_253 : decode cX10_text 253 = .ok (.invokevirtual 43, 3) := by decide +kernel
theorem dX10_text_256 : decode cX10_text 256 = .ok (.pop, 1) := by decide +kernel
theorem dX10_text_257 : decode cX10_text 257 = .ok (.aload_n 0, 1) := by decide +kernel
theorem dX10_text_258 : decode cX10_text 258 = .ok (.dup, 1) := by decide +kernel
theorem dX10_text_259 : decode cX10_text 259 = .ok (.getfield 62, 3) := by decide +kernel
theorem dX10_text_262 : decode cX10_text 262 = .ok (.iconst 1, 1) := by decide +kernel
theorem dX10_text_263 : decode cX10_text 263 = .ok (.iadd, 1) := by decide +kernel
theorem dX10_text_264 : decode cX10_text 264 = .ok (.putfield 62, 3) := by decide +kernel
theorem dX10_text_267 : decode cX10_text 267 = .ok (.iload 4, 2) := by decide +kernel
theorem dX10_text_269 : decode cX10_text 269 = .ok (.iconst 2, 1) := by decide +kernel
theorem dX10_text_270 : decode cX10_text 270 = .ok (.if_icmp .le 97, 3) := by decide +kernel
theorem dX10_text_273 : decode cX10_text 273 = .ok (.aload_n 1, 1) := by decide +kernel
theorem dX10_text_274 : decode cX10_text 274 = .ok (.iconst 0, 1) := by decide +kernel
theorem dX10_text_275 : decode cX10_text 275 = .ok (.iconst 1, 1) := by decide +kernel
theorem dX10_text_276 : decode cX10_text 276 = .ok (.invokevirtual 35, 3) := by decide +kernel
theorem dX10_text_279 : decode cX10_text 279 = .ok (.iconst 1, 1) := by decide +kernel
theorem dX10_text_280 : decode cX10_text 280 = .ok (.if_icmp .ne 87, 3) := by decide +kernel
theorem dX10_text_283 : decode cX10_text 283 = .ok (.aload_n 0, 1) := by decide +kernel
theorem dX10_text_284 : decode cX10_text 284 = .ok (.getfield 19, 3) := by decide +kernel
theorem dX10_text_287 : decode cX10_text 287 = .ok (.aload_n 0, 1) := by decide +kernel
theorem dX10_text_288 : decode cX10_text 288 = .ok (.getfield 66, 3) := by decide +kernel
theorem dX10_text_291 : decode cX10_text 291 = .ok (.aload_n 1, 1) := by decide +kernel
theorem dX10_text_292 : decode cX10_text 292 = .ok (.iconst 0, 1) := by decide +kernel
theorem dX10_text_293 : decode cX10_text 293 = .ok (.iload 4, 2) := by decide +kernel
theorem dX10_text_295 : decode cX10_text 295 = .ok (.invokevirtual 35, 3) := by decide +kernel
theorem dX10_text_298 : decode cX10_text 298 = .ok (.iastore, 1) := by decide +kernel
theorem dX10_text_299 : decode cX10_text 299 = .ok (.aload_n 0, 1) := by decide +kernel
theorem dX10_text_300 : decode cX10_text 300 = .ok (.getfield 22, 3) := by decide +kernel
theorem dX10_text_303 : decode cX10_text 303 = .ok (.aload_n 0, 1) := by decide +kernel
theorem dX10_text_304 : decode cX10_text 304 = .ok (.getfield 66, 3) := by decide +kernel
theorem dX10_text_307 : decode cX10_text 307 = .ok (.aload_n 1, 1) := by decide +kernel
theorem dX10_text_308 : decode cX10_text 308 = .ok (.iconst 0, 1) := by decide +kernel
theorem dX10_text_309 : decode cX10_text 309 = .ok (.iload 4, 2) := by decide +kernel
theorem dX10_text_311 : decode cX10_text 311 = .ok (.invokevirtual 35, 3) := by decide +kernel
theorem dX10_text_314 : decode cX10_text 314 = .ok (.iastore, 1) := by decide +kernel
theorem dX10_text_315 : decode cX10_text 315 = .ok (.aload_n 2, 1) := by decide +kernel
theorem dX10_text_316 : decode cX10_text 316 = .ok (.ldc 69, 2) := by decide +kernel
theorem dX10_text_318 : decode cX10_text 318 = .ok (.invokevirtual 43, 3) := by decide +kernel
theorem dX10_text_321 : decode cX10_text 321 = .ok (.aload_n 0, 1) := by decide +kernel
theorem dX10_text_322 : decode cX10_text 322 = .ok (.getfield 19, 3) := by decide +kernel
theorem dX10_text_325 : decode cX10_text 325 = .ok (.aload_n 0, 1) := by decide +kernel
theorem dX10_text_326 : decode cX10_text 326 = .ok (.getfield 66, 3) := by decide +kernel
theorem dX10_text_329 : decode cX10_text 329 = .ok (.iaload, 1) := by decide +kernel
theorem dX10_text_330 : decode cX10_text 330 = .ok (.invokestatic 47, 3) := by decide +kernel
theorem dX10_text_333 : decode cX10_text 333 = .ok (.invokevirtual 51, 3) := by decide +kernel
theorem dX10_text_336 : decode cX10_text 336 = .ok (.bipush 32, 2) := by decide +kernel
theorem dX10_text_338 : decode cX10_text 338 = .ok (.invokevirtual 51, 3) := by decide +kernel
theorem dX10_text_341 : decode cX10_text 341 = .ok (.aload_n 0, 1) := by decide +kernel
theorem dX10_text_342 : decode cX10_text 342 = .ok (.getfield 22, 3) := by decide +kernel
theorem dX10_text_345 : decode cX10_text 345 = .ok (.aload_n 0, 1) := by decide +kernel
theorem dX10_text_346 : decode cX10_text 346 = .ok (.getfield 66, 3) := by decide +kernel
theorem dX10_text_349 : decode cX10_text 349 = .ok (.iaload, 1) := by decide +kernel
theorem dX10_text_350 : decode cX10_text 350 = .ok (.invokestatic 47, 3) := by decide +kernel
theorem dX10_text_353 : decode cX10_text 353 = .ok (.invokevirtual 51, 3) := by decide +kernel
theorem dX10_text_356 : decode cX10_text 356 = .ok (.pop, 1) := by decide +kernel
theorem dX10_text_357 : decode cX10_text 357 = .ok (.aload_n 0, 1) := by decide +kernel
theorem dX10_text_358 : decode cX10_text 358 = .ok (.dup, 1) := by decide +kernel
theorem dX10_text_359 : decode cX10_text 359 = .ok (.getfield 66, 3) := by decide +kernel
theorem dX10_text_362 : decode cX10_text 362 = .ok (.iconst 1, 1) := by decide +kernel
theorem dX10_text_363 : decode cX10_text 363 = .ok (.iadd, 1) := by decide +kernel
theorem dX10_text_364 : decode cX10_text 364 = .ok (.putfield 66, 3) := by decide +kernel
theorem dX10_text_367 : decode cX10_text 367 = .ok (.iinc 4 1, 3) := by decide +kernel
theorem dX10_text_370 : decode cX10_text 370 = .ok (.goto (-349), 3) := by decide +kernel
theorem dX10_text_373 : decode cX10_text 373 = .ok (.aload_n 2, 1) := by decide +kernel
theorem dX10_text_374 : decode cX10_text 374 = .ok (.invokevirtual 71, 3) := by decide +kernel
theorem dX10_text_377 : decode cX10_text 377 = .ok (.areturn, 1) := by decide +kernel
theorem dX10_unites_0 : decode cX10_unites 0 = .ok (.aload_n 0, 1) := by decide +kernel
theorem dX10_unites_1 : decode cX10_unites 1 = .ok (.getfield 25, 3) := by decide +kernel
theorem dX10_unites_4 : decode cX10_unites 4 = .ok (.iload_n 1, 1) := by decide +kernel
theorem dX10_unites_5 : decode cX10_unites 5 = .ok (.iaload, 1) := by decide +kernel
theorem dX10_unites_6 : decode cX10_unites 6 = .ok (.istore_n 3, 1) := by decide +kernel
theorem dX10_unites_7 : decode cX10_unites 7 = .ok (.aload_n 0, 1) := by decide +kernel
theorem dX10_unites_8 : decode cX10_unites 8 = .ok (.getfield 25, 3) := by decide +kernel
theorem dX10_unites_11 : decode cX10_unites 11 = .ok (.iload_n 2, 1) := by decide +kernel
theorem dX10_unites_12 : decode cX10_unites 12 = .ok (.iaload, 1) := by decide +kernel
theorem dX10_unites_13 : decode cX10_unites 13 = .ok (.istore 4, 2) := by decide +kernel
theorem dX10_unites_15 : decode cX10_unites 15 = .ok (.iload_n 3, 1) := by decide +kernel
theorem dX10_unites_16 : decode cX10_unites 16 = .ok (.iload 4, 2) := by decide +kernel
theorem dX10_unites_18 : decode cX10_unites 18 = .ok (.invokestatic 75, 3) := by decide +kernel
theorem dX10_unites_21 : decode cX10_unites 21 = .ok (.istore 5, 2) := by decide +kernel
theorem dX10_unites_23 : decode cX10_unites 23 = .ok (.iconst 0, 1) := by decide +kernel
theorem dX10_unites_24 : decode cX10_unites 24 = .ok (.istore 6, 2) := by decide +kernel
theorem dX10_unites_26 : decode cX10_unites 26 = .ok (.iload 6, 2) := by decide +kernel
theorem dX10_unites_28 : decode cX10_unites 28 = .ok (.aload_n 0, 1) := by decide +kernel
theorem dX10_unites_29 : decode cX10_unites 29 = .ok (.getfield 62, 3) := by decide +kernel
theorem dX10_unites_32 : decode cX10_unites 32 = .ok (.if_icmp .ge 41, 3) := by decide +kernel
theorem dX10_unites_35 : decode cX10_unites 35 = .ok (.aload_n 0, 1) := by decide +kernel
theorem dX10_unites_36 : decode cX10_unites 36 = .ok (.getfield 25, 3) := by decide +kernel
theorem dX10_unites_39 : decode cX10_unites 39 = .ok (.iload 6, 2) := by decide +kernel
theorem dX10_unites_41 : decode cX10_unites 41 = .ok (.iaload, 1) := by decide +kernel
theorem dX10_unites_42 : decode cX10_unites 42 = .ok (.iload_n 3, 1) := by decide +kernel
theorem dX10_unites_43 : decode cX10_unites 43 = .ok (.if_icmp .eq 15, 3) := by decide +kernel
theorem dX10_unites_46 : decode cX10_unites 46 = .ok (.aload_n 0, 1) := by decide +kernel
theorem dX10_unites_47 : decode cX10_unites 47 = .ok (.getfield 25, 3) := by decide +kernel
theorem dX10_unites_50 : decode cX10_unites 50 = .ok (.iload 6, 2) := by decide +kernel
theorem dX10_unites_52 : decode cX10_unites 52 = .ok (.iaload, 1) := by decide +kernel
theorem dX10_unites_53 : decode cX10_unites 53 = .ok (.iload 4, 2) := by decide +kernel
theorem dX10_unites_55 : decode cX10_unites 55 = .ok (.if_icmp .ne 12, 3) := by decide +kernel
theorem dX10_unites_58 : decode cX10_unites 58 = .ok (.aload_n 0, 1) := by decide +kernel
theorem dX10_unites_59 : decode cX10_unites 59 = .ok (.getfield 25, 3) := by decide +kernel
theorem dX10_unites_62 : decode cX10_unites 62 = .ok (.iload 6, 2) := by decide +kernel
theorem dX10_unites_64 : decode cX10_unites 64 = .ok (.iload 5, 2) := by decide +kernel
theorem dX10_unites_66 : decode cX10_unites 66 = .ok (.iastore, 1) := by decide +kernel
theorem dX10_unites_67 : decode cX10_unites 67 = .ok (.iinc 6 1, 3) := by decide +kernel
theorem dX10_unites_70 : decode cX10_unites 70 = .ok (.goto (-44), 3) := by decide +kernel
theorem dX10_unites_73 : decode cX10_unites 73 = .ok (.return_, 1) := by decide +kernel
theorem dX10_isAlike_0 : decode cX10_isAlike 0 = .ok (.aload_n 0, 1) := by decide +kernel
theorem dX10_isAlike_1 : decode cX10_isAlike 1 = .ok (.getfield 7, 3) := by decide +kernel
theorem dX10_isAlike_4 : decode cX10_isAlike 4 = .ok (.iload_n 1, 1) := by decide +kernel
theorem dX10_isAlike_5 : decode cX10_isAlike 5 = .ok (.iaload, 1) := by decide +kernel
theorem dX10_isAlike_6 : decode cX10_isAlike 6 = .ok (.aload_n 0, 1) := by decide +kernel
theorem dX10_isAlike_7 : decode cX10_isAlike 7 = .ok (.getfield 7, 3) := by decide +kernel
theorem dX10_isAlike_10 : decode cX10_isAlike 10 = .ok (.iload_n 2, 1) := by decide +kernel
theorem dX10_isAlike_11 : decode cX10_isAlike 11 = .ok (.iaload, 1) := by decide +kernel
theorem dX10_isAlike_12 : decode cX10_isAlike 12 = .ok (.if_icmp .ne 77, 3) := by decide +kernel
theorem dX10_isAlike_15 : decode cX10_isAlike 15 = .ok (.aload_n 0, 1) := by decide +kernel
theorem dX10_isAlike_16 : decode cX10_isAlike 16 = .ok (.getfield 7, 3) := by decide +kernel
theorem dX10_isAlike_19 : decode cX10_isAlike 19 = .ok (.iload_n 1, 1) := by decide +kernel
theorem dX10_isAlike_20 : decode cX10_isAlike 20 = .ok (.iaload, 1) := by decide +kernel
theorem dX10_isAlike_21 : decode cX10_isAlike 21 = .ok (.iconst 3, 1) := by decide +kernel
theorem dX10_isAlike_22 : decode cX10_isAlike 22 = .ok (.if_icmp .lt 28, 3) := by decide +kernel
theorem dX10_isAlike_25 : decode cX10_isAlike 25 = .ok (.aload_n 0, 1) := by decide +kernel
theorem dX10_isAlike_26 : decode cX10_isAlike 26 = .ok (.getfield 25, 3) := by decide +kernel
theorem dX10_isAlike_29 : decode cX10_isAlike 29 = .ok (.aload_n 0, 1) := by decide +kernel
theorem dX10_isAlike_30 : decode cX10_isAlike 30 = .ok (.getfield 13, 3) := by decide +kernel
theorem dX10_isAlike_33 : decode cX10_isAlike 33 = .ok (.iload_n 1, 1) := by decide +kernel
theorem dX10_isAlike_34 : decode cX10_isAlike 34 = .ok (.iaload, 1) := by decide +kernel
theorem dX10_isAlike_35 : decode cX10_isAlike 35 = .ok (.iaload, 1) := by decide +kernel
theorem dX10_isAlike_36 : decode cX10_isAlike 36 = .ok (.aload_n 0, 1) := by decide +kernel
theorem dX10_isAlike_37 : decode cX10_isAlike 37 = .ok (.getfield 25, 3) := by decide +kernel
theorem dX10_isAlike_40 : decode cX10_isAlike 40 = .ok (.aload_n 0, 1) := by decide +kernel
theorem dX10_isAlike_41 : decode cX10_isAlike 41 = .ok (.getfield 13, 3) := by decide +kernel
theorem dX10_isAlike_44 : decode cX10_isAlike 44 = .ok (.iload_n 2, 1) := by decide +kernel
theorem dX10_isAlike_45 : decode cX10_isAlike 45 = .ok (.iaload, 1) := by decide +kernel
theorem dX10_isAlike_46 : decode cX10_isAlike 46 = .ok (.iaload, 1) := by decide +kernel
theorem dX10_isAlike_47 : decode cX10_isAlike 47 = .ok (.if_icmp .ne 42, 3) := by decide +kernel
theorem dX10_isAlike_50 : decode cX10_isAlike 50 = .ok (.aload_n 0, 1) := by decide +kernel
theorem dX10_isAlike_51 : decode cX10_isAlike 51 = .ok (.getfield 7, 3) := by decide +kernel
theorem dX10_isAlike_54 : decode cX10_isAlike 54 = .ok (.iload_n 1, 1) := by decide +kernel
theorem dX10_isAlike_55 : decode cX10_isAlike 55 = .ok (.iaload, 1) := by decide +kernel
theorem dX10_isAlike_56 : decode cX10_isAlike 56 = .ok (.iconst 4, 1) := by decide +kernel
theorem dX10_isAlike_57 : decode cX10_isAlike 57 = .ok (.if_icmp .lt 28, 3) := by decide +kernel
theorem dX10_isAlike_60 : decode cX10_isAlike 60 = .ok (.aload_n 0, 1) := by decide +kernel
theorem dX10_isAlike_61 : decode cX10_isAlike 61 = .ok (.getfield 25, 3) := by decide +kernel
theorem dX10_isAlike_64 : decode cX10_isAlike 64 = .ok (.aload_n 0, 1) := by decide +kernel
theorem dX10_isAlike_65 : decode cX10_isAlike 65 = .ok (.getfield 16, 3) := by decide +kernel
theorem dX10_isAlike_68 : decode cX10_isAlike 68 = .ok (.iload_n 1, 1) := by decide +kernel
theorem dX10_isAlike_69 : decode cX10_isAlike 69 = .ok (.iaload, 1) := by decide +kernel
theorem dX10_isAlike_70 : decode cX10_isAlike 70 = .ok (.iaload, 1) := by decide +kernel
theorem dX10_isAlike_71 : decode cX10_isAlike 71 = .ok (.aload_n 0, 1) := by decide +kernel
theorem dX10_isAlike_72 : decode cX10_isAlike 72 = .ok (.getfield 25, 3) := by decide +kernel
theorem dX10_isAlike_75 : decode cX10_isAlike 75 = .ok (.aload_n 0, 1) := by decide +kernel
theorem dX10_isAlike_76 : decode cX10_isAlike 76 = .ok (.getfield 16, 3) := by decide +kernel
theorem dX10_isAlike_79 : decode cX10_isAlike 79 = .ok (.iload_n 2, 1) := by decide +kernel
theorem dX10_isAlike_80 : decode cX10_isAlike 80 = .ok (.iaload, 1) := by decide +kernel
theorem dX10_isAlike_81 : decode cX10_isAlike 81 = .ok (.iaload, 1) := by decide +kernel
theorem dX10_isAlike_82 : decode cX10_isAlike 82 = .ok (.if_icmp .ne 7, 3) := by decide +kernel
theorem dX10_isAlike_85 : decode cX10_isAlike 85 = .ok (.iconst 1, 1) := by decide +kernel
theorem dX10_isAlike_86 : decode cX10_isAlike 86 = .ok (.goto 4, 3) := by decide +kernel
theorem dX10_isAlike_89 : decode cX10_isAlike 89 = .ok (.iconst 0, 1) := by decide +kernel
theorem dX10_isAlike_90 : decode cX10_isAlike 90 = .ok (.ireturn, 1) := by decide +kernel
theorem dX10_closes_0 : decode cX10_closes 0 = .ok (.iconst 0, 1) := by decide +kernel
theorem dX10_closes_1 : decode cX10_closes 1 = .ok (.istore_n 2, 1) := by decide +kernel
theorem dX10_closes_2 : decode cX10_closes 2 = .ok (.iload_n 2, 1) := by decide +kernel
theorem dX10_closes_3 : decode cX10_closes 3 = .ok (.aload_n 0, 1) := by decide +kernel
theorem dX10_closes_4 : decode cX10_closes 4 = .ok (.getfield 62, 3) := by decide +kernel
theorem dX10_closes_7 : decode cX10_closes 7 = .ok (.if_icmp .ge 16, 3) := by decide +kernel
theorem dX10_closes_10 : decode cX10_closes 10 = .ok (.aload_n 0, 1) := by decide +kernel
theorem dX10_closes_11 : decode cX10_closes 11 = .ok (.getfield 25, 3) := by decide +kernel
theorem dX10_closes_14 : decode cX10_closes 14 = .ok (.iload_n 2, 1) := by decide +kernel
theorem dX10_closes_15 : decode cX10_closes 15 = .ok (.iload_n 2, 1) := by decide +kernel
theorem dX10_closes_16 : decode cX10_closes 16 = .ok (.iastore, 1) := by decide +kernel
theorem dX10_closes_17 : decode cX10_closes 17 = .ok (.iinc 2 1, 3) := by decide +kernel
theorem dX10_closes_20 : decode cX10_closes 20 = .ok (.goto (-18), 3) := by decide +kernel
theorem dX10_closes_23 : decode cX10_closes 23 = .ok (.iconst 0, 1) := by decide +kernel
theorem dX10_closes_24 : decode cX10_closes 24 = .ok (.istore_n 2, 1) := by decide +kernel
theorem dX10_closes_25 : decode cX10_closes 25 = .ok (.iload_n 2, 1) := by decide +kernel
theorem dX10_closes_26 : decode cX10_closes 26 = .ok (.aload_n 0, 1) := by decide +kernel
theorem dX10_closes_27 : decode cX10_closes 27 = .ok (.getfield 66, 3) := by decide +kernel
theorem dX10_closes_30 : decode cX10_closes 30 = .ok (.if_icmp .ge 34, 3) := by decide +kernel
theorem dX10_closes_33 : decode cX10_closes 33 = .ok (.iload_n 1, 1) := by decide +kernel
theorem dX10_closes_34 : decode cX10_closes 34 = .ok (.iload_n 2, 1) := by decide +kernel
theorem dX10_closes_35 : decode cX10_closes 35 = .ok (.ishr, 1) := by decide +kernel
theorem dX10_closes_36 : decode cX10_closes 36 = .ok (.iconst 1, 1) := by decide +kernel
theorem dX10_closes_37 : decode cX10_closes 37 = .ok (.iand, 1) := by decide +kernel
theorem dX10_closes_38 : decode cX10_closes 38 = .ok (.iconst 1, 1) := by decide +kernel
theorem dX10_closes_39 : decode cX10_closes 39 = .ok (.if_icmp .ne 19, 3) := by decide +kernel
theorem dX10_closes_42 : decode cX10_closes 42 = .ok (.aload_n 0, 1) := by decide +kernel
theorem dX10_closes_43 : decode cX10_closes 43 = .ok (.aload_n 0, 1) := by decide +kernel
theorem dX10_closes_44 : decode cX10_closes 44 = .ok (.getfield 19, 3) := by decide +kernel
theorem dX10_closes_47 : decode cX10_closes 47 = .ok (.iload_n 2, 1) := by decide +kernel
theorem dX10_closes_48 : decode cX10_closes 48 = .ok (.iaload, 1) := by decide +kernel
theorem dX10_closes_49 : decode cX10_closes 49 = .ok (.aload_n 0, 1) := by decide +kernel
theorem dX10_closes_50 : decode cX10_closes 50 = .ok (.getfield 22, 3) := by decide +kernel
theorem dX10_closes_53 : decode cX10_closes 53 = .ok (.iload_n 2, 1) := by decide +kernel
theorem dX10_closes_54 : decode cX10_closes 54 = .ok (.iaload, 1) := by decide +kernel
theorem dX10_closes_55 : decode cX10_closes 55 = .ok (.invokevirtual 80, 3) := by decide +kernel
theorem dX10_closes_58 : decode cX10_closes 58 = .ok (.iinc 2 1, 3) := by decide +kernel
theorem dX10_closes_61 : decode cX10_closes 61 = .ok (.goto (-36), 3) := by decide +kernel
theorem dX10_closes_64 : decode cX10_closes 64 = .ok (.iconst 1, 1) := by decide +kernel
theorem dX10_closes_65 : decode cX10_closes 65 = .ok (.istore_n 2, 1) := by decide +kernel
theorem dX10_closes_66 : decode cX10_closes 66 = .ok (.iload_n 2, 1) := by decide +kernel
theorem dX10_closes_67 : decode cX10_closes 67 = .ok (.ifCond .eq 77, 3) := by decide +kernel
theorem dX10_closes_70 : decode cX10_closes 70 = .ok (.iconst 0, 1) := by decide +kernel
theorem dX10_closes_71 : decode cX10_closes 71 = .ok (.istore_n 2, 1) := by decide +kernel
theorem dX10_closes_72 : decode cX10_closes 72 = .ok (.iconst 0, 1) := by decide +kernel
theorem dX10_closes_73 : decode cX10_closes 73 = .ok (.istore_n 3, 1) := by decide +kernel
theorem dX10_closes_74 : decode cX10_closes 74 = .ok (.iload_n 3, 1) := by decide +kernel
theorem dX10_closes_75 : decode cX10_closes 75 = .ok (.aload_n 0, 1) := by decide +kernel
theorem dX10_closes_76 : decode cX10_closes 76 = .ok (.getfield 62, 3) := by decide +kernel
theorem dX10_closes_79 : decode cX10_closes 79 = .ok (.if_icmp .ge 62, 3) := by decide +kernel
theorem dX10_closes_82 : decode cX10_closes 82 = .ok (.iconst 0, 1) := by decide +kernel
theorem dX10_closes_83 : decode cX10_closes 83 = .ok (.istore 4, 2) := by decide +kernel
theorem dX10_closes_85 : decode cX10_closes 85 = .ok (.iload 4, 2) := by decide +kernel
theorem dX10_closes_87 : decode cX10_closes 87 = .ok (.iload_n 3, 1) := by decide +kernel
theorem dX10_closes_88 : decode cX10_closes 88 = .ok (.if_icmp .ge 47, 3) := by decide +kernel
theorem dX10_closes_91 : decode cX10_closes 91 = .ok (.aload_n 0, 1) := by decide +kernel
theorem dX10_closes_92 : decode cX10_closes 92 = .ok (.getfield 25, 3) := by decide +kernel
theorem dX10_closes_95 : decode cX10_closes 95 = .ok (.iload_n 3, 1) := by decide +kernel
theorem dX10_closes_96 : decode cX10_closes 96 = .ok (.iaload, 1) := by decide +kernel
theorem dX10_closes_97 : decode cX10_closes 97 = .ok (.aload_n 0, 1) := by decide +kernel
theorem dX10_closes_98 : decode cX10_closes 98 = .ok (.getfield 25, 3) := by decide +kernel
theorem dX10_closes_101 : decode cX10_closes 101 = .ok (.iload 4, 2) := by decide +kernel
theorem dX10_closes_103 : decode cX10_closes 103 = .ok (.iaload, 1) := by decide +kernel
theorem dX10_closes_104 : decode cX10_closes 104 = .ok (.if_icmp .eq 25, 3) := by decide +kernel
theorem dX10_closes_107 : decode cX10_closes 107 = .ok (.aload_n 0, 1) := by decide +kernel
theorem dX10_closes_108 : decode cX10_closes 108 = .ok (.iload_n 3, 1) := by decide +kernel
theorem dX10_closes_109 : decode cX10_closes 109 = .ok (.iload 4, 2) := by decide +kernel
theorem dX10_closes_111 : decode cX10_closes 111 = .ok (.invokevirtual 84, 3) := by decide +kernel
theorem dX10_closes_114 : decode cX10_closes 114 = .ok (.ifCond .ne 6, 3) := by decide +kernel
theorem dX10_closes_117 : decode cX10_closes 117 = .ok (.goto 12, 3) := by decide +kernel
theorem dX10_closes_120 : decode cX10_closes 120 = .ok (.aload_n 0, 1) := by decide +kernel
theorem dX10_closes_121 : decode cX10_closes 121 = .ok (.iload_n 3, 1) := by decide +kernel
theorem dX10_closes_122 : decode cX10_closes 122 = .ok (.iload 4, 2) := by decide +kernel
theorem dX10_closes_124 : decode cX10_closes 124 = .ok (.invokevirtual 80, 3) := by decide +kernel
theorem dX10_closes_127 : decode cX10_closes 127 = .ok (.iconst 1, 1) := by decide +kernel
theorem dX10_closes_128 : decode cX10_closes 128 = .ok (.istore_n 2, 1) := by decide +kernel
theorem dX10_closes_129 : decode cX10_closes 129 = .ok (.iinc 4 1, 3) := by decide +kernel
theorem dX10_closes_132 : decode cX10_closes 132 = .ok (.goto (-47), 3) := by decide +kernel
theorem dX10_closes_135 : decode cX10_closes 135 = .ok (.iinc 3 1, 3) := by decide +kernel
theorem dX10_closes_138 : decode cX10_closes 138 = .ok (.goto (-64), 3) := by decide +kernel
theorem dX10_closes_141 : decode cX10_closes 141 = .ok (.goto (-75), 3) := by decide +kernel
theorem dX10_closes_144 : decode cX10_closes 144 = .ok (.return_, 1) := by decide +kernel
theorem dL_tell_0 : decode cL_tell 0 = .ok (.iconst 0, 1) := by decide +kernel
theorem dL_tell_1 : decode cL_tell 1 = .ok (.istore_n 2, 1) := by decide +kernel
theorem dL_tell_2 : decode cL_tell 2 = .ok (.iload_n 2, 1) := by decide +kernel
theorem dL_tell_3 : decode cL_tell 3 = .ok (.aload_n 1, 1) := by decide +kernel
theorem dL_tell_4 : decode cL_tell 4 = .ok (.invokevirtual 7, 3) := by decide +kernel
theorem dL_tell_7 : decode cL_tell 7 = .ok (.if_icmp .ge 98, 3) := by decide +kernel
theorem dL_tell_10 : decode cL_tell 10 = .ok (.iconst 5, 1) := by decide +kernel
theorem dL_tell_11 : decode cL_tell 11 = .ok (.newarray .int, 2) := by decide +kernel
theorem dL_tell_13 : decode cL_tell 13 = .ok (.astore_n 3, 1) := by decide +kernel
theorem dL_tell_14 : decode cL_tell 14 = .ok (.iconst 0, 1) := by decide +kernel
theorem dL_tell_15 : decode cL_tell 15 = .ok (.istore 4, 2) := by decide +kernel
theorem dL_tell_17 : decode cL_tell 17 = .ok (.iload 4, 2) := by decide +kernel
theorem dL_tell_19 : decode cL_tell 19 = .ok (.bipush 20, 2) := by decide +kernel
theorem dL_tell_21 : decode cL_tell 21 = .ok (.if_icmp .ge 49, 3) := by decide +kernel
theorem dL_tell_24 : decode cL_tell 24 = .ok (.aload_n 3, 1) := by decide +kernel
theorem dL_tell_25 : decode cL_tell 25 = .ok (.iload 4, 2) := by decide +kernel
theorem dL_tell_27 : decode cL_tell 27 = .ok (.iconst 4, 1) := by decide +kernel
theorem dL_tell_28 : decode cL_tell 28 = .ok (.idiv, 1) := by decide +kernel
theorem dL_tell_29 : decode cL_tell 29 = .ok (.aload_n 3, 1) := by decide +kernel
theorem dL_tell_30 : decode cL_tell 30 = .ok (.iload 4, 2) := by decide +kernel
theorem dL_tell_32 : decode cL_tell 32 = .ok (.iconst 4, 1) := by decide +kernel
theorem dL_tell_33 : decode cL_tell 33 = .ok (.idiv, 1) := by decide +kernel
theorem dL_tell_34 : decode cL_tell 34 = .ok (.iaload, 1) := by decide +kernel
theorem dL_tell_35 : decode cL_tell 35 = .ok (.bipush 8, 2) := by decide +kernel
theorem dL_tell_37 : decode cL_tell 37 = .ok (.ishl, 1) := by decide +kernel
theorem dL_tell_38 : decode cL_tell 38 = .ok (.iload_n 2, 1) := by decide +kernel
theorem dL_tell_39 : decode cL_tell 39 = .ok (.iload 4, 2) := by decide +kernel
theorem dL_tell_41 : decode cL_tell 41 = .ok (.iadd, 1) := by decide +kernel
theorem dL_tell_42 : decode cL_tell 42 = .ok (.aload_n 1, 1) := by decide +kernel
theorem dL_tell_43 : decode cL_tell 43 = .ok (.invokevirtual 7, 3) := by decide +kernel
theorem dL_tell_46 : decode cL_tell 46 = .ok (.if_icmp .ge 14, 3) := by decide +kernel
theorem dL_tell_49 : decode cL_tell 49 = .ok (.aload_n 1, 1) := by decide +kernel
theorem dL_tell_50 : decode cL_tell 50 = .ok (.iload_n 2, 1) := by decide +kernel
theorem dL_tell_51 : decode cL_tell 51 = .ok (.iload 4, 2) := by decide +kernel
theorem dL_tell_53 : decode cL_tell 53 = .ok (.iadd, 1) := by decide +kernel
theorem dL_tell_54 : decode cL_tell 54 = .ok (.invokevirtual 13, 3) := by decide +kernel
theorem dL_tell_57 : decode cL_tell 57 = .ok (.goto 5, 3) := by decide +kernel
theorem dL_tell_60 : decode cL_tell 60 = .ok (.bipush 32, 2) := by decide +kernel
theorem dL_tell_62 : decode cL_tell 62 = .ok (.ior, 1) := by decide +kernel
theorem dL_tell_63 : decode cL_tell 63 = .ok (.iastore, 1) := by decide +kernel
theorem dL_tell_64 : decode cL_tell 64 = .ok (.iinc 4 1, 3) := by decide +kernel
theorem dL_tell_67 : decode cL_tell 67 = .ok (.goto (-50), 3) := by decide +kernel
theorem dL_tell_70 : decode cL_tell 70 = .ok (.aload_n 0, 1) := by decide +kernel
theorem dL_tell_71 : decode cL_tell 71 = .ok (.aload_n 3, 1) := by decide +kernel
theorem dL_tell_72 : decode cL_tell 72 = .ok (.iconst 0, 1) := by decide +kernel
theorem dL_tell_73 : decode cL_tell 73 = .ok (.iaload, 1) := by decide +kernel
theorem dL_tell_74 : decode cL_tell 74 = .ok (.aload_n 3, 1) := by decide +kernel
theorem dL_tell_75 : decode cL_tell 75 = .ok (.iconst 1, 1) := by decide +kernel
theorem dL_tell_76 : decode cL_tell 76 = .ok (.iaload, 1) := by decide +kernel
theorem dL_tell_77 : decode cL_tell 77 = .ok (.aload_n 3, 1) := by decide +kernel
theorem dL_tell_78 : decode cL_tell 78 = .ok (.iconst 2, 1) := by decide +kernel
theorem dL_tell_79 : decode cL_tell 79 = .ok (.iaload, 1) := by decide +kernel
theorem dL_tell_80 : decode cL_tell 80 = .ok (.aload_n 3, 1) := by decide +kernel
theorem dL_tell_81 : decode cL_tell 81 = .ok (.iconst 3, 1) := by decide +kernel
theorem dL_tell_82 : decode cL_tell 82 = .ok (.iaload, 1) := by decide +kernel
theorem dL_tell_83 : decode cL_tell 83 = .ok (.aload_n 3, 1) := by decide +kernel
theorem dL_tell_84 : decode cL_tell 84 = .ok (.iconst 4, 1) := by decide +kernel
theorem dL_tell_85 : decode cL_tell 85 = .ok (.iaload, 1) := by decide +kernel
theorem dL_tell_86 : decode cL_tell 86 = .ok (.invokevirtual 17, 3) := by decide +kernel
theorem dL_tell_89 : decode cL_tell 89 = .ok (.iload_n 2, 1) := by decide +kernel
theorem dL_tell_90 : decode cL_tell 90 = .ok (.bipush 20, 2) := by decide +kernel
theorem dL_tell_92 : decode cL_tell 92 = .ok (.iadd, 1) := by decide +kernel
theorem dL_tell_93 : decode cL_tell 93 = .ok (.if_icmp .eq 6, 3) := by decide +kernel
theorem dL_tell_96 : decode cL_tell 96 = .ok (.bipush (-9), 2) := by decide +kernel
theorem dL_tell_98 : decode cL_tell 98 = .ok (.ireturn, 1) := by decide +kernel
theorem dL_tell_99 : decode cL_tell 99 = .ok (.iinc 2 20, 3) := by decide +kernel
theorem dL_tell_102 : decode cL_tell 102 = .ok (.goto (-100), 3) := by decide +kernel
theorem dL_tell_105 : decode cL_tell 105 = .ok (.aload_n 0, 1) := by decide +kernel
theorem dL_tell_106 : decode cL_tell 106 = .ok (.aload_n 1, 1) := by decide +kernel
theorem dL_tell_107 : decode cL_tell 107 = .ok (.invokevirtual 7, 3) := by decide +kernel
theorem dL_tell_110 : decode cL_tell 110 = .ok (.invokevirtual 23, 3) := by decide +kernel
theorem dL_tell_113 : decode cL_tell 113 = .ok (.ireturn, 1) := by decide +kernel
theorem dL_law_0 : decode cL_law 0 = .ok (.new 27, 3) := by decide +kernel
theorem dL_law_3 : decode cL_law 3 = .ok (.dup, 1) := by decide +kernel
theorem dL_law_4 : decode cL_law 4 = .ok (.aload_n 0, 1) := by decide +kernel
theorem dL_law_5 : decode cL_law 5 = .ok (.invokespecial 29, 3) := by decide +kernel
theorem dL_law_8 : decode cL_law 8 = .ok (.astore_n 1, 1) := by decide +kernel
theorem dL_law_9 : decode cL_law 9 = .ok (.new 32, 3) := by decide +kernel
theorem dL_law_12 : decode cL_law 12 = .ok (.dup, 1) := by decide +kernel
theorem dL_law_13 : decode cL_law 13 = .ok (.invokespecial 34, 3) := by decide +kernel
theorem dL_law_16 : decode cL_law 16 = .ok (.astore_n 2, 1) := by decide +kernel
theorem dL_law_17 : decode cL_law 17 = .ok (.new 18, 3) := by decide +kernel
theorem dL_law_20 : decode cL_law 20 = .ok (.dup, 1) := by decide +kernel
theorem dL_law_21 : decode cL_law 21 = .ok (.invokespecial 35, 3) := by decide +kernel
theorem dL_law_24 : decode cL_law 24 = .ok (.astore_n 3, 1) := by decide +kernel
theorem dL_law_25 : decode cL_law 25 = .ok (.aload_n 3, 1) := by decide +kernel
theorem dL_law_26 : decode cL_law 26 = .ok (.aload_n 2, 1) := by decide +kernel
theorem dL_law_27 : decode cL_law 27 = .ok (.aload_n 1, 1) := by decide +kernel
theorem dL_law_28 : decode cL_law 28 = .ok (.invokevirtual 36, 3) := by decide +kernel
theorem dL_law_31 : decode cL_law 31 = .ok (.invokestatic 39, 3) := by decide +kernel
theorem dL_law_34 : decode cL_law 34 = .ok (.aload_n 2, 1) := by decide +kernel
theorem dL_law_35 : decode cL_law 35 = .ok (.getfield 45, 3) := by decide +kernel
theorem dL_law_38 : decode cL_law 38 = .ok (.if_icmp .ne 44, 3) := by decide +kernel
theorem dL_law_41 : decode cL_law 41 = .ok (.aload_n 3, 1) := by decide +kernel
theorem dL_law_42 : decode cL_law 42 = .ok (.iconst 0, 1) := by decide +kernel
theorem dL_law_43 : decode cL_law 43 = .ok (.invokevirtual 49, 3) := by decide +kernel
theorem dL_law_46 : decode cL_law 46 = .ok (.iconst 5, 1) := by decide +kernel
theorem dL_law_47 : decode cL_law 47 = .ok (.if_icmp .ne 35, 3) := by decide +kernel
theorem dL_law_50 : decode cL_law 50 = .ok (.aload_n 3, 1) := by decide +kernel
theorem dL_law_51 : decode cL_law 51 = .ok (.iconst 1, 1) := by decide +kernel
theorem dL_law_52 : decode cL_law 52 = .ok (.invokevirtual 49, 3) := by decide +kernel
theorem dL_law_55 : decode cL_law 55 = .ok (.aload_n 2, 1) := by decide +kernel
theorem dL_law_56 : decode cL_law 56 = .ok (.getfield 45, 3) := by decide +kernel
theorem dL_law_59 : decode cL_law 59 = .ok (.if_icmp .ne 23, 3) := by decide +kernel
theorem dL_law_62 : decode cL_law 62 = .ok (.aload_n 3, 1) := by decide +kernel
theorem dL_law_63 : decode cL_law 63 = .ok (.iconst 2, 1) := by decide +kernel
theorem dL_law_64 : decode cL_law 64 = .ok (.invokevirtual 49, 3) := by decide +kernel
theorem dL_law_67 : decode cL_law 67 = .ok (.aload_n 2, 1) := by decide +kernel
theorem dL_law_68 : decode cL_law 68 = .ok (.getfield 52, 3) := by decide +kernel
theorem dL_law_71 : decode cL_law 71 = .ok (.if_icmp .ne 11, 3) := by decide +kernel
theorem dL_law_74 : decode cL_law 74 = .ok (.aload_n 3, 1) := by decide +kernel
theorem dL_law_75 : decode cL_law 75 = .ok (.iconst 5, 1) := by decide +kernel
theorem dL_law_76 : decode cL_law 76 = .ok (.invokevirtual 49, 3) := by decide +kernel
theorem dL_law_79 : decode cL_law 79 = .ok (.ifCond .eq 5, 3) := by decide +kernel
theorem dL_law_82 : decode cL_law 82 = .ok (.iconst 0, 1) := by decide +kernel
theorem dL_law_83 : decode cL_law 83 = .ok (.ireturn, 1) := by decide +kernel
theorem dL_law_84 : decode cL_law 84 = .ok (.iconst 1, 1) := by decide +kernel
theorem dL_law_85 : decode cL_law 85 = .ok (.aload_n 2, 1) := by decide +kernel
theorem dL_law_86 : decode cL_law 86 = .ok (.getfield 52, 3) := by decide +kernel
theorem dL_law_89 : decode cL_law 89 = .ok (.ishl, 1) := by decide +kernel
theorem dL_law_90 : decode cL_law 90 = .ok (.iconst 1, 1) := by decide +kernel
theorem dL_law_91 : decode cL_law 91 = .ok (.isub, 1) := by decide +kernel
theorem dL_law_92 : decode cL_law 92 = .ok (.istore 4, 2) := by decide +kernel
theorem dL_law_94 : decode cL_law 94 = .ok (.iconst 0, 1) := by decide +kernel
theorem dL_law_95 : decode cL_law 95 = .ok (.istore 5, 2) := by decide +kernel
theorem dL_law_97 : decode cL_law 97 = .ok (.iload 5, 2) := by decide +kernel
theorem dL_law_99 : decode cL_law 99 = .ok (.bipush 6, 2) := by decide +kernel
theorem dL_law_101 : decode cL_law 101 = .ok (.if_icmp .ge 107, 3) := by decide +kernel
theorem dL_law_104 : decode cL_law 104 = .ok (.iload 5, 2) := by decide +kernel
theorem dL_law_106 : decode cL_law 106 = .ok (.ifCond .ne 8, 3) := by decide +kernel
theorem dL_law_109 : decode cL_law 109 = .ok (.iload 4, 2) := by decide +kernel
theorem dL_law_111 : decode cL_law 111 = .ok (.goto 10, 3) := by decide +kernel
theorem dL_law_114 : decode cL_law 114 = .ok (.aload_n 1, 1) := by decide +kernel
theorem dL_law_115 : decode cL_law 115 = .ok (.iconst 0, 1) := by decide +kernel
theorem dL_law_116 : decode cL_law 116 = .ok (.iload 4, 2) := by decide +kernel
theorem dL_law_118 : decode cL_law 118 = .ok (.invokevirtual 55, 3) := by decide +kernel
theorem dL_law_121 : decode cL_law 121 = .ok (.istore 6, 2) := by decide +kernel
theorem dL_law_123 : decode cL_law 123 = .ok (.aload_n 2, 1) := by decide +kernel
theorem dL_law_124 : decode cL_law 124 = .ok (.iload 6, 2) := by decide +kernel
theorem dL_law_126 : decode cL_law 126 = .ok (.invokevirtual 59, 3) := by decide +kernel
theorem dL_law_129 : decode cL_law 129 = .ok (.iconst 0, 1) := by decide +kernel
theorem dL_law_130 : decode cL_law 130 = .ok (.istore 7, 2) := by decide +kernel
theorem dL_law_132 : decode cL_law 132 = .ok (.iload 7, 2) := by decide +kernel
theorem dL_law_134 : decode cL_law 134 = .ok (.aload_n 2, 1) := by decide +kernel
theorem dL_law_135 : decode cL_law 135 = .ok (.getfield 45, 3) := by decide +kernel
theorem dL_law_138 : decode cL_law 138 = .ok (.if_icmp .ge 64, 3) := by decide +kernel
theorem dL_law_141 : decode cL_law 141 = .ok (.iconst 0, 1) := by decide +kernel
theorem dL_law_142 : decode cL_law 142 = .ok (.istore 8, 2) := by decide +kernel
theorem dL_law_144 : decode cL_law 144 = .ok (.iload 8, 2) := by decide +kernel
theorem dL_law_146 : decode cL_law 146 = .ok (.aload_n 2, 1) := by decide +kernel
theorem dL_law_147 : decode cL_law 147 = .ok (.getfield 45, 3) := by decide +kernel
theorem dL_law_150 : decode cL_law 150 = .ok (.if_icmp .ge 46, 3) := by decide +kernel
theorem dL_law_153 : decode cL_law 153 = .ok (.aload_n 3, 1) := by decide +kernel
theorem dL_law_154 : decode cL_law 154 = .ok (.iload 6, 2) := by decide +kernel
theorem dL_law_156 : decode cL_law 156 = .ok (.iload 7, 2) := by decide +kernel
theorem dL_law_158 : decode cL_law 158 = .ok (.iload 8, 2) := by decide +kernel
theorem dL_law_160 : decode cL_law 160 = .ok (.invokevirtual 63, 3) := by decide +kernel
theorem dL_law_163 : decode cL_law 163 = .ok (.aload_n 2, 1) := by decide +kernel
theorem dL_law_164 : decode cL_law 164 = .ok (.getfield 67, 3) := by decide +kernel
theorem dL_law_167 : decode cL_law 167 = .ok (.iload 7, 2) := by decide +kernel
theorem dL_law_169 : decode cL_law 169 = .ok (.iaload, 1) := by decide +kernel
theorem dL_law_170 : decode cL_law 170 = .ok (.aload_n 2, 1) := by decide +kernel
theorem dL_law_171 : decode cL_law 171 = .ok (.getfield 67, 3) := by decide +kernel
theorem dL_law_174 : decode cL_law 174 = .ok (.iload 8, 2) := by decide +kernel
theorem dL_law_176 : decode cL_law 176 = .ok (.iaload, 1) := by decide +kernel
theorem dL_law_177 : decode cL_law 177 = .ok (.if_icmp .ne 7, 3) := by decide +kernel
theorem dL_law_180 : decode cL_law 180 = .ok (.iconst 1, 1) := by decide +kernel
theorem dL_law_181 : decode cL_law 181 = .ok (.goto 4, 3) := by decide +kernel
theorem dL_law_184 : decode cL_law 184 = .ok (.iconst 0, 1) := by decide +kernel
theorem dL_law_185 : decode cL_law 185 = .ok (.if_icmp .eq 5, 3) := by decide +kernel
theorem dL_law_188 : decode cL_law 188 = .ok (.iconst 0, 1) := by decide +kernel
theorem dL_law_189 : decode cL_law 189 = .ok (.ireturn, 1) := by decide +kernel
theorem dL_law_190 : decode cL_law 190 = .ok (.iinc 8 1, 3) := by decide +kernel
theorem dL_law_193 : decode cL_law 193 = .ok (.goto (-49), 3) := by decide +kernel
theorem dL_law_196 : decode cL_law 196 = .ok (.iinc 7 1, 3) := by decide +kernel
theorem dL_law_199 : decode cL_law 199 = .ok (.goto (-67), 3) := by decide +kernel
theorem dL_law_202 : decode cL_law 202 = .ok (.iinc 5 1, 3) := by decide +kernel
theorem dL_law_205 : decode cL_law 205 = .ok (.goto (-108), 3) := by decide +kernel
theorem dL_law_208 : decode cL_law 208 = .ok (.aload_n 2, 1) := by decide +kernel
theorem dL_law_209 : decode cL_law 209 = .ok (.iload 4, 2) := by decide +kernel
theorem dL_law_211 : decode cL_law 211 = .ok (.invokevirtual 59, 3) := by decide +kernel
theorem dL_law_214 : decode cL_law 214 = .ok (.iconst 0, 1) := by decide +kernel
theorem dL_law_215 : decode cL_law 215 = .ok (.istore 5, 2) := by decide +kernel
theorem dL_law_217 : decode cL_law 217 = .ok (.iconst 0, 1) := by decide +kernel
theorem dL_law_218 : decode cL_law 218 = .ok (.istore 6, 2) := by decide +kernel
theorem dL_law_220 : decode cL_law 220 = .ok (.iload 6, 2) := by decide +kernel
theorem dL_law_222 : decode cL_law 222 = .ok (.aload_n 2, 1) := by decide +kernel
theorem dL_law_223 : decode cL_law 223 = .ok (.getfield 45, 3) := by decide +kernel
theorem dL_law_226 : decode cL_law 226 = .ok (.if_icmp .ge 385, 3) := by decide +kernel
theorem dL_law_229 : decode cL_law 229 = .ok (.iconst 0, 1) := by decide +kernel
theorem dL_law_230 : decode cL_law 230 = .ok (.istore 7, 2) := by decide +kernel
theorem dL_law_232 : decode cL_law 232 = .ok (.iconst 0, 1) := by decide +kernel
theorem dL_law_233 : decode cL_law 233 = .ok (.istore 8, 2) := by decide +kernel
theorem dL_law_235 : decode cL_law 235 = .ok (.iconst 0, 1) := by decide +kernel
theorem dL_law_236 : decode cL_law 236 = .ok (.istore 9, 2) := by decide +kernel
theorem dL_law_238 : decode cL_law 238 = .ok (.iload 9, 2) := by decide +kernel
theorem dL_law_240 : decode cL_law 240 = .ok (.aload_n 2, 1) := by decide +kernel
theorem dL_law_241 : decode cL_law 241 = .ok (.getfield 45, 3) := by decide +kernel
theorem dL_law_244 : decode cL_law 244 = .ok (.if_icmp .ge 159, 3) := by decide +kernel
theorem dL_law_247 : decode cL_law 247 = .ok (.iload 7, 2) := by decide +kernel
theorem dL_law_249 : decode cL_law 249 = .ok (.aload_n 2, 1) := by decide +kernel
theorem dL_law_250 : decode cL_law 250 = .ok (.getfield 67, 3) := by decide +kernel
theorem dL_law_253 : decode cL_law 253 = .ok (.iload 6, 2) := by decide +kernel
theorem dL_law_255 : decode cL_law 255 = .ok (.iaload, 1) := by decide +kernel
theorem dL_law_256 : decode cL_law 256 = .ok (.aload_n 2, 1) := by decide +kernel
theorem dL_law_257 : decode cL_law 257 = .ok (.getfield 67, 3) := by decide +kernel
theorem dL_law_260 : decode cL_law 260 = .ok (.iload 9, 2) := by decide +kernel
theorem dL_law_262 : decode cL_law 262 = .ok (.iaload, 1) := by decide +kernel
theorem dL_law_263 : decode cL_law 263 = .ok (.if_icmp .ne 7, 3) := by decide +kernel
theorem dL_law_266 : decode cL_law 266 = .ok (.iconst 1, 1) := by decide +kernel
theorem dL_law_267 : decode cL_law 267 = .ok (.goto 4, 3) := by decide +kernel
theorem dL_law_270 : decode cL_law 270 = .ok (.iconst 0, 1) := by decide +kernel
theorem dL_law_271 : decode cL_law 271 = .ok (.iadd, 1) := by decide +kernel
theorem dL_law_272 : decode cL_law 272 = .ok (.istore 7, 2) := by decide +kernel
theorem dL_law_274 : decode cL_law 274 = .ok (.aload_n 2, 1) := by decide +kernel
theorem dL_law_275 : decode cL_law 275 = .ok (.getfield 71, 3) := by decide +kernel
theorem dL_law_278 : decode cL_law 278 = .ok (.iload 9, 2) := by decide +kernel
theorem dL_law_280 : decode cL_law 280 = .ok (.iaload, 1) := by decide +kernel
theorem dL_law_281 : decode cL_law 281 = .ok (.iconst 2, 1) := by decide +kernel
theorem dL_law_282 : decode cL_law 282 = .ok (.if_icmp .le 25, 3) := by decide +kernel
theorem dL_law_285 : decode cL_law 285 = .ok (.aload_n 2, 1) := by decide +kernel
theorem dL_law_286 : decode cL_law 286 = .ok (.getfield 67, 3) := by decide +kernel
theorem dL_law_289 : decode cL_law 289 = .ok (.aload_n 2, 1) := by decide +kernel
theorem dL_law_290 : decode cL_law 290 = .ok (.getfield 74, 3) := by decide +kernel
theorem dL_law_293 : decode cL_law 293 = .ok (.iload 9, 2) := by decide +kernel
theorem dL_law_295 : decode cL_law 295 = .ok (.iaload, 1) := by decide +kernel
theorem dL_law_296 : decode cL_law 296 = .ok (.iaload, 1) := by decide +kernel
theorem dL_law_297 : decode cL_law 297 = .ok (.aload_n 2, 1) := by decide +kernel
theorem dL_law_298 : decode cL_law 298 = .ok (.getfield 67, 3) := by decide +kernel
theorem dL_law_301 : decode cL_law 301 = .ok (.iload 6, 2) := by decide +kernel
theorem dL_law_303 : decode cL_law 303 = .ok (.iaload, 1) := by decide +kernel
theorem dL_law_304 : decode cL_law 304 = .ok (.if_icmp .eq 36, 3) := by decide +kernel
theorem dL_law_307 : decode cL_law 307 = .ok (.aload_n 2, 1) := by decide +kernel
theorem dL_law_308 : decode cL_law 308 = .ok (.getfield 71, 3) := by decide +kernel
theorem dL_law_311 : decode cL_law 311 = .ok (.iload 9, 2) := by decide +kernel
theorem dL_law_313 : decode cL_law 313 = .ok (.iaload, 1) := by decide +kernel
theorem dL_law_314 : decode cL_law 314 = .ok (.iconst 4, 1) := by decide +kernel
theorem dL_law_315 : decode cL_law 315 = .ok (.if_icmp .ne 29, 3) := by decide +kernel
theorem dL_law_318 : decode cL_law 318 = .ok (.aload_n 2, 1) := by decide +kernel
theorem dL_law_319 : decode cL_law 319 = .ok (.getfield 67, 3) := by decide +kernel
theorem dL_law_322 : decode cL_law 322 = .ok (.aload_n 2, 1) := by decide +kernel
theorem dL_law_323 : decode cL_law 323 = .ok (.getfield 77, 3) := by decide +kernel
theorem dL_law_326 : decode cL_law 326 = .ok (.iload 9, 2) := by decide +kernel
theorem dL_law_328 : decode cL_law 328 = .ok (.iaload, 1) := by decide +kernel
theorem dL_law_329 : decode cL_law 329 = .ok (.iaload, 1) := by decide +kernel
theorem dL_law_330 : decode cL_law 330 = .ok (.aload_n 2, 1) := by decide +kernel
theorem dL_law_331 : decode cL_law 331 = .ok (.getfield 67, 3) := by decide +kernel
theorem dL_law_334 : decode cL_law 334 = .ok (.iload 6, 2) := by decide +kernel
theorem dL_law_336 : decode cL_law 336 = .ok (.iaload, 1) := by decide +kernel
theorem dL_law_337 : decode cL_law 337 = .ok (.if_icmp .ne 7, 3) := by decide +kernel
theorem dL_law_340 : decode cL_law 340 = .ok (.iconst 1, 1) := by decide +kernel
theorem dL_law_341 : decode cL_law 341 = .ok (.goto 4, 3) := by decide +kernel
theorem dL_law_344 : decode cL_law 344 = .ok (.iconst 0, 1) := by decide +kernel
theorem dL_law_345 : decode cL_law 345 = .ok (.istore 10, 2) := by decide +kernel
theorem dL_law_347 : decode cL_law 347 = .ok (.iload 8, 2) := by decide +kernel
theorem dL_law_349 : decode cL_law 349 = .ok (.iload 10, 2) := by decide +kernel
theorem dL_law_351 : decode cL_law 351 = .ok (.ifCond .eq 7, 3) := by decide +kernel
theorem dL_law_354 : decode cL_law 354 = .ok (.iconst 1, 1) := by decide +kernel
theorem dL_law_355 : decode cL_law 355 = .ok (.goto 4, 3) := by decide +kernel
theorem dL_law_358 : decode cL_law 358 = .ok (.iconst 0, 1) := by decide +kernel
theorem dL_law_359 : decode cL_law 359 = .ok (.iadd, 1) := by decide +kernel
theorem dL_law_360 : decode cL_law 360 = .ok (.istore 8, 2) := by decide +kernel
theorem dL_law_362 : decode cL_law 362 = .ok (.aload_n 3, 1) := by decide +kernel
theorem dL_law_363 : decode cL_law 363 = .ok (.iload 6, 2) := by decide +kernel
theorem dL_law_365 : decode cL_law 365 = .ok (.iload 9, 2) := by decide +kernel
theorem dL_law_367 : decode cL_law 367 = .ok (.invokevirtual 80, 3) := by decide +kernel
theorem dL_law_370 : decode cL_law 370 = .ok (.aload_n 2, 1) := by decide +kernel
theorem dL_law_371 : decode cL_law 371 = .ok (.getfield 67, 3) := by decide +kernel
theorem dL_law_374 : decode cL_law 374 = .ok (.iload 6, 2) := by decide +kernel
theorem dL_law_376 : decode cL_law 376 = .ok (.iaload, 1) := by decide +kernel
theorem dL_law_377 : decode cL_law 377 = .ok (.aload_n 2, 1) := by decide +kernel
theorem dL_law_378 : decode cL_law 378 = .ok (.getfield 67, 3) := by decide +kernel
theorem dL_law_381 : decode cL_law 381 = .ok (.iload 9, 2) := by decide +kernel
theorem dL_law_383 : decode cL_law 383 = .ok (.iaload, 1) := by decide +kernel
theorem dL_law_384 : decode cL_law 384 = .ok (.if_icmp .ne 7, 3) := by decide +kernel
theorem dL_law_387 : decode cL_law 387 = .ok (.iconst 1, 1) := by decide +kernel
theorem dL_law_388 : decode cL_law 388 = .ok (.goto 4, 3) := by decide +kernel
theorem dL_law_391 : decode cL_law 391 = .ok (.iconst 0, 1) := by decide +kernel
theorem dL_law_392 : decode cL_law 392 = .ok (.if_icmp .eq 5, 3) := by decide +kernel
theorem dL_law_395 : decode cL_law 395 = .ok (.iconst 0, 1) := by decide +kernel
theorem dL_law_396 : decode cL_law 396 = .ok (.ireturn, 1) := by decide +kernel
theorem dL_law_397 : decode cL_law 397 = .ok (.iinc 9 1, 3) := by decide +kernel
theorem dL_law_400 : decode cL_law 400 = .ok (.goto (-162), 3) := by decide +kernel
theorem dL_law_403 : decode cL_law 403 = .ok (.iload 5, 2) := by decide +kernel
theorem dL_law_405 : decode cL_law 405 = .ok (.aload_n 2, 1) := by decide +kernel
theorem dL_law_406 : decode cL_law 406 = .ok (.getfield 67, 3) := by decide +kernel
theorem dL_law_409 : decode cL_law 409 = .ok (.iload 6, 2) := by decide +kernel
theorem dL_law_411 : decode cL_law 411 = .ok (.iaload, 1) := by decide +kernel
theorem dL_law_412 : decode cL_law 412 = .ok (.iload 6, 2) := by decide +kernel
theorem dL_law_414 : decode cL_law 414 = .ok (.if_icmp .ne 7, 3) := by decide +kernel
theorem dL_law_417 : decode cL_law 417 = .ok (.iconst 1, 1) := by decide +kernel
theorem dL_law_418 : decode cL_law 418 = .ok (.goto 4, 3) := by decide +kernel
theorem dL_law_421 : decode cL_law 421 = .ok (.iconst 0, 1) := by decide +kernel
theorem dL_law_422 : decode cL_law 422 = .ok (.iadd, 1) := by decide +kernel
theorem dL_law_423 : decode cL_law 423 = .ok (.istore 5, 2) := by decide +kernel
theorem dL_law_425 : decode cL_law 425 = .ok (.aload_n 3, 1) := by decide +kernel
theorem dL_law_426 : decode cL_law 426 = .ok (.iload 6, 2) := by decide +kernel
theorem dL_law_428 : decode cL_law 428 = .ok (.iconst 5, 1) := by decide +kernel
theorem dL_law_429 : decode cL_law 429 = .ok (.invokevirtual 83, 3) := by decide +kernel
theorem dL_law_432 : decode cL_law 432 = .ok (.istore 9, 2) := by decide +kernel
theorem dL_law_434 : decode cL_law 434 = .ok (.aload_n 3, 1) := by decide +kernel
theorem dL_law_435 : decode cL_law 435 = .ok (.iload 6, 2) := by decide +kernel
theorem dL_law_437 : decode cL_law 437 = .ok (.iconst 0, 1) := by decide +kernel
theorem dL_law_438 : decode cL_law 438 = .ok (.invokevirtual 83, 3) := by decide +kernel
theorem dL_law_441 : decode cL_law 441 = .ok (.aload_n 2, 1) := by decide +kernel
theorem dL_law_442 : decode cL_law 442 = .ok (.getfield 71, 3) := by decide +kernel
theorem dL_law_445 : decode cL_law 445 = .ok (.iload 6, 2) := by decide +kernel
theorem dL_law_447 : decode cL_law 447 = .ok (.iaload, 1) := by decide +kernel
theorem dL_law_448 : decode cL_law 448 = .ok (.if_icmp .ne 75, 3) := by decide +kernel
theorem dL_law_451 : decode cL_law 451 = .ok (.aload_n 3, 1) := by decide +kernel
theorem dL_law_452 : decode cL_law 452 = .ok (.iload 6, 2) := by decide +kernel
theorem dL_law_454 : decode cL_law 454 = .ok (.iconst 1, 1) := by decide +kernel
theorem dL_law_455 : decode cL_law 455 = .ok (.invokevirtual 83, 3) := by decide +kernel
theorem dL_law_458 : decode cL_law 458 = .ok (.aload_n 2, 1) := by decide +kernel
theorem dL_law_459 : decode cL_law 459 = .ok (.getfield 67, 3) := by decide +kernel
theorem dL_law_462 : decode cL_law 462 = .ok (.iload 6, 2) := by decide +kernel
theorem dL_law_464 : decode cL_law 464 = .ok (.iaload, 1) := by decide +kernel
theorem dL_law_465 : decode cL_law 465 = .ok (.if_icmp .ne 58, 3) := by decide +kernel
theorem dL_law_468 : decode cL_law 468 = .ok (.aload_n 3, 1) := by decide +kernel
theorem dL_law_469 : decode cL_law 469 = .ok (.iload 6, 2) := by decide +kernel
theorem dL_law_471 : decode cL_law 471 = .ok (.iconst 2, 1) := by decide +kernel
theorem dL_law_472 : decode cL_law 472 = .ok (.invokevirtual 83, 3) := by decide +kernel
theorem dL_law_475 : decode cL_law 475 = .ok (.iload 7, 2) := by decide +kernel
theorem dL_law_477 : decode cL_law 477 = .ok (.if_icmp .ne 46, 3) := by decide +kernel
theorem dL_law_480 : decode cL_law 480 = .ok (.aload_n 3, 1) := by decide +kernel
theorem dL_law_481 : decode cL_law 481 = .ok (.iload 6, 2) := by decide +kernel
theorem dL_law_483 : decode cL_law 483 = .ok (.iconst 3, 1) := by decide +kernel
theorem dL_law_484 : decode cL_law 484 = .ok (.invokevirtual 83, 3) := by decide +kernel
theorem dL_law_487 : decode cL_law 487 = .ok (.iload 8, 2) := by decide +kernel
theorem dL_law_489 : decode cL_law 489 = .ok (.if_icmp .ne 34, 3) := by decide +kernel
theorem dL_law_492 : decode cL_law 492 = .ok (.iload 9, 2) := by decide +kernel
theorem dL_law_494 : decode cL_law 494 = .ok (.bipush (-2), 2) := by decide +kernel
theorem dL_law_496 : decode cL_law 496 = .ok (.if_icmp .eq 29, 3) := by decide +kernel
theorem dL_law_499 : decode cL_law 499 = .ok (.aload_n 2, 1) := by decide +kernel
theorem dL_law_500 : decode cL_law 500 = .ok (.getfield 67, 3) := by decide +kernel
theorem dL_law_503 : decode cL_law 503 = .ok (.iload 9, 2) := by decide +kernel
theorem dL_law_505 : decode cL_law 505 = .ok (.iaload, 1) := by decide +kernel
theorem dL_law_506 : decode cL_law 506 = .ok (.aload_n 2, 1) := by decide +kernel
theorem dL_law_507 : decode cL_law 507 = .ok (.getfield 67, 3) := by decide +kernel
theorem dL_law_510 : decode cL_law 510 = .ok (.iload 6, 2) := by decide +kernel
theorem dL_law_512 : decode cL_law 512 = .ok (.iaload, 1) := by decide +kernel
theorem dL_law_513 : decode cL_law 513 = .ok (.if_icmp .ne 10, 3) := by decide +kernel
theorem dL_law_516 : decode cL_law 516 = .ok (.iload 9, 2) := by decide +kernel
theorem dL_law_518 : decode cL_law 518 = .ok (.iload 6, 2) := by decide +kernel
theorem dL_law_520 : decode cL_law 520 = .ok (.if_icmp .ne 5, 3) := by decide +kernel
theorem dL_law_523 : decode cL_law 523 = .ok (.iconst 0, 1) := by decide +kernel
theorem dL_law_524 : decode cL_law 524 = .ok (.ireturn, 1) := by decide +kernel
theorem dL_law_525 : decode cL_law 525 = .ok (.aload_n 3, 1) := by decide +kernel
theorem dL_law_526 : decode cL_law 526 = .ok (.iload 6, 2) := by decide +kernel
theorem dL_law_528 : decode cL_law 528 = .ok (.iconst 0, 1) := by decide +kernel
theorem dL_law_529 : decode cL_law 529 = .ok (.invokevirtual 86, 3) := by decide +kernel
theorem dL_law_532 : decode cL_law 532 = .ok (.aload_n 2, 1) := by decide +kernel
theorem dL_law_533 : decode cL_law 533 = .ok (.getfield 71, 3) := by decide +kernel
theorem dL_law_536 : decode cL_law 536 = .ok (.iload 6, 2) := by decide +kernel
theorem dL_law_538 : decode cL_law 538 = .ok (.iaload, 1) := by decide +kernel
theorem dL_law_539 : decode cL_law 539 = .ok (.iconst 2, 1) := by decide +kernel
theorem dL_law_540 : decode cL_law 540 = .ok (.if_icmp .le 13, 3) := by decide +kernel
theorem dL_law_543 : decode cL_law 543 = .ok (.aload_n 2, 1) := by decide +kernel
theorem dL_law_544 : decode cL_law 544 = .ok (.getfield 74, 3) := by decide +kernel
theorem dL_law_547 : decode cL_law 547 = .ok (.iload 6, 2) := by decide +kernel
theorem dL_law_549 : decode cL_law 549 = .ok (.iaload, 1) := by decide +kernel
theorem dL_law_550 : decode cL_law 550 = .ok (.goto 5, 3) := by decide +kernel
theorem dL_law_553 : decode cL_law 553 = .ok (.bipush (-2), 2) := by decide +kernel
theorem dL_law_555 : decode cL_law 555 = .ok (.if_icmp .ne 48, 3) := by decide +kernel
theorem dL_law_558 : decode cL_law 558 = .ok (.aload_n 3, 1) := by decide +kernel
theorem dL_law_559 : decode cL_law 559 = .ok (.iload 6, 2) := by decide +kernel
theorem dL_law_561 : decode cL_law 561 = .ok (.iconst 1, 1) := by decide +kernel
theorem dL_law_562 : decode cL_law 562 = .ok (.invokevirtual 86, 3) := by decide +kernel
theorem dL_law_565 : decode cL_law 565 = .ok (.aload_n 2, 1) := by decide +kernel
theorem dL_law_566 : decode cL_law 566 = .ok (.getfield 71, 3) := by decide +kernel
theorem dL_law_569 : decode cL_law 569 = .ok (.iload 6, 2) := by decide +kernel
theorem dL_law_571 : decode cL_law 571 = .ok (.iaload, 1) := by decide +kernel
theorem dL_law_572 : decode cL_law 572 = .ok (.iconst 4, 1) := by decide +kernel
theorem dL_law_573 : decode cL_law 573 = .ok (.if_icmp .ne 13, 3) := by decide +kernel
theorem dL_law_576 : decode cL_law 576 = .ok (.aload_n 2, 1) := by decide +kernel
theorem dL_law_577 : decode cL_law 577 = .ok (.getfield 77, 3) := by decide +kernel
theorem dL_law_580 : decode cL_law 580 = .ok (.iload 6, 2) := by decide +kernel
theorem dL_law_582 : decode cL_law 582 = .ok (.iaload, 1) := by decide +kernel
theorem dL_law_583 : decode cL_law 583 = .ok (.goto 5, 3) := by decide +kernel
theorem dL_law_586 : decode cL_law 586 = .ok (.bipush (-2), 2) := by decide +kernel
theorem dL_law_588 : decode cL_law 588 = .ok (.if_icmp .ne 15, 3) := by decide +kernel
theorem dL_law_591 : decode cL_law 591 = .ok (.aload_n 3, 1) := by decide +kernel
theorem dL_law_592 : decode cL_law 592 = .ok (.iload 6, 2) := by decide +kernel
theorem dL_law_594 : decode cL_law 594 = .ok (.iconst 3, 1) := by decide +kernel
theorem dL_law_595 : decode cL_law 595 = .ok (.invokevirtual 86, 3) := by decide +kernel
theorem dL_law_598 : decode cL_law 598 = .ok (.bipush (-2), 2) := by decide +kernel
theorem dL_law_600 : decode cL_law 600 = .ok (.if_icmp .eq 5, 3) := by decide +kernel
theorem dL_law_603 : decode cL_law 603 = .ok (.iconst 0, 1) := by decide +kernel
theorem dL_law_604 : decode cL_law 604 = .ok (.ireturn, 1) := by decide +kernel
theorem dL_law_605 : decode cL_law 605 = .ok (.iinc 6 1, 3) := by decide +kernel
theorem dL_law_608 : decode cL_law 608 = .ok (.goto (-388), 3) := by decide +kernel
theorem dL_law_611 : decode cL_law 611 = .ok (.aload_n 3, 1) := by decide +kernel
theorem dL_law_612 : decode cL_law 612 = .ok (.iconst 4, 1) := by decide +kernel
theorem dL_law_613 : decode cL_law 613 = .ok (.invokevirtual 49, 3) := by decide +kernel
theorem dL_law_616 : decode cL_law 616 = .ok (.iload 5, 2) := by decide +kernel
theorem dL_law_618 : decode cL_law 618 = .ok (.if_icmp .ne 19, 3) := by decide +kernel
theorem dL_law_621 : decode cL_law 621 = .ok (.aload_n 3, 1) := by decide +kernel
theorem dL_law_622 : decode cL_law 622 = .ok (.bipush 6, 2) := by decide +kernel
theorem dL_law_624 : decode cL_law 624 = .ok (.invokevirtual 49, 3) := by decide +kernel
theorem dL_law_627 : decode cL_law 627 = .ok (.aload_n 2, 1) := by decide +kernel
theorem dL_law_628 : decode cL_law 628 = .ok (.getfield 45, 3) := by decide +kernel
theorem dL_law_631 : decode cL_law 631 = .ok (.iload 5, 2) := by decide +kernel
theorem dL_law_633 : decode cL_law 633 = .ok (.isub, 1) := by decide +kernel
theorem dL_law_634 : decode cL_law 634 = .ok (.if_icmp .eq 5, 3) := by decide +kernel
theorem dL_law_637 : decode cL_law 637 = .ok (.iconst 0, 1) := by decide +kernel
theorem dL_law_638 : decode cL_law 638 = .ok (.ireturn, 1) := by decide +kernel
theorem dL_law_639 : decode cL_law 639 = .ok (.iconst 0, 1) := by decide +kernel
theorem dL_law_640 : decode cL_law 640 = .ok (.istore 6, 2) := by decide +kernel
theorem dL_law_642 : decode cL_law 642 = .ok (.iconst 0, 1) := by decide +kernel
theorem dL_law_643 : decode cL_law 643 = .ok (.istore 7, 2) := by decide +kernel
theorem dL_law_645 : decode cL_law 645 = .ok (.iload 7, 2) := by decide +kernel
theorem dL_law_647 : decode cL_law 647 = .ok (.aload_n 2, 1) := by decide +kernel
theorem dL_law_648 : decode cL_law 648 = .ok (.getfield 45, 3) := by decide +kernel
theorem dL_law_651 : decode cL_law 651 = .ok (.if_icmp .ge 147, 3) := by decide +kernel
theorem dL_law_654 : decode cL_law 654 = .ok (.aload_n 3, 1) := by decide +kernel
theorem dL_law_655 : decode cL_law 655 = .ok (.iload 7, 2) := by decide +kernel
theorem dL_law_657 : decode cL_law 657 = .ok (.iconst 5, 1) := by decide +kernel
theorem dL_law_658 : decode cL_law 658 = .ok (.invokevirtual 83, 3) := by decide +kernel
theorem dL_law_661 : decode cL_law 661 = .ok (.istore 8, 2) := by decide +kernel
theorem dL_law_663 : decode cL_law 663 = .ok (.iconst 0, 1) := by decide +kernel
theorem dL_law_664 : decode cL_law 664 = .ok (.istore 9, 2) := by decide +kernel
theorem dL_law_666 : decode cL_law 666 = .ok (.iload 6, 2) := by decide +kernel
theorem dL_law_668 : decode cL_law 668 = .ok (.iload 8, 2) := by decide +kernel
theorem dL_law_670 : decode cL_law 670 = .ok (.bipush (-2), 2) := by decide +kernel
theorem dL_law_672 : decode cL_law 672 = .ok (.if_icmp .ne 7, 3) := by decide +kernel
theorem dL_law_675 : decode cL_law 675 = .ok (.iconst 1, 1) := by decide +kernel
theorem dL_law_676 : decode cL_law 676 = .ok (.goto 4, 3) := by decide +kernel
theorem dL_law_679 : decode cL_law 679 = .ok (.iconst 0, 1) := by decide +kernel
theorem dL_law_680 : decode cL_law 680 = .ok (.iadd, 1) := by decide +kernel
theorem dL_law_681 : decode cL_law 681 = .ok (.istore 6, 2) := by decide +kernel
theorem dL_law_683 : decode cL_law 683 = .ok (.aload_n 3, 1) := by decide +kernel
theorem dL_law_684 : decode cL_law 684 = .ok (.iload 7, 2) := by decide +kernel
theorem dL_law_686 : decode cL_law 686 = .ok (.invokevirtual 89, 3) := by decide +kernel
theorem dL_law_689 : decode cL_law 689 = .ok (.iload 8, 2) := by decide +kernel
theorem dL_law_691 : decode cL_law 691 = .ok (.bipush (-2), 2) := by decide +kernel
theorem dL_law_693 : decode cL_law 693 = .ok (.if_icmp .ne 7, 3) := by decide +kernel
theorem dL_law_696 : decode cL_law 696 = .ok (.iconst 0, 1) := by decide +kernel
theorem dL_law_697 : decode cL_law 697 = .ok (.goto 11, 3) := by decide +kernel
theorem dL_law_700 : decode cL_law 700 = .ok (.aload_n 3, 1) := by decide +kernel
theorem dL_law_701 : decode cL_law 701 = .ok (.iload 8, 2) := by decide +kernel
theorem dL_law_703 : decode cL_law 703 = .ok (.invokevirtual 89, 3) := by decide +kernel
theorem dL_law_706 : decode cL_law 706 = .ok (.iconst 1, 1) := by decide +kernel
theorem dL_law_707 : decode cL_law 707 = .ok (.iadd, 1) := by decide +kernel
theorem dL_law_708 : decode cL_law 708 = .ok (.if_icmp .ne 16, 3) := by decide +kernel
theorem dL_law_711 : decode cL_law 711 = .ok (.aload_n 3, 1) := by decide +kernel
theorem dL_law_712 : decode cL_law 712 = .ok (.iload 7, 2) := by decide +kernel
theorem dL_law_714 : decode cL_law 714 = .ok (.invokevirtual 89, 3) := by decide +kernel
theorem dL_law_717 : decode cL_law 717 = .ok (.aload_n 2, 1) := by decide +kernel
theorem dL_law_718 : decode cL_law 718 = .ok (.getfield 45, 3) := by decide +kernel
theorem dL_law_721 : decode cL_law 721 = .ok (.if_icmp .lt 5, 3) := by decide +kernel
theorem dL_law_724 : decode cL_law 724 = .ok (.iconst 0, 1) := by decide +kernel
theorem dL_law_725 : decode cL_law 725 = .ok (.ireturn, 1) := by decide +kernel
theorem dL_law_726 : decode cL_law 726 = .ok (.iconst 0, 1) := by decide +kernel
theorem dL_law_727 : decode cL_law 727 = .ok (.istore 10, 2) := by decide +kernel
theorem dL_law_729 : decode cL_law 729 = .ok (.iload 10, 2) := by decide +kernel
theorem dL_law_731 : decode cL_law 731 = .ok (.aload_n 2, 1) := by decide +kernel
theorem dL_law_732 : decode cL_law 732 = .ok (.getfield 45, 3) := by decide +kernel
theorem dL_law_735 : decode cL_law 735 = .ok (.if_icmp .ge 42, 3) := by decide +kernel
theorem dL_law_738 : decode cL_law 738 = .ok (.aload_n 3, 1) := by decide +kernel
theorem dL_law_739 : decode cL_law 739 = .ok (.iload 10, 2) := by decide +kernel
theorem dL_law_741 : decode cL_law 741 = .ok (.iconst 5, 1) := by decide +kernel
theorem dL_law_742 : decode cL_law 742 = .ok (.invokevirtual 83, 3) := by decide +kernel
theorem dL_law_745 : decode cL_law 745 = .ok (.iload 7, 2) := by decide +kernel
theorem dL_law_747 : decode cL_law 747 = .ok (.if_icmp .eq 6, 3) := by decide +kernel
theorem dL_law_750 : decode cL_law 750 = .ok (.goto 21, 3) := by decide +kernel
theorem dL_law_753 : decode cL_law 753 = .ok (.aload_n 3, 1) := by decide +kernel
theorem dL_law_754 : decode cL_law 754 = .ok (.iload 7, 2) := by decide +kernel
theorem dL_law_756 : decode cL_law 756 = .ok (.iload 9, 2) := by decide +kernel
theorem dL_law_758 : decode cL_law 758 = .ok (.invokevirtual 92, 3) := by decide +kernel
theorem dL_law_761 : decode cL_law 761 = .ok (.iload 10, 2) := by decide +kernel
theorem dL_law_763 : decode cL_law 763 = .ok (.if_icmp .eq 5, 3) := by decide +kernel
theorem dL_law_766 : decode cL_law 766 = .ok (.iconst 0, 1) := by decide +kernel
theorem dL_law_767 : decode cL_law 767 = .ok (.ireturn, 1) := by decide +kernel
theorem dL_law_768 : decode cL_law 768 = .ok (.iinc 9 1, 3) := by decide +kernel
theorem dL_law_771 : decode cL_law 771 = .ok (.iinc 10 1, 3) := by decide +kernel
theorem dL_law_774 : decode cL_law 774 = .ok (.goto (-45), 3) := by decide +kernel
theorem dL_law_777 : decode cL_law 777 = .ok (.aload_n 3, 1) := by decide +kernel
theorem dL_law_778 : decode cL_law 778 = .ok (.iload 7, 2) := by decide +kernel
theorem dL_law_780 : decode cL_law 780 = .ok (.iload 9, 2) := by decide +kernel
theorem dL_law_782 : decode cL_law 782 = .ok (.invokevirtual 92, 3) := by decide +kernel
theorem dL_law_785 : decode cL_law 785 = .ok (.bipush (-2), 2) := by decide +kernel
theorem dL_law_787 : decode cL_law 787 = .ok (.if_icmp .eq 5, 3) := by decide +kernel
theorem dL_law_790 : decode cL_law 790 = .ok (.iconst 0, 1) := by decide +kernel
theorem dL_law_791 : decode cL_law 791 = .ok (.ireturn, 1) := by decide +kernel
theorem dL_law_792 : decode cL_law 792 = .ok (.iinc 7 1, 3) := by decide +kernel
theorem dL_law_795 : decode cL_law 795 = .ok (.goto (-150), 3) := by decide +kernel
theorem dL_law_798 : decode cL_law 798 = .ok (.iload 6, 2) := by decide +kernel
theorem dL_law_800 : decode cL_law 800 = .ok (.iload 5, 2) := by decide +kernel
theorem dL_law_802 : decode cL_law 802 = .ok (.if_icmp .eq 5, 3) := by decide +kernel
theorem dL_law_805 : decode cL_law 805 = .ok (.iconst 0, 1) := by decide +kernel
theorem dL_law_806 : decode cL_law 806 = .ok (.ireturn, 1) := by decide +kernel
theorem dL_law_807 : decode cL_law 807 = .ok (.iconst 0, 1) := by decide +kernel
theorem dL_law_808 : decode cL_law 808 = .ok (.istore 7, 2) := by decide +kernel
theorem dL_law_810 : decode cL_law 810 = .ok (.iload 7, 2) := by decide +kernel
theorem dL_law_812 : decode cL_law 812 = .ok (.aload_n 3, 1) := by decide +kernel
theorem dL_law_813 : decode cL_law 813 = .ok (.bipush 6, 2) := by decide +kernel
theorem dL_law_815 : decode cL_law 815 = .ok (.invokevirtual 49, 3) := by decide +kernel
theorem dL_law_818 : decode cL_law 818 = .ok (.if_icmp .ge 116, 3) := by decide +kernel
theorem dL_law_821 : decode cL_law 821 = .ok (.aload_n 3, 1) := by decide +kernel
theorem dL_law_822 : decode cL_law 822 = .ok (.iload 7, 2) := by decide +kernel
theorem dL_law_824 : decode cL_law 824 = .ok (.iconst 0, 1) := by decide +kernel
theorem dL_law_825 : decode cL_law 825 = .ok (.invokevirtual 95, 3) := by decide +kernel
theorem dL_law_828 : decode cL_law 828 = .ok (.istore 8, 2) := by decide +kernel
theorem dL_law_830 : decode cL_law 830 = .ok (.aload_n 3, 1) := by decide +kernel
theorem dL_law_831 : decode cL_law 831 = .ok (.iload 7, 2) := by decide +kernel
theorem dL_law_833 : decode cL_law 833 = .ok (.iconst 1, 1) := by decide +kernel
theorem dL_law_834 : decode cL_law 834 = .ok (.invokevirtual 95, 3) := by decide +kernel
theorem dL_law_837 : decode cL_law 837 = .ok (.istore 9, 2) := by decide +kernel
theorem dL_law_839 : decode cL_law 839 = .ok (.aload_n 3, 1) := by decide +kernel
theorem dL_law_840 : decode cL_law 840 = .ok (.iload 7, 2) := by decide +kernel
theorem dL_law_842 : decode cL_law 842 = .ok (.iconst 2, 1) := by decide +kernel
theorem dL_law_843 : decode cL_law 843 = .ok (.invokevirtual 95, 3) := by decide +kernel
theorem dL_law_846 : decode cL_law 846 = .ok (.istore 10, 2) := by decide +kernel
theorem dL_law_848 : decode cL_law 848 = .ok (.aload_n 2, 1) := by decide +kernel
theorem dL_law_849 : decode cL_law 849 = .ok (.getfield 67, 3) := by decide +kernel
theorem dL_law_852 : decode cL_law 852 = .ok (.iload 8, 2) := by decide +kernel
theorem dL_law_854 : decode cL_law 854 = .ok (.iaload, 1) := by decide +kernel
theorem dL_law_855 : decode cL_law 855 = .ok (.aload_n 2, 1) := by decide +kernel
theorem dL_law_856 : decode cL_law 856 = .ok (.getfield 67, 3) := by decide +kernel
theorem dL_law_859 : decode cL_law 859 = .ok (.iload 9, 2) := by decide +kernel
theorem dL_law_861 : decode cL_law 861 = .ok (.iaload, 1) := by decide +kernel
theorem dL_law_862 : decode cL_law 862 = .ok (.if_icmp .ne 64, 3) := by decide +kernel
theorem dL_law_865 : decode cL_law 865 = .ok (.iload 8, 2) := by decide +kernel
theorem dL_law_867 : decode cL_law 867 = .ok (.iload 9, 2) := by decide +kernel
theorem dL_law_869 : decode cL_law 869 = .ok (.if_icmp .eq 57, 3) := by decide +kernel
theorem dL_law_872 : decode cL_law 872 = .ok (.iload 10, 2) := by decide +kernel
theorem dL_law_874 : decode cL_law 874 = .ok (.ifCond .lt 27, 3) := by decide +kernel
theorem dL_law_877 : decode cL_law 877 = .ok (.aload_n 3, 1) := by decide +kernel
theorem dL_law_878 : decode cL_law 878 = .ok (.iload 10, 2) := by decide +kernel
theorem dL_law_880 : decode cL_law 880 = .ok (.iconst 0, 1) := by decide +kernel
theorem dL_law_881 : decode cL_law 881 = .ok (.invokevirtual 98, 3) := by decide +kernel
theorem dL_law_884 : decode cL_law 884 = .ok (.iload 8, 2) := by decide +kernel
theorem dL_law_886 : decode cL_law 886 = .ok (.if_icmp .ne 40, 3) := by decide +kernel
theorem dL_law_889 : decode cL_law 889 = .ok (.aload_n 3, 1) := by decide +kernel
theorem dL_law_890 : decode cL_law 890 = .ok (.iload 10, 2) := by decide +kernel
theorem dL_law_892 : decode cL_law 892 = .ok (.iconst 1, 1) := by decide +kernel
theorem dL_law_893 : decode cL_law 893 = .ok (.invokevirtual 98, 3) := by decide +kernel
theorem dL_law_896 : decode cL_law 896 = .ok (.iload 9, 2) := by decide +kernel
theorem dL_law_898 : decode cL_law 898 = .ok (.if_icmp .ne 28, 3) := by decide +kernel
theorem dL_law_901 : decode cL_law 901 = .ok (.iload 10, 2) := by decide +kernel
theorem dL_law_903 : decode cL_law 903 = .ok (.bipush (-2), 2) := by decide +kernel
theorem dL_law_905 : decode cL_law 905 = .ok (.if_icmp .ne 23, 3) := by decide +kernel
theorem dL_law_908 : decode cL_law 908 = .ok (.iload 8, 2) := by decide +kernel
theorem dL_law_910 : decode cL_law 910 = .ok (.iload 9, 2) := by decide +kernel
theorem dL_law_912 : decode cL_law 912 = .ok (.if_icmp .ge 14, 3) := by decide +kernel
theorem dL_law_915 : decode cL_law 915 = .ok (.aload_n 2, 1) := by decide +kernel
theorem dL_law_916 : decode cL_law 916 = .ok (.iload 8, 2) := by decide +kernel
theorem dL_law_918 : decode cL_law 918 = .ok (.iload 9, 2) := by decide +kernel
theorem dL_law_920 : decode cL_law 920 = .ok (.invokevirtual 101, 3) := by decide +kernel
theorem dL_law_923 : decode cL_law 923 = .ok (.ifCond .ne 5, 3) := by decide +kernel
theorem dL_law_926 : decode cL_law 926 = .ok (.iconst 0, 1) := by decide +kernel
theorem dL_law_927 : decode cL_law 927 = .ok (.ireturn, 1) := by decide +kernel
theorem dL_law_928 : decode cL_law 928 = .ok (.iinc 7 1, 3) := by decide +kernel
theorem dL_law_931 : decode cL_law 931 = .ok (.goto (-121), 3) := by decide +kernel
theorem dL_law_934 : decode cL_law 934 = .ok (.aload_n 1, 1) := by decide +kernel
theorem dL_law_935 : decode cL_law 935 = .ok (.iconst 0, 1) := by decide +kernel
theorem dL_law_936 : decode cL_law 936 = .ok (.aload_n 2, 1) := by decide +kernel
theorem dL_law_937 : decode cL_law 937 = .ok (.getfield 45, 3) := by decide +kernel
theorem dL_law_940 : decode cL_law 940 = .ok (.iconst 1, 1) := by decide +kernel
theorem dL_law_941 : decode cL_law 941 = .ok (.isub, 1) := by decide +kernel
theorem dL_law_942 : decode cL_law 942 = .ok (.invokevirtual 55, 3) := by decide +kernel
theorem dL_law_945 : decode cL_law 945 = .ok (.istore 7, 2) := by decide +kernel
theorem dL_law_947 : decode cL_law 947 = .ok (.aload_n 1, 1) := by decide +kernel
theorem dL_law_948 : decode cL_law 948 = .ok (.iconst 0, 1) := by decide +kernel
theorem dL_law_949 : decode cL_law 949 = .ok (.aload_n 2, 1) := by decide +kernel
theorem dL_law_950 : decode cL_law 950 = .ok (.getfield 45, 3) := by decide +kernel
theorem dL_law_953 : decode cL_law 953 = .ok (.iconst 1, 1) := by decide +kernel
theorem dL_law_954 : decode cL_law 954 = .ok (.isub, 1) := by decide +kernel
theorem dL_law_955 : decode cL_law 955 = .ok (.invokevirtual 55, 3) := by decide +kernel
theorem dL_law_958 : decode cL_law 958 = .ok (.istore 8, 2) := by decide +kernel
theorem dL_law_960 : decode cL_law 960 = .ok (.aload_n 3, 1) := by decide +kernel
theorem dL_law_961 : decode cL_law 961 = .ok (.iload 7, 2) := by decide +kernel
theorem dL_law_963 : decode cL_law 963 = .ok (.iload 8, 2) := by decide +kernel
theorem dL_law_965 : decode cL_law 965 = .ok (.iconst 0, 1) := by decide +kernel
theorem dL_law_966 : decode cL_law 966 = .ok (.invokevirtual 105, 3) := by decide +kernel
theorem dL_law_969 : decode cL_law 969 = .ok (.istore 9, 2) := by decide +kernel
theorem dL_law_971 : decode cL_law 971 = .ok (.aload_n 3, 1) := by decide +kernel
theorem dL_law_972 : decode cL_law 972 = .ok (.iload 7, 2) := by decide +kernel
theorem dL_law_974 : decode cL_law 974 = .ok (.iload 8, 2) := by decide +kernel
theorem dL_law_976 : decode cL_law 976 = .ok (.iconst 2, 1) := by decide +kernel
theorem dL_law_977 : decode cL_law 977 = .ok (.invokevirtual 105, 3) := by decide +kernel
theorem dL_law_980 : decode cL_law 980 = .ok (.istore 10, 2) := by decide +kernel
theorem dL_law_982 : decode cL_law 982 = .ok (.aload_n 2, 1) := by decide +kernel
theorem dL_law_983 : decode cL_law 983 = .ok (.getfield 52, 3) := by decide +kernel
theorem dL_law_986 : decode cL_law 986 = .ok (.ifCond .le 128, 3) := by decide +kernel
theorem dL_law_989 : decode cL_law 989 = .ok (.aload_n 1, 1) := by decide +kernel
theorem dL_law_990 : decode cL_law 990 = .ok (.iconst 0, 1) := by decide +kernel
theorem dL_law_991 : decode cL_law 991 = .ok (.aload_n 2, 1) := by decide +kernel
theorem dL_law_992 : decode cL_law 992 = .ok (.getfield 52, 3) := by decide +kernel
theorem dL_law_995 : decode cL_law 995 = .ok (.iconst 1, 1) := by decide +kernel
theorem dL_law_996 : decode cL_law 996 = .ok (.isub, 1) := by decide +kernel
theorem dL_law_997 : decode cL_law 997 = .ok (.invokevirtual 55, 3) := by decide +kernel
theorem dL_law_1000 : decode cL_law 1000 = .ok (.istore 11, 2) := by decide +kernel
theorem dL_law_1002 : decode cL_law 1002 = .ok (.aload_n 2, 1) := by decide +kernel
theorem dL_law_1003 : decode cL_law 1003 = .ok (.iload 4, 2) := by decide +kernel
theorem dL_law_1005 : decode cL_law 1005 = .ok (.iconst 1, 1) := by decide +kernel
theorem dL_law_1006 : decode cL_law 1006 = .ok (.iload 11, 2) := by decide +kernel
theorem dL_law_1008 : decode cL_law 1008 = .ok (.ishl, 1) := by decide +kernel
theorem dL_law_1009 : decode cL_law 1009 = .ok (.iconst (-1), 1) := by decide +kernel
theorem dL_law_1010 : decode cL_law 1010 = .ok (.ixor, 1) := by decide +kernel
theorem dL_law_1011 : decode cL_law 1011 = .ok (.iand, 1) := by decide +kernel
theorem dL_law_1012 : decode cL_law 1012 = .ok (.invokevirtual 59, 3) := by decide +kernel
theorem dL_law_1015 : decode cL_law 1015 = .ok (.iconst 0, 1) := by decide +kernel
theorem dL_law_1016 : decode cL_law 1016 = .ok (.istore 12, 2) := by decide +kernel
theorem dL_law_1018 : decode cL_law 1018 = .ok (.iconst 0, 1) := by decide +kernel
theorem dL_law_1019 : decode cL_law 1019 = .ok (.istore 13, 2) := by decide +kernel
theorem dL_law_1021 : decode cL_law 1021 = .ok (.iload 13, 2) := by decide +kernel
theorem dL_law_1023 : decode cL_law 1023 = .ok (.aload_n 2, 1) := by decide +kernel
theorem dL_law_1024 : decode cL_law 1024 = .ok (.getfield 45, 3) := by decide +kernel
theorem dL_law_1027 : decode cL_law 1027 = .ok (.if_icmp .ge 31, 3) := by decide +kernel
theorem dL_law_1030 : decode cL_law 1030 = .ok (.iload 12, 2) := by decide +kernel
theorem dL_law_1032 : decode cL_law 1032 = .ok (.aload_n 2, 1) := by decide +kernel
theorem dL_law_1033 : decode cL_law 1033 = .ok (.getfield 67, 3) := by decide +kernel
theorem dL_law_1036 : decode cL_law 1036 = .ok (.iload 13, 2) := by decide +kernel
theorem dL_law_1038 : decode cL_law 1038 = .ok (.iaload, 1) := by decide +kernel
theorem dL_law_1039 : decode cL_law 1039 = .ok (.iload 13, 2) := by decide +kernel
theorem dL_law_1041 : decode cL_law 1041 = .ok (.if_icmp .ne 7, 3) := by decide +kernel
theorem dL_law_1044 : decode cL_law 1044 = .ok (.iconst 1, 1) := by decide +kernel
theorem dL_law_1045 : decode cL_law 1045 = .ok (.goto 4, 3) := by decide +kernel
theorem dL_law_1048 : decode cL_law 1048 = .ok (.iconst 0, 1) := by decide +kernel
theorem dL_law_1049 : decode cL_law 1049 = .ok (.iadd, 1) := by decide +kernel
theorem dL_law_1050 : decode cL_law 1050 = .ok (.istore 12, 2) := by decide +kernel
theorem dL_law_1052 : decode cL_law 1052 = .ok (.iinc 13 1, 3) := by decide +kernel
theorem dL_law_1055 : decode cL_law 1055 = .ok (.goto (-34), 3) := by decide +kernel
theorem dL_law_1058 : decode cL_law 1058 = .ok (.aload_n 3, 1) := by decide +kernel
theorem dL_law_1059 : decode cL_law 1059 = .ok (.iload 11, 2) := by decide +kernel
theorem dL_law_1061 : decode cL_law 1061 = .ok (.iconst 0, 1) := by decide +kernel
theorem dL_law_1062 : decode cL_law 1062 = .ok (.invokevirtual 108, 3) := by decide +kernel
theorem dL_law_1065 : decode cL_law 1065 = .ok (.iload 12, 2) := by decide +kernel
theorem dL_law_1067 : decode cL_law 1067 = .ok (.if_icmp .ne 45, 3) := by decide +kernel
theorem dL_law_1070 : decode cL_law 1070 = .ok (.aload_n 3, 1) := by decide +kernel
theorem dL_law_1071 : decode cL_law 1071 = .ok (.iload 11, 2) := by decide +kernel
theorem dL_law_1073 : decode cL_law 1073 = .ok (.iconst 2, 1) := by decide +kernel
theorem dL_law_1074 : decode cL_law 1074 = .ok (.invokevirtual 98, 3) := by decide +kernel
theorem dL_law_1077 : decode cL_law 1077 = .ok (.aload_n 2, 1) := by decide +kernel
theorem dL_law_1078 : decode cL_law 1078 = .ok (.getfield 67, 3) := by decide +kernel
theorem dL_law_1081 : decode cL_law 1081 = .ok (.aload_n 2, 1) := by decide +kernel
theorem dL_law_1082 : decode cL_law 1082 = .ok (.getfield 111, 3) := by decide +kernel
theorem dL_law_1085 : decode cL_law 1085 = .ok (.iload 11, 2) := by decide +kernel
theorem dL_law_1087 : decode cL_law 1087 = .ok (.iaload, 1) := by decide +kernel
theorem dL_law_1088 : decode cL_law 1088 = .ok (.iaload, 1) := by decide +kernel
theorem dL_law_1089 : decode cL_law 1089 = .ok (.aload_n 2, 1) := by decide +kernel
theorem dL_law_1090 : decode cL_law 1090 = .ok (.getfield 67, 3) := by decide +kernel
theorem dL_law_1093 : decode cL_law 1093 = .ok (.aload_n 2, 1) := by decide +kernel
theorem dL_law_1094 : decode cL_law 1094 = .ok (.getfield 114, 3) := by decide +kernel
theorem dL_law_1097 : decode cL_law 1097 = .ok (.iload 11, 2) := by decide +kernel
theorem dL_law_1099 : decode cL_law 1099 = .ok (.iaload, 1) := by decide +kernel
theorem dL_law_1100 : decode cL_law 1100 = .ok (.iaload, 1) := by decide +kernel
theorem dL_law_1101 : decode cL_law 1101 = .ok (.if_icmp .ne 7, 3) := by decide +kernel
theorem dL_law_1104 : decode cL_law 1104 = .ok (.iconst 1, 1) := by decide +kernel
theorem dL_law_1105 : decode cL_law 1105 = .ok (.goto 4, 3) := by decide +kernel
theorem dL_law_1108 : decode cL_law 1108 = .ok (.iconst 0, 1) := by decide +kernel
theorem dL_law_1109 : decode cL_law 1109 = .ok (.if_icmp .eq 5, 3) := by decide +kernel
theorem dL_law_1112 : decode cL_law 1112 = .ok (.iconst 0, 1) := by decide +kernel
theorem dL_law_1113 : decode cL_law 1113 = .ok (.ireturn, 1) := by decide +kernel
theorem dL_law_1114 : decode cL_law 1114 = .ok (.aload_n 3, 1) := by decide +kernel
theorem dL_law_1115 : decode cL_law 1115 = .ok (.iconst 4, 1) := by decide +kernel
theorem dL_law_1116 : decode cL_law 1116 = .ok (.invokevirtual 49, 3) := by decide +kernel
theorem dL_law_1119 : decode cL_law 1119 = .ok (.iload 5, 2) := by decide +kernel
theorem dL_law_1121 : decode cL_law 1121 = .ok (.if_icmp .ne 59, 3) := by decide +kernel
theorem dL_law_1124 : decode cL_law 1124 = .ok (.aload_n 3, 1) := by decide +kernel
theorem dL_law_1125 : decode cL_law 1125 = .ok (.iload 7, 2) := by decide +kernel
theorem dL_law_1127 : decode cL_law 1127 = .ok (.iload 8, 2) := by decide +kernel
theorem dL_law_1129 : decode cL_law 1129 = .ok (.invokevirtual 117, 3) := by decide +kernel
theorem dL_law_1132 : decode cL_law 1132 = .ok (.iload 9, 2) := by decide +kernel
theorem dL_law_1134 : decode cL_law 1134 = .ok (.if_icmp .ne 46, 3) := by decide +kernel
theorem dL_law_1137 : decode cL_law 1137 = .ok (.iload 5, 2) := by decide +kernel
theorem dL_law_1139 : decode cL_law 1139 = .ok (.iload 9, 2) := by decide +kernel
theorem dL_law_1141 : decode cL_law 1141 = .ok (.isub, 1) := by decide +kernel
theorem dL_law_1142 : decode cL_law 1142 = .ok (.iload 10, 2) := by decide +kernel
theorem dL_law_1144 : decode cL_law 1144 = .ok (.if_icmp .ne 36, 3) := by decide +kernel
theorem dL_law_1147 : decode cL_law 1147 = .ok (.aload_n 3, 1) := by decide +kernel
theorem dL_law_1148 : decode cL_law 1148 = .ok (.iconst 5, 1) := by decide +kernel
theorem dL_law_1149 : decode cL_law 1149 = .ok (.invokevirtual 49, 3) := by decide +kernel
theorem dL_law_1152 : decode cL_law 1152 = .ok (.iconst 1, 1) := by decide +kernel
theorem dL_law_1153 : decode cL_law 1153 = .ok (.if_icmp .ne 27, 3) := by decide +kernel
theorem dL_law_1156 : decode cL_law 1156 = .ok (.aload_n 3, 1) := by decide +kernel
theorem dL_law_1157 : decode cL_law 1157 = .ok (.invokevirtual 120, 3) := by decide +kernel
theorem dL_law_1160 : decode cL_law 1160 = .ok (.ifCond .eq 20, 3) := by decide +kernel
theorem dL_law_1163 : decode cL_law 1163 = .ok (.aload_n 3, 1) := by decide +kernel
theorem dL_law_1164 : decode cL_law 1164 = .ok (.iconst 4, 1) := by decide +kernel
theorem dL_law_1165 : decode cL_law 1165 = .ok (.invokevirtual 49, 3) := by decide +kernel
theorem dL_law_1168 : decode cL_law 1168 = .ok (.iload 5, 2) := by decide +kernel
theorem dL_law_1170 : decode cL_law 1170 = .ok (.if_icmp .ne 10, 3) := by decide +kernel
theorem dL_law_1173 : decode cL_law 1173 = .ok (.aload_n 3, 1) := by decide +kernel
theorem dL_law_1174 : decode cL_law 1174 = .ok (.invokevirtual 120, 3) := by decide +kernel
theorem dL_law_1177 : decode cL_law 1177 = .ok (.ifCond .eq 5, 3) := by decide +kernel
theorem dL_law_1180 : decode cL_law 1180 = .ok (.iconst 0, 1) := by decide +kernel
theorem dL_law_1181 : decode cL_law 1181 = .ok (.ireturn, 1) := by decide +kernel
theorem dL_law_1182 : decode cL_law 1182 = .ok (.aload_n 3, 1) := by decide +kernel
theorem dL_law_1183 : decode cL_law 1183 = .ok (.bipush 6, 2) := by decide +kernel
theorem dL_law_1185 : decode cL_law 1185 = .ok (.invokevirtual 49, 3) := by decide +kernel
theorem dL_law_1188 : decode cL_law 1188 = .ok (.aload_n 2, 1) := by decide +kernel
theorem dL_law_1189 : decode cL_law 1189 = .ok (.getfield 45, 3) := by decide +kernel
theorem dL_law_1192 : decode cL_law 1192 = .ok (.iload 5, 2) := by decide +kernel
theorem dL_law_1194 : decode cL_law 1194 = .ok (.isub, 1) := by decide +kernel
theorem dL_law_1195 : decode cL_law 1195 = .ok (.if_icmp .ne 50, 3) := by decide +kernel
theorem dL_law_1198 : decode cL_law 1198 = .ok (.aload_n 3, 1) := by decide +kernel
theorem dL_law_1199 : decode cL_law 1199 = .ok (.aload_n 2, 1) := by decide +kernel
theorem dL_law_1200 : decode cL_law 1200 = .ok (.getfield 45, 3) := by decide +kernel
theorem dL_law_1203 : decode cL_law 1203 = .ok (.iconst 0, 1) := by decide +kernel
theorem dL_law_1204 : decode cL_law 1204 = .ok (.invokevirtual 83, 3) := by decide +kernel
theorem dL_law_1207 : decode cL_law 1207 = .ok (.iconst (-1), 1) := by decide +kernel
theorem dL_law_1208 : decode cL_law 1208 = .ok (.if_icmp .ne 37, 3) := by decide +kernel
theorem dL_law_1211 : decode cL_law 1211 = .ok (.aload_n 3, 1) := by decide +kernel
theorem dL_law_1212 : decode cL_law 1212 = .ok (.invokevirtual 124, 3) := by decide +kernel
theorem dL_law_1215 : decode cL_law 1215 = .ok (.iconst 1, 1) := by decide +kernel
theorem dL_law_1216 : decode cL_law 1216 = .ok (.if_icmp .ne 29, 3) := by decide +kernel
theorem dL_law_1219 : decode cL_law 1219 = .ok (.aload_n 3, 1) := by decide +kernel
theorem dL_law_1220 : decode cL_law 1220 = .ok (.iload 4, 2) := by decide +kernel
theorem dL_law_1222 : decode cL_law 1222 = .ok (.iconst 1, 1) := by decide +kernel
theorem dL_law_1223 : decode cL_law 1223 = .ok (.iadd, 1) := by decide +kernel
theorem dL_law_1224 : decode cL_law 1224 = .ok (.iconst 0, 1) := by decide +kernel
theorem dL_law_1225 : decode cL_law 1225 = .ok (.iconst 0, 1) := by decide +kernel
theorem dL_law_1226 : decode cL_law 1226 = .ok (.invokevirtual 63, 3) := by decide +kernel
theorem dL_law_1229 : decode cL_law 1229 = .ok (.iconst (-1), 1) := by decide +kernel
theorem dL_law_1230 : decode cL_law 1230 = .ok (.if_icmp .ne 15, 3) := by decide +kernel
theorem dL_law_1233 : decode cL_law 1233 = .ok (.aload_n 3, 1) := by decide +kernel
theorem dL_law_1234 : decode cL_law 1234 = .ok (.invokevirtual 124, 3) := by decide +kernel
theorem dL_law_1237 : decode cL_law 1237 = .ok (.iconst 2, 1) := by decide +kernel
theorem dL_law_1238 : decode cL_law 1238 = .ok (.if_icmp .ne 7, 3) := by decide +kernel
theorem dL_law_1241 : decode cL_law 1241 = .ok (.iconst 1, 1) := by decide +kernel
theorem dL_law_1242 : decode cL_law 1242 = .ok (.goto 4, 3) := by decide +kernel
theorem dL_law_1245 : decode cL_law 1245 = .ok (.iconst 0, 1) := by decide +kernel
theorem dL_law_1246 : decode cL_law 1246 = .ok (.ireturn, 1) := by decide +kernel
