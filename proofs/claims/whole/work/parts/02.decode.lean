/-! decode rows, as the claim prints them -/
theorem dX0_init_0 : decode cX0_init 0 = .ok (.aload_n 0, 1) := by decide +kernel
theorem dX0_init_1 : decode cX0_init 1 = .ok (.invokespecial 3, 3) := by decide +kernel
theorem dX0_init_4 : decode cX0_init 4 = .ok (.aload_n 0, 1) := by decide +kernel
theorem dX0_init_5 : decode cX0_init 5 = .ok (.sipush 576, 3) := by decide +kernel
theorem dX0_init_8 : decode cX0_init 8 = .ok (.newarray .int, 2) := by decide +kernel
theorem dX0_init_10 : decode cX0_init 10 = .ok (.putfield 9, 3) := by decide +kernel
theorem dX0_init_13 : decode cX0_init 13 = .ok (.aload_n 0, 1) := by decide +kernel
theorem dX0_init_14 : decode cX0_init 14 = .ok (.sipush 576, 3) := by decide +kernel
theorem dX0_init_17 : decode cX0_init 17 = .ok (.newarray .int, 2) := by decide +kernel
theorem dX0_init_19 : decode cX0_init 19 = .ok (.putfield 15, 3) := by decide +kernel
theorem dX0_init_22 : decode cX0_init 22 = .ok (.aload_n 0, 1) := by decide +kernel
theorem dX0_init_23 : decode cX0_init 23 = .ok (.sipush 576, 3) := by decide +kernel
theorem dX0_init_26 : decode cX0_init 26 = .ok (.newarray .int, 2) := by decide +kernel
theorem dX0_init_28 : decode cX0_init 28 = .ok (.putfield 18, 3) := by decide +kernel
theorem dX0_init_31 : decode cX0_init 31 = .ok (.return_, 1) := by decide +kernel
theorem dX0_least_0 : decode cX0_least 0 = .ok (.aload_n 0, 1) := by decide +kernel
theorem dX0_least_1 : decode cX0_least 1 = .ok (.getfield 9, 3) := by decide +kernel
theorem dX0_least_4 : decode cX0_least 4 = .ok (.iload_n 1, 1) := by decide +kernel
theorem dX0_least_5 : decode cX0_least 5 = .ok (.bipush 24, 2) := by decide +kernel
theorem dX0_least_7 : decode cX0_least 7 = .ok (.imul, 1) := by decide +kernel
theorem dX0_least_8 : decode cX0_least 8 = .ok (.iload_n 2, 1) := by decide +kernel
theorem dX0_least_9 : decode cX0_least 9 = .ok (.iadd, 1) := by decide +kernel
theorem dX0_least_10 : decode cX0_least 10 = .ok (.iaload, 1) := by decide +kernel
theorem dX0_least_11 : decode cX0_least 11 = .ok (.ireturn, 1) := by decide +kernel
theorem dX0_settle_0 : decode cX0_settle 0 = .ok (.aload_n 0, 1) := by decide +kernel
theorem dX0_settle_1 : decode cX0_settle 1 = .ok (.getfield 21, 3) := by decide +kernel
theorem dX0_settle_4 : decode cX0_settle 4 = .ok (.ifCond .eq 4, 3) := by decide +kernel
theorem dX0_settle_7 : decode cX0_settle 7 = .ok (.return_, 1) := by decide +kernel
theorem dX0_settle_8 : decode cX0_settle 8 = .ok (.aload_n 0, 1) := by decide +kernel
theorem dX0_settle_9 : decode cX0_settle 9 = .ok (.aload_n 1, 1) := by decide +kernel
theorem dX0_settle_10 : decode cX0_settle 10 = .ok (.getfield 25, 3) := by decide +kernel
theorem dX0_settle_13 : decode cX0_settle 13 = .ok (.getfield 31, 3) := by decide +kernel
theorem dX0_settle_16 : decode cX0_settle 16 = .ok (.putfield 37, 3) := by decide +kernel
theorem dX0_settle_19 : decode cX0_settle 19 = .ok (.iconst 0, 1) := by decide +kernel
theorem dX0_settle_20 : decode cX0_settle 20 = .ok (.istore_n 2, 1) := by decide +kernel
theorem dX0_settle_21 : decode cX0_settle 21 = .ok (.iload_n 2, 1) := by decide +kernel
theorem dX0_settle_22 : decode cX0_settle 22 = .ok (.aload_n 0, 1) := by decide +kernel
theorem dX0_settle_23 : decode cX0_settle 23 = .ok (.getfield 9, 3) := by decide +kernel
theorem dX0_settle_26 : decode cX0_settle 26 = .ok (.arraylength, 1) := by decide +kernel
theorem dX0_settle_27 : decode cX0_settle 27 = .ok (.if_icmp .ge 25, 3) := by decide +kernel
theorem dX0_settle_30 : decode cX0_settle 30 = .ok (.aload_n 0, 1) := by decide +kernel
theorem dX0_settle_31 : decode cX0_settle 31 = .ok (.getfield 9, 3) := by decide +kernel
theorem dX0_settle_34 : decode cX0_settle 34 = .ok (.iload_n 2, 1) := by decide +kernel
theorem dX0_settle_35 : decode cX0_settle 35 = .ok (.ldc 39, 2) := by decide +kernel
theorem dX0_settle_37 : decode cX0_settle 37 = .ok (.iastore, 1) := by decide +kernel
theorem dX0_settle_38 : decode cX0_settle 38 = .ok (.aload_n 0, 1) := by decide +kernel
theorem dX0_settle_39 : decode cX0_settle 39 = .ok (.getfield 15, 3) := by decide +kernel
theorem dX0_settle_42 : decode cX0_settle 42 = .ok (.iload_n 2, 1) := by decide +kernel
theorem dX0_settle_43 : decode cX0_settle 43 = .ok (.ldc 40, 2) := by decide +kernel
theorem dX0_settle_45 : decode cX0_settle 45 = .ok (.iastore, 1) := by decide +kernel
theorem dX0_settle_46 : decode cX0_settle 46 = .ok (.iinc 2 1, 3) := by decide +kernel
theorem dX0_settle_49 : decode cX0_settle 49 = .ok (.goto (-28), 3) := by decide +kernel
theorem dX0_settle_52 : decode cX0_settle 52 = .ok (.iconst 0, 1) := by decide +kernel
theorem dX0_settle_53 : decode cX0_settle 53 = .ok (.istore_n 2, 1) := by decide +kernel
theorem dX0_settle_54 : decode cX0_settle 54 = .ok (.iload_n 2, 1) := by decide +kernel
theorem dX0_settle_55 : decode cX0_settle 55 = .ok (.aload_n 0, 1) := by decide +kernel
theorem dX0_settle_56 : decode cX0_settle 56 = .ok (.getfield 37, 3) := by decide +kernel
theorem dX0_settle_59 : decode cX0_settle 59 = .ok (.if_icmp .ge 21, 3) := by decide +kernel
theorem dX0_settle_62 : decode cX0_settle 62 = .ok (.aload_n 0, 1) := by decide +kernel
theorem dX0_settle_63 : decode cX0_settle 63 = .ok (.getfield 9, 3) := by decide +kernel
theorem dX0_settle_66 : decode cX0_settle 66 = .ok (.iload_n 2, 1) := by decide +kernel
theorem dX0_settle_67 : decode cX0_settle 67 = .ok (.bipush 24, 2) := by decide +kernel
theorem dX0_settle_69 : decode cX0_settle 69 = .ok (.imul, 1) := by decide +kernel
theorem dX0_settle_70 : decode cX0_settle 70 = .ok (.iload_n 2, 1) := by decide +kernel
theorem dX0_settle_71 : decode cX0_settle 71 = .ok (.iadd, 1) := by decide +kernel
theorem dX0_settle_72 : decode cX0_settle 72 = .ok (.iconst 0, 1) := by decide +kernel
theorem dX0_settle_73 : decode cX0_settle 73 = .ok (.iastore, 1) := by decide +kernel
theorem dX0_settle_74 : decode cX0_settle 74 = .ok (.iinc 2 1, 3) := by decide +kernel
theorem dX0_settle_77 : decode cX0_settle 77 = .ok (.goto (-23), 3) := by decide +kernel
theorem dX0_settle_80 : decode cX0_settle 80 = .ok (.iconst 0, 1) := by decide +kernel
theorem dX0_settle_81 : decode cX0_settle 81 = .ok (.istore_n 2, 1) := by decide +kernel
theorem dX0_settle_82 : decode cX0_settle 82 = .ok (.iload_n 2, 1) := by decide +kernel
theorem dX0_settle_83 : decode cX0_settle 83 = .ok (.aload_n 1, 1) := by decide +kernel
theorem dX0_settle_84 : decode cX0_settle 84 = .ok (.getfield 41, 3) := by decide +kernel
theorem dX0_settle_87 : decode cX0_settle 87 = .ok (.if_icmp .ge 44, 3) := by decide +kernel
theorem dX0_settle_90 : decode cX0_settle 90 = .ok (.aload_n 0, 1) := by decide +kernel
theorem dX0_settle_91 : decode cX0_settle 91 = .ok (.aload_n 1, 1) := by decide +kernel
theorem dX0_settle_92 : decode cX0_settle 92 = .ok (.getfield 44, 3) := by decide +kernel
theorem dX0_settle_95 : decode cX0_settle 95 = .ok (.iload_n 2, 1) := by decide +kernel
theorem dX0_settle_96 : decode cX0_settle 96 = .ok (.iaload, 1) := by decide +kernel
theorem dX0_settle_97 : decode cX0_settle 97 = .ok (.aload_n 1, 1) := by decide +kernel
theorem dX0_settle_98 : decode cX0_settle 98 = .ok (.getfield 47, 3) := by decide +kernel
theorem dX0_settle_101 : decode cX0_settle 101 = .ok (.iload_n 2, 1) := by decide +kernel
theorem dX0_settle_102 : decode cX0_settle 102 = .ok (.iaload, 1) := by decide +kernel
theorem dX0_settle_103 : decode cX0_settle 103 = .ok (.iconst 1, 1) := by decide +kernel
theorem dX0_settle_104 : decode cX0_settle 104 = .ok (.invokevirtual 50, 3) := by decide +kernel
theorem dX0_settle_107 : decode cX0_settle 107 = .ok (.pop, 1) := by decide +kernel
theorem dX0_settle_108 : decode cX0_settle 108 = .ok (.aload_n 0, 1) := by decide +kernel
theorem dX0_settle_109 : decode cX0_settle 109 = .ok (.aload_n 1, 1) := by decide +kernel
theorem dX0_settle_110 : decode cX0_settle 110 = .ok (.getfield 44, 3) := by decide +kernel
theorem dX0_settle_113 : decode cX0_settle 113 = .ok (.iload_n 2, 1) := by decide +kernel
theorem dX0_settle_114 : decode cX0_settle 114 = .ok (.iaload, 1) := by decide +kernel
theorem dX0_settle_115 : decode cX0_settle 115 = .ok (.aload_n 1, 1) := by decide +kernel
theorem dX0_settle_116 : decode cX0_settle 116 = .ok (.getfield 47, 3) := by decide +kernel
theorem dX0_settle_119 : decode cX0_settle 119 = .ok (.iload_n 2, 1) := by decide +kernel
theorem dX0_settle_120 : decode cX0_settle 120 = .ok (.iaload, 1) := by decide +kernel
theorem dX0_settle_121 : decode cX0_settle 121 = .ok (.iconst 1, 1) := by decide +kernel
theorem dX0_settle_122 : decode cX0_settle 122 = .ok (.invokevirtual 54, 3) := by decide +kernel
theorem dX0_settle_125 : decode cX0_settle 125 = .ok (.iinc 2 1, 3) := by decide +kernel
theorem dX0_settle_128 : decode cX0_settle 128 = .ok (.goto (-46), 3) := by decide +kernel
theorem dX0_settle_131 : decode cX0_settle 131 = .ok (.aload_n 0, 1) := by decide +kernel
theorem dX0_settle_132 : decode cX0_settle 132 = .ok (.aload_n 1, 1) := by decide +kernel
theorem dX0_settle_133 : decode cX0_settle 133 = .ok (.invokevirtual 58, 3) := by decide +kernel
theorem dX0_settle_136 : decode cX0_settle 136 = .ok (.aload_n 0, 1) := by decide +kernel
theorem dX0_settle_137 : decode cX0_settle 137 = .ok (.iconst 1, 1) := by decide +kernel
theorem dX0_settle_138 : decode cX0_settle 138 = .ok (.putfield 21, 3) := by decide +kernel
theorem dX0_settle_141 : decode cX0_settle 141 = .ok (.return_, 1) := by decide +kernel
theorem dX0_layPairs_0 : decode cX0_layPairs 0 = .ok (.iconst 1, 1) := by decide +kernel
theorem dX0_layPairs_1 : decode cX0_layPairs 1 = .ok (.istore_n 2, 1) := by decide +kernel
theorem dX0_layPairs_2 : decode cX0_layPairs 2 = .ok (.iconst 0, 1) := by decide +kernel
theorem dX0_layPairs_3 : decode cX0_layPairs 3 = .ok (.istore_n 3, 1) := by decide +kernel
theorem dX0_layPairs_4 : decode cX0_layPairs 4 = .ok (.iload_n 2, 1) := by decide +kernel
theorem dX0_layPairs_5 : decode cX0_layPairs 5 = .ok (.ifCond .eq 115, 3) := by decide +kernel
theorem dX0_layPairs_8 : decode cX0_layPairs 8 = .ok (.iload_n 3, 1) := by decide +kernel
theorem dX0_layPairs_9 : decode cX0_layPairs 9 = .ok (.ldc 62, 2) := by decide +kernel
theorem dX0_layPairs_11 : decode cX0_layPairs 11 = .ok (.if_icmp .ge 109, 3) := by decide +kernel
theorem dX0_layPairs_14 : decode cX0_layPairs 14 = .ok (.iconst 0, 1) := by decide +kernel
theorem dX0_layPairs_15 : decode cX0_layPairs 15 = .ok (.istore_n 2, 1) := by decide +kernel
theorem dX0_layPairs_16 : decode cX0_layPairs 16 = .ok (.iconst 0, 1) := by decide +kernel
theorem dX0_layPairs_17 : decode cX0_layPairs 17 = .ok (.istore 4, 2) := by decide +kernel
theorem dX0_layPairs_19 : decode cX0_layPairs 19 = .ok (.iload 4, 2) := by decide +kernel
theorem dX0_layPairs_21 : decode cX0_layPairs 21 = .ok (.aload_n 1, 1) := by decide +kernel
theorem dX0_layPairs_22 : decode cX0_layPairs 22 = .ok (.getfield 25, 3) := by decide +kernel
theorem dX0_layPairs_25 : decode cX0_layPairs 25 = .ok (.getfield 63, 3) := by decide +kernel
theorem dX0_layPairs_28 : decode cX0_layPairs 28 = .ok (.if_icmp .ge 86, 3) := by decide +kernel
theorem dX0_layPairs_31 : decode cX0_layPairs 31 = .ok (.aload_n 1, 1) := by decide +kernel
theorem dX0_layPairs_32 : decode cX0_layPairs 32 = .ok (.getfield 25, 3) := by decide +kernel
theorem dX0_layPairs_35 : decode cX0_layPairs 35 = .ok (.iload 4, 2) := by decide +kernel
theorem dX0_layPairs_37 : decode cX0_layPairs 37 = .ok (.aload_n 1, 1) := by decide +kernel
theorem dX0_layPairs_38 : decode cX0_layPairs 38 = .ok (.getfield 66, 3) := by decide +kernel
theorem dX0_layPairs_41 : decode cX0_layPairs 41 = .ok (.invokevirtual 70, 3) := by decide +kernel
theorem dX0_layPairs_44 : decode cX0_layPairs 44 = .ok (.ifCond .eq 64, 3) := by decide +kernel
theorem dX0_layPairs_47 : decode cX0_layPairs 47 = .ok (.aload_n 1, 1) := by decide +kernel
theorem dX0_layPairs_48 : decode cX0_layPairs 48 = .ok (.getfield 25, 3) := by decide +kernel
theorem dX0_layPairs_51 : decode cX0_layPairs 51 = .ok (.getfield 74, 3) := by decide +kernel
theorem dX0_layPairs_54 : decode cX0_layPairs 54 = .ok (.iload 4, 2) := by decide +kernel
theorem dX0_layPairs_56 : decode cX0_layPairs 56 = .ok (.iaload, 1) := by decide +kernel
theorem dX0_layPairs_57 : decode cX0_layPairs 57 = .ok (.istore 5, 2) := by decide +kernel
theorem dX0_layPairs_59 : decode cX0_layPairs 59 = .ok (.aload_n 1, 1) := by decide +kernel
theorem dX0_layPairs_60 : decode cX0_layPairs 60 = .ok (.getfield 25, 3) := by decide +kernel
theorem dX0_layPairs_63 : decode cX0_layPairs 63 = .ok (.getfield 77, 3) := by decide +kernel
theorem dX0_layPairs_66 : decode cX0_layPairs 66 = .ok (.iload 4, 2) := by decide +kernel
theorem dX0_layPairs_68 : decode cX0_layPairs 68 = .ok (.iaload, 1) := by decide +kernel
theorem dX0_layPairs_69 : decode cX0_layPairs 69 = .ok (.istore 6, 2) := by decide +kernel
theorem dX0_layPairs_71 : decode cX0_layPairs 71 = .ok (.aload_n 0, 1) := by decide +kernel
theorem dX0_layPairs_72 : decode cX0_layPairs 72 = .ok (.aload_n 1, 1) := by decide +kernel
theorem dX0_layPairs_73 : decode cX0_layPairs 73 = .ok (.getfield 25, 3) := by decide +kernel
theorem dX0_layPairs_76 : decode cX0_layPairs 76 = .ok (.iload 5, 2) := by decide +kernel
theorem dX0_layPairs_78 : decode cX0_layPairs 78 = .ok (.iload 6, 2) := by decide +kernel
theorem dX0_layPairs_80 : decode cX0_layPairs 80 = .ok (.invokevirtual 80, 3) := by decide +kernel
theorem dX0_layPairs_83 : decode cX0_layPairs 83 = .ok (.istore 7, 2) := by decide +kernel
theorem dX0_layPairs_85 : decode cX0_layPairs 85 = .ok (.aload_n 0, 1) := by decide +kernel
theorem dX0_layPairs_86 : decode cX0_layPairs 86 = .ok (.iload 5, 2) := by decide +kernel
theorem dX0_layPairs_88 : decode cX0_layPairs 88 = .ok (.iload 6, 2) := by decide +kernel
theorem dX0_layPairs_90 : decode cX0_layPairs 90 = .ok (.iload 7, 2) := by decide +kernel
theorem dX0_layPairs_92 : decode cX0_layPairs 92 = .ok (.invokevirtual 54, 3) := by decide +kernel
theorem dX0_layPairs_95 : decode cX0_layPairs 95 = .ok (.iload_n 2, 1) := by decide +kernel
theorem dX0_layPairs_96 : decode cX0_layPairs 96 = .ok (.aload_n 0, 1) := by decide +kernel
theorem dX0_layPairs_97 : decode cX0_layPairs 97 = .ok (.iload 5, 2) := by decide +kernel
theorem dX0_layPairs_99 : decode cX0_layPairs 99 = .ok (.iload 6, 2) := by decide +kernel
theorem dX0_layPairs_101 : decode cX0_layPairs 101 = .ok (.iload 7, 2) := by decide +kernel
theorem dX0_layPairs_103 : decode cX0_layPairs 103 = .ok (.invokevirtual 50, 3) := by decide +kernel
theorem dX0_layPairs_106 : decode cX0_layPairs 106 = .ok (.ior, 1) := by decide +kernel
theorem dX0_layPairs_107 : decode cX0_layPairs 107 = .ok (.istore_n 2, 1) := by decide +kernel
theorem dX0_layPairs_108 : decode cX0_layPairs 108 = .ok (.iinc 4 1, 3) := by decide +kernel
theorem dX0_layPairs_111 : decode cX0_layPairs 111 = .ok (.goto (-92), 3) := by decide +kernel
theorem dX0_layPairs_114 : decode cX0_layPairs 114 = .ok (.iinc 3 1, 3) := by decide +kernel
theorem dX0_layPairs_117 : decode cX0_layPairs 117 = .ok (.goto (-113), 3) := by decide +kernel
theorem dX0_layPairs_120 : decode cX0_layPairs 120 = .ok (.return_, 1) := by decide +kernel
theorem dX0_partSums_0 : decode cX0_partSums 0 = .ok (.iconst 0, 1) := by decide +kernel
theorem dX0_partSums_1 : decode cX0_partSums 1 = .ok (.istore 4, 2) := by decide +kernel
theorem dX0_partSums_3 : decode cX0_partSums 3 = .ok (.iconst 0, 1) := by decide +kernel
theorem dX0_partSums_4 : decode cX0_partSums 4 = .ok (.istore 5, 2) := by decide +kernel
theorem dX0_partSums_6 : decode cX0_partSums 6 = .ok (.iload 5, 2) := by decide +kernel
theorem dX0_partSums_8 : decode cX0_partSums 8 = .ok (.aload_n 1, 1) := by decide +kernel
theorem dX0_partSums_9 : decode cX0_partSums 9 = .ok (.iload_n 2, 1) := by decide +kernel
theorem dX0_partSums_10 : decode cX0_partSums 10 = .ok (.invokevirtual 84, 3) := by decide +kernel
theorem dX0_partSums_13 : decode cX0_partSums 13 = .ok (.if_icmp .ge 35, 3) := by decide +kernel
theorem dX0_partSums_16 : decode cX0_partSums 16 = .ok (.aload_n 0, 1) := by decide +kernel
theorem dX0_partSums_17 : decode cX0_partSums 17 = .ok (.iload 4, 2) := by decide +kernel
theorem dX0_partSums_19 : decode cX0_partSums 19 = .ok (.aload_n 0, 1) := by decide +kernel
theorem dX0_partSums_20 : decode cX0_partSums 20 = .ok (.aload_n 1, 1) := by decide +kernel
theorem dX0_partSums_21 : decode cX0_partSums 21 = .ok (.iload_n 2, 1) := by decide +kernel
theorem dX0_partSums_22 : decode cX0_partSums 22 = .ok (.iload 5, 2) := by decide +kernel
theorem dX0_partSums_24 : decode cX0_partSums 24 = .ok (.invokevirtual 88, 3) := by decide +kernel
theorem dX0_partSums_27 : decode cX0_partSums 27 = .ok (.aload_n 1, 1) := by decide +kernel
theorem dX0_partSums_28 : decode cX0_partSums 28 = .ok (.iload_n 3, 1) := by decide +kernel
theorem dX0_partSums_29 : decode cX0_partSums 29 = .ok (.iload 5, 2) := by decide +kernel
theorem dX0_partSums_31 : decode cX0_partSums 31 = .ok (.invokevirtual 88, 3) := by decide +kernel
theorem dX0_partSums_34 : decode cX0_partSums 34 = .ok (.invokevirtual 92, 3) := by decide +kernel
theorem dX0_partSums_37 : decode cX0_partSums 37 = .ok (.invokevirtual 95, 3) := by decide +kernel
theorem dX0_partSums_40 : decode cX0_partSums 40 = .ok (.istore 4, 2) := by decide +kernel
theorem dX0_partSums_42 : decode cX0_partSums 42 = .ok (.iinc 5 1, 3) := by decide +kernel
theorem dX0_partSums_45 : decode cX0_partSums 45 = .ok (.goto (-39), 3) := by decide +kernel
theorem dX0_partSums_48 : decode cX0_partSums 48 = .ok (.iload 4, 2) := by decide +kernel
theorem dX0_partSums_50 : decode cX0_partSums 50 = .ok (.ireturn, 1) := by decide +kernel
theorem dX0_plus_0 : decode cX0_plus 0 = .ok (.ldc 39, 2) := by decide +kernel
theorem dX0_plus_2 : decode cX0_plus 2 = .ok (.iload_n 1, 1) := by decide +kernel
theorem dX0_plus_3 : decode cX0_plus 3 = .ok (.iload_n 2, 1) := by decide +kernel
theorem dX0_plus_4 : decode cX0_plus 4 = .ok (.iadd, 1) := by decide +kernel
theorem dX0_plus_5 : decode cX0_plus 5 = .ok (.invokestatic 98, 3) := by decide +kernel
theorem dX0_plus_8 : decode cX0_plus 8 = .ok (.ireturn, 1) := by decide +kernel
theorem dX0_pave_0 : decode cX0_pave 0 = .ok (.iload_n 3, 1) := by decide +kernel
theorem dX0_pave_1 : decode cX0_pave 1 = .ok (.aload_n 0, 1) := by decide +kernel
theorem dX0_pave_2 : decode cX0_pave 2 = .ok (.getfield 15, 3) := by decide +kernel
theorem dX0_pave_5 : decode cX0_pave 5 = .ok (.iload_n 1, 1) := by decide +kernel
theorem dX0_pave_6 : decode cX0_pave 6 = .ok (.bipush 24, 2) := by decide +kernel
theorem dX0_pave_8 : decode cX0_pave 8 = .ok (.imul, 1) := by decide +kernel
theorem dX0_pave_9 : decode cX0_pave 9 = .ok (.iload_n 2, 1) := by decide +kernel
theorem dX0_pave_10 : decode cX0_pave 10 = .ok (.iadd, 1) := by decide +kernel
theorem dX0_pave_11 : decode cX0_pave 11 = .ok (.iaload, 1) := by decide +kernel
theorem dX0_pave_12 : decode cX0_pave 12 = .ok (.invokestatic 98, 3) := by decide +kernel
theorem dX0_pave_15 : decode cX0_pave 15 = .ok (.istore 4, 2) := by decide +kernel
theorem dX0_pave_17 : decode cX0_pave 17 = .ok (.aload_n 0, 1) := by decide +kernel
theorem dX0_pave_18 : decode cX0_pave 18 = .ok (.getfield 15, 3) := by decide +kernel
theorem dX0_pave_21 : decode cX0_pave 21 = .ok (.iload_n 1, 1) := by decide +kernel
theorem dX0_pave_22 : decode cX0_pave 22 = .ok (.bipush 24, 2) := by decide +kernel
theorem dX0_pave_24 : decode cX0_pave 24 = .ok (.imul, 1) := by decide +kernel
theorem dX0_pave_25 : decode cX0_pave 25 = .ok (.iload_n 2, 1) := by decide +kernel
theorem dX0_pave_26 : decode cX0_pave 26 = .ok (.iadd, 1) := by decide +kernel
theorem dX0_pave_27 : decode cX0_pave 27 = .ok (.iload 4, 2) := by decide +kernel
theorem dX0_pave_29 : decode cX0_pave 29 = .ok (.iastore, 1) := by decide +kernel
theorem dX0_pave_30 : decode cX0_pave 30 = .ok (.aload_n 0, 1) := by decide +kernel
theorem dX0_pave_31 : decode cX0_pave 31 = .ok (.getfield 15, 3) := by decide +kernel
theorem dX0_pave_34 : decode cX0_pave 34 = .ok (.iload_n 2, 1) := by decide +kernel
theorem dX0_pave_35 : decode cX0_pave 35 = .ok (.bipush 24, 2) := by decide +kernel
theorem dX0_pave_37 : decode cX0_pave 37 = .ok (.imul, 1) := by decide +kernel
theorem dX0_pave_38 : decode cX0_pave 38 = .ok (.iload_n 1, 1) := by decide +kernel
theorem dX0_pave_39 : decode cX0_pave 39 = .ok (.iadd, 1) := by decide +kernel
theorem dX0_pave_40 : decode cX0_pave 40 = .ok (.iload 4, 2) := by decide +kernel
theorem dX0_pave_42 : decode cX0_pave 42 = .ok (.iastore, 1) := by decide +kernel
theorem dX0_pave_43 : decode cX0_pave 43 = .ok (.return_, 1) := by decide +kernel
theorem dX0_lay_0 : decode cX0_lay 0 = .ok (.iload_n 3, 1) := by decide +kernel
theorem dX0_lay_1 : decode cX0_lay 1 = .ok (.aload_n 0, 1) := by decide +kernel
theorem dX0_lay_2 : decode cX0_lay 2 = .ok (.iload_n 1, 1) := by decide +kernel
theorem dX0_lay_3 : decode cX0_lay 3 = .ok (.iload_n 2, 1) := by decide +kernel
theorem dX0_lay_4 : decode cX0_lay 4 = .ok (.invokevirtual 92, 3) := by decide +kernel
theorem dX0_lay_7 : decode cX0_lay 7 = .ok (.if_icmp .lt 5, 3) := by decide +kernel
theorem dX0_lay_10 : decode cX0_lay 10 = .ok (.iconst 0, 1) := by decide +kernel
theorem dX0_lay_11 : decode cX0_lay 11 = .ok (.ireturn, 1) := by decide +kernel
theorem dX0_lay_12 : decode cX0_lay 12 = .ok (.iconst 0, 1) := by decide +kernel
theorem dX0_lay_13 : decode cX0_lay 13 = .ok (.istore 4, 2) := by decide +kernel
theorem dX0_lay_15 : decode cX0_lay 15 = .ok (.iload 4, 2) := by decide +kernel
theorem dX0_lay_17 : decode cX0_lay 17 = .ok (.aload_n 0, 1) := by decide +kernel
theorem dX0_lay_18 : decode cX0_lay 18 = .ok (.getfield 37, 3) := by decide +kernel
theorem dX0_lay_21 : decode cX0_lay 21 = .ok (.if_icmp .ge 112, 3) := by decide +kernel
theorem dX0_lay_24 : decode cX0_lay 24 = .ok (.aload_n 0, 1) := by decide +kernel
theorem dX0_lay_25 : decode cX0_lay 25 = .ok (.aload_n 0, 1) := by decide +kernel
theorem dX0_lay_26 : decode cX0_lay 26 = .ok (.iload 4, 2) := by decide +kernel
theorem dX0_lay_28 : decode cX0_lay 28 = .ok (.iload_n 1, 1) := by decide +kernel
theorem dX0_lay_29 : decode cX0_lay 29 = .ok (.invokevirtual 92, 3) := by decide +kernel
theorem dX0_lay_32 : decode cX0_lay 32 = .ok (.iload_n 3, 1) := by decide +kernel
theorem dX0_lay_33 : decode cX0_lay 33 = .ok (.invokevirtual 95, 3) := by decide +kernel
theorem dX0_lay_36 : decode cX0_lay 36 = .ok (.istore 5, 2) := by decide +kernel
theorem dX0_lay_38 : decode cX0_lay 38 = .ok (.aload_n 0, 1) := by decide +kernel
theorem dX0_lay_39 : decode cX0_lay 39 = .ok (.aload_n 0, 1) := by decide +kernel
theorem dX0_lay_40 : decode cX0_lay 40 = .ok (.iload 4, 2) := by decide +kernel
theorem dX0_lay_42 : decode cX0_lay 42 = .ok (.iload_n 2, 1) := by decide +kernel
theorem dX0_lay_43 : decode cX0_lay 43 = .ok (.invokevirtual 92, 3) := by decide +kernel
theorem dX0_lay_46 : decode cX0_lay 46 = .ok (.iload_n 3, 1) := by decide +kernel
theorem dX0_lay_47 : decode cX0_lay 47 = .ok (.invokevirtual 95, 3) := by decide +kernel
theorem dX0_lay_50 : decode cX0_lay 50 = .ok (.istore 6, 2) := by decide +kernel
theorem dX0_lay_52 : decode cX0_lay 52 = .ok (.iconst 0, 1) := by decide +kernel
theorem dX0_lay_53 : decode cX0_lay 53 = .ok (.istore 7, 2) := by decide +kernel
theorem dX0_lay_55 : decode cX0_lay 55 = .ok (.iload 7, 2) := by decide +kernel
theorem dX0_lay_57 : decode cX0_lay 57 = .ok (.aload_n 0, 1) := by decide +kernel
theorem dX0_lay_58 : decode cX0_lay 58 = .ok (.getfield 37, 3) := by decide +kernel
theorem dX0_lay_61 : decode cX0_lay 61 = .ok (.if_icmp .ge 66, 3) := by decide +kernel
theorem dX0_lay_64 : decode cX0_lay 64 = .ok (.aload_n 0, 1) := by decide +kernel
theorem dX0_lay_65 : decode cX0_lay 65 = .ok (.iload 5, 2) := by decide +kernel
theorem dX0_lay_67 : decode cX0_lay 67 = .ok (.aload_n 0, 1) := by decide +kernel
theorem dX0_lay_68 : decode cX0_lay 68 = .ok (.iload_n 2, 1) := by decide +kernel
theorem dX0_lay_69 : decode cX0_lay 69 = .ok (.iload 7, 2) := by decide +kernel
theorem dX0_lay_71 : decode cX0_lay 71 = .ok (.invokevirtual 92, 3) := by decide +kernel
theorem dX0_lay_74 : decode cX0_lay 74 = .ok (.invokevirtual 95, 3) := by decide +kernel
theorem dX0_lay_77 : decode cX0_lay 77 = .ok (.aload_n 0, 1) := by decide +kernel
theorem dX0_lay_78 : decode cX0_lay 78 = .ok (.iload 6, 2) := by decide +kernel
theorem dX0_lay_80 : decode cX0_lay 80 = .ok (.aload_n 0, 1) := by decide +kernel
theorem dX0_lay_81 : decode cX0_lay 81 = .ok (.iload_n 1, 1) := by decide +kernel
theorem dX0_lay_82 : decode cX0_lay 82 = .ok (.iload 7, 2) := by decide +kernel
theorem dX0_lay_84 : decode cX0_lay 84 = .ok (.invokevirtual 92, 3) := by decide +kernel
theorem dX0_lay_87 : decode cX0_lay 87 = .ok (.invokevirtual 95, 3) := by decide +kernel
theorem dX0_lay_90 : decode cX0_lay 90 = .ok (.invokestatic 98, 3) := by decide +kernel
theorem dX0_lay_93 : decode cX0_lay 93 = .ok (.istore 8, 2) := by decide +kernel
theorem dX0_lay_95 : decode cX0_lay 95 = .ok (.aload_n 0, 1) := by decide +kernel
theorem dX0_lay_96 : decode cX0_lay 96 = .ok (.getfield 9, 3) := by decide +kernel
theorem dX0_lay_99 : decode cX0_lay 99 = .ok (.iload 4, 2) := by decide +kernel
theorem dX0_lay_101 : decode cX0_lay 101 = .ok (.bipush 24, 2) := by decide +kernel
theorem dX0_lay_103 : decode cX0_lay 103 = .ok (.imul, 1) := by decide +kernel
theorem dX0_lay_104 : decode cX0_lay 104 = .ok (.iload 7, 2) := by decide +kernel
theorem dX0_lay_106 : decode cX0_lay 106 = .ok (.iadd, 1) := by decide +kernel
theorem dX0_lay_107 : decode cX0_lay 107 = .ok (.aload_n 0, 1) := by decide +kernel
theorem dX0_lay_108 : decode cX0_lay 108 = .ok (.iload 4, 2) := by decide +kernel
theorem dX0_lay_110 : decode cX0_lay 110 = .ok (.iload 7, 2) := by decide +kernel
theorem dX0_lay_112 : decode cX0_lay 112 = .ok (.invokevirtual 92, 3) := by decide +kernel
theorem dX0_lay_115 : decode cX0_lay 115 = .ok (.iload 8, 2) := by decide +kernel
theorem dX0_lay_117 : decode cX0_lay 117 = .ok (.invokestatic 98, 3) := by decide +kernel
theorem dX0_lay_120 : decode cX0_lay 120 = .ok (.iastore, 1) := by decide +kernel
theorem dX0_lay_121 : decode cX0_lay 121 = .ok (.iinc 7 1, 3) := by decide +kernel
theorem dX0_lay_124 : decode cX0_lay 124 = .ok (.goto (-69), 3) := by decide +kernel
theorem dX0_lay_127 : decode cX0_lay 127 = .ok (.iinc 4 1, 3) := by decide +kernel
theorem dX0_lay_130 : decode cX0_lay 130 = .ok (.goto (-115), 3) := by decide +kernel
theorem dX0_lay_133 : decode cX0_lay 133 = .ok (.iconst 1, 1) := by decide +kernel
theorem dX0_lay_134 : decode cX0_lay 134 = .ok (.ireturn, 1) := by decide +kernel
theorem dX0_termOnWay_0 : decode cX0_termOnWay 0 = .ok (.aload_n 0, 1) := by decide +kernel
theorem dX0_termOnWay_1 : decode cX0_termOnWay 1 = .ok (.iload_n 1, 1) := by decide +kernel
theorem dX0_termOnWay_2 : decode cX0_termOnWay 2 = .ok (.iload_n 2, 1) := by decide +kernel
theorem dX0_termOnWay_3 : decode cX0_termOnWay 3 = .ok (.invokevirtual 103, 3) := by decide +kernel
theorem dX0_termOnWay_6 : decode cX0_termOnWay 6 = .ok (.istore 4, 2) := by decide +kernel
theorem dX0_termOnWay_8 : decode cX0_termOnWay 8 = .ok (.iload_n 3, 1) := by decide +kernel
theorem dX0_termOnWay_9 : decode cX0_termOnWay 9 = .ok (.iload 4, 2) := by decide +kernel
theorem dX0_termOnWay_11 : decode cX0_termOnWay 11 = .ok (.if_icmp .le 6, 3) := by decide +kernel
theorem dX0_termOnWay_14 : decode cX0_termOnWay 14 = .ok (.bipush (-2), 2) := by decide +kernel
theorem dX0_termOnWay_16 : decode cX0_termOnWay 16 = .ok (.ireturn, 1) := by decide +kernel
theorem dX0_termOnWay_17 : decode cX0_termOnWay 17 = .ok (.iload_n 1, 1) := by decide +kernel
theorem dX0_termOnWay_18 : decode cX0_termOnWay 18 = .ok (.istore 5, 2) := by decide +kernel
theorem dX0_termOnWay_20 : decode cX0_termOnWay 20 = .ok (.iconst 0, 1) := by decide +kernel
theorem dX0_termOnWay_21 : decode cX0_termOnWay 21 = .ok (.istore 6, 2) := by decide +kernel
theorem dX0_termOnWay_23 : decode cX0_termOnWay 23 = .ok (.iload 4, 2) := by decide +kernel
theorem dX0_termOnWay_25 : decode cX0_termOnWay 25 = .ok (.iconst 1, 1) := by decide +kernel
theorem dX0_termOnWay_26 : decode cX0_termOnWay 26 = .ok (.isub, 1) := by decide +kernel
theorem dX0_termOnWay_27 : decode cX0_termOnWay 27 = .ok (.istore 7, 2) := by decide +kernel
theorem dX0_termOnWay_29 : decode cX0_termOnWay 29 = .ok (.iload 7, 2) := by decide +kernel
theorem dX0_termOnWay_31 : decode cX0_termOnWay 31 = .ok (.iload 4, 2) := by decide +kernel
theorem dX0_termOnWay_33 : decode cX0_termOnWay 33 = .ok (.iload_n 3, 1) := by decide +kernel
theorem dX0_termOnWay_34 : decode cX0_termOnWay 34 = .ok (.isub, 1) := by decide +kernel
theorem dX0_termOnWay_35 : decode cX0_termOnWay 35 = .ok (.if_icmp .lt 57, 3) := by decide +kernel
theorem dX0_termOnWay_38 : decode cX0_termOnWay 38 = .ok (.iload 7, 2) := by decide +kernel
theorem dX0_termOnWay_40 : decode cX0_termOnWay 40 = .ok (.ifCond .lt 52, 3) := by decide +kernel
theorem dX0_termOnWay_43 : decode cX0_termOnWay 43 = .ok (.aload_n 0, 1) := by decide +kernel
theorem dX0_termOnWay_44 : decode cX0_termOnWay 44 = .ok (.iload 5, 2) := by decide +kernel
theorem dX0_termOnWay_46 : decode cX0_termOnWay 46 = .ok (.iload 6, 2) := by decide +kernel
theorem dX0_termOnWay_48 : decode cX0_termOnWay 48 = .ok (.iload 7, 2) := by decide +kernel
theorem dX0_termOnWay_50 : decode cX0_termOnWay 50 = .ok (.aload_n 0, 1) := by decide +kernel
theorem dX0_termOnWay_51 : decode cX0_termOnWay 51 = .ok (.iload_n 1, 1) := by decide +kernel
theorem dX0_termOnWay_52 : decode cX0_termOnWay 52 = .ok (.iload_n 2, 1) := by decide +kernel
theorem dX0_termOnWay_53 : decode cX0_termOnWay 53 = .ok (.invokevirtual 92, 3) := by decide +kernel
theorem dX0_termOnWay_56 : decode cX0_termOnWay 56 = .ok (.invokevirtual 106, 3) := by decide +kernel
theorem dX0_termOnWay_59 : decode cX0_termOnWay 59 = .ok (.istore 8, 2) := by decide +kernel
theorem dX0_termOnWay_61 : decode cX0_termOnWay 61 = .ok (.aload_n 0, 1) := by decide +kernel
theorem dX0_termOnWay_62 : decode cX0_termOnWay 62 = .ok (.iload 6, 2) := by decide +kernel
theorem dX0_termOnWay_64 : decode cX0_termOnWay 64 = .ok (.aload_n 0, 1) := by decide +kernel
theorem dX0_termOnWay_65 : decode cX0_termOnWay 65 = .ok (.getfield 15, 3) := by decide +kernel
theorem dX0_termOnWay_68 : decode cX0_termOnWay 68 = .ok (.iload 5, 2) := by decide +kernel
theorem dX0_termOnWay_70 : decode cX0_termOnWay 70 = .ok (.bipush 24, 2) := by decide +kernel
theorem dX0_termOnWay_72 : decode cX0_termOnWay 72 = .ok (.imul, 1) := by decide +kernel
theorem dX0_termOnWay_73 : decode cX0_termOnWay 73 = .ok (.iload 8, 2) := by decide +kernel
theorem dX0_termOnWay_75 : decode cX0_termOnWay 75 = .ok (.iadd, 1) := by decide +kernel
theorem dX0_termOnWay_76 : decode cX0_termOnWay 76 = .ok (.iaload, 1) := by decide +kernel
theorem dX0_termOnWay_77 : decode cX0_termOnWay 77 = .ok (.invokevirtual 95, 3) := by decide +kernel
theorem dX0_termOnWay_80 : decode cX0_termOnWay 80 = .ok (.istore 6, 2) := by decide +kernel
theorem dX0_termOnWay_82 : decode cX0_termOnWay 82 = .ok (.iload 8, 2) := by decide +kernel
theorem dX0_termOnWay_84 : decode cX0_termOnWay 84 = .ok (.istore 5, 2) := by decide +kernel
theorem dX0_termOnWay_86 : decode cX0_termOnWay 86 = .ok (.iinc 7 (-1), 3) := by decide +kernel
theorem dX0_termOnWay_89 : decode cX0_termOnWay 89 = .ok (.goto (-60), 3) := by decide +kernel
theorem dX0_termOnWay_92 : decode cX0_termOnWay 92 = .ok (.iload 5, 2) := by decide +kernel
theorem dX0_termOnWay_94 : decode cX0_termOnWay 94 = .ok (.ireturn, 1) := by decide +kernel
theorem dX0_stepsOnWay_0 : decode cX0_stepsOnWay 0 = .ok (.iconst 0, 1) := by decide +kernel
theorem dX0_stepsOnWay_1 : decode cX0_stepsOnWay 1 = .ok (.istore_n 3, 1) := by decide +kernel
theorem dX0_stepsOnWay_2 : decode cX0_stepsOnWay 2 = .ok (.iload_n 3, 1) := by decide +kernel
theorem dX0_stepsOnWay_3 : decode cX0_stepsOnWay 3 = .ok (.aload_n 0, 1) := by decide +kernel
theorem dX0_stepsOnWay_4 : decode cX0_stepsOnWay 4 = .ok (.getfield 37, 3) := by decide +kernel
theorem dX0_stepsOnWay_7 : decode cX0_stepsOnWay 7 = .ok (.if_icmp .ge 26, 3) := by decide +kernel
theorem dX0_stepsOnWay_10 : decode cX0_stepsOnWay 10 = .ok (.aload_n 0, 1) := by decide +kernel
theorem dX0_stepsOnWay_11 : decode cX0_stepsOnWay 11 = .ok (.getfield 18, 3) := by decide +kernel
theorem dX0_stepsOnWay_14 : decode cX0_stepsOnWay 14 = .ok (.iload_n 3, 1) := by decide +kernel
theorem dX0_stepsOnWay_15 : decode cX0_stepsOnWay 15 = .ok (.iload_n 3, 1) := by decide +kernel
theorem dX0_stepsOnWay_16 : decode cX0_stepsOnWay 16 = .ok (.iload_n 2, 1) := by decide +kernel
theorem dX0_stepsOnWay_17 : decode cX0_stepsOnWay 17 = .ok (.if_icmp .ne 7, 3) := by decide +kernel
theorem dX0_stepsOnWay_20 : decode cX0_stepsOnWay 20 = .ok (.iconst 0, 1) := by decide +kernel
theorem dX0_stepsOnWay_21 : decode cX0_stepsOnWay 21 = .ok (.goto 5, 3) := by decide +kernel
theorem dX0_stepsOnWay_24 : decode cX0_stepsOnWay 24 = .ok (.ldc 40, 2) := by decide +kernel
theorem dX0_stepsOnWay_26 : decode cX0_stepsOnWay 26 = .ok (.iastore, 1) := by decide +kernel
theorem dX0_stepsOnWay_27 : decode cX0_stepsOnWay 27 = .ok (.iinc 3 1, 3) := by decide +kernel
theorem dX0_stepsOnWay_30 : decode cX0_stepsOnWay 30 = .ok (.goto (-28), 3) := by decide +kernel
theorem dX0_stepsOnWay_33 : decode cX0_stepsOnWay 33 = .ok (.iconst 0, 1) := by decide +kernel
theorem dX0_stepsOnWay_34 : decode cX0_stepsOnWay 34 = .ok (.istore_n 3, 1) := by decide +kernel
theorem dX0_stepsOnWay_35 : decode cX0_stepsOnWay 35 = .ok (.iload_n 3, 1) := by decide +kernel
theorem dX0_stepsOnWay_36 : decode cX0_stepsOnWay 36 = .ok (.iconst 1, 1) := by decide +kernel
theorem dX0_stepsOnWay_37 : decode cX0_stepsOnWay 37 = .ok (.iadd, 1) := by decide +kernel
theorem dX0_stepsOnWay_38 : decode cX0_stepsOnWay 38 = .ok (.aload_n 0, 1) := by decide +kernel
theorem dX0_stepsOnWay_39 : decode cX0_stepsOnWay 39 = .ok (.getfield 37, 3) := by decide +kernel
theorem dX0_stepsOnWay_42 : decode cX0_stepsOnWay 42 = .ok (.if_icmp .ge 34, 3) := by decide +kernel
theorem dX0_stepsOnWay_45 : decode cX0_stepsOnWay 45 = .ok (.aload_n 0, 1) := by decide +kernel
theorem dX0_stepsOnWay_46 : decode cX0_stepsOnWay 46 = .ok (.getfield 18, 3) := by decide +kernel
theorem dX0_stepsOnWay_49 : decode cX0_stepsOnWay 49 = .ok (.iload_n 3, 1) := by decide +kernel
theorem dX0_stepsOnWay_50 : decode cX0_stepsOnWay 50 = .ok (.bipush 24, 2) := by decide +kernel
theorem dX0_stepsOnWay_52 : decode cX0_stepsOnWay 52 = .ok (.imul, 1) := by decide +kernel
theorem dX0_stepsOnWay_53 : decode cX0_stepsOnWay 53 = .ok (.iload_n 1, 1) := by decide +kernel
theorem dX0_stepsOnWay_54 : decode cX0_stepsOnWay 54 = .ok (.iadd, 1) := by decide +kernel
theorem dX0_stepsOnWay_55 : decode cX0_stepsOnWay 55 = .ok (.iaload, 1) := by decide +kernel
theorem dX0_stepsOnWay_56 : decode cX0_stepsOnWay 56 = .ok (.aload_n 0, 1) := by decide +kernel
theorem dX0_stepsOnWay_57 : decode cX0_stepsOnWay 57 = .ok (.iload_n 1, 1) := by decide +kernel
theorem dX0_stepsOnWay_58 : decode cX0_stepsOnWay 58 = .ok (.iload_n 2, 1) := by decide +kernel
theorem dX0_stepsOnWay_59 : decode cX0_stepsOnWay 59 = .ok (.invokevirtual 92, 3) := by decide +kernel
theorem dX0_stepsOnWay_62 : decode cX0_stepsOnWay 62 = .ok (.if_icmp .eq 14, 3) := by decide +kernel
theorem dX0_stepsOnWay_65 : decode cX0_stepsOnWay 65 = .ok (.aload_n 0, 1) := by decide +kernel
theorem dX0_stepsOnWay_66 : decode cX0_stepsOnWay 66 = .ok (.iload_n 3, 1) := by decide +kernel
theorem dX0_stepsOnWay_67 : decode cX0_stepsOnWay 67 = .ok (.invokevirtual 110, 3) := by decide +kernel
theorem dX0_stepsOnWay_70 : decode cX0_stepsOnWay 70 = .ok (.iinc 3 1, 3) := by decide +kernel
theorem dX0_stepsOnWay_73 : decode cX0_stepsOnWay 73 = .ok (.goto (-38), 3) := by decide +kernel
theorem dX0_stepsOnWay_76 : decode cX0_stepsOnWay 76 = .ok (.iload_n 3, 1) := by decide +kernel
theorem dX0_stepsOnWay_77 : decode cX0_stepsOnWay 77 = .ok (.ireturn, 1) := by decide +kernel
theorem dX0_fillRow_0 : decode cX0_fillRow 0 = .ok (.iconst 0, 1) := by decide +kernel
theorem dX0_fillRow_1 : decode cX0_fillRow 1 = .ok (.istore_n 2, 1) := by decide +kernel
theorem dX0_fillRow_2 : decode cX0_fillRow 2 = .ok (.iload_n 2, 1) := by decide +kernel
theorem dX0_fillRow_3 : decode cX0_fillRow 3 = .ok (.aload_n 0, 1) := by decide +kernel
theorem dX0_fillRow_4 : decode cX0_fillRow 4 = .ok (.getfield 37, 3) := by decide +kernel
theorem dX0_fillRow_7 : decode cX0_fillRow 7 = .ok (.if_icmp .ge 67, 3) := by decide +kernel
theorem dX0_fillRow_10 : decode cX0_fillRow 10 = .ok (.aload_n 0, 1) := by decide +kernel
theorem dX0_fillRow_11 : decode cX0_fillRow 11 = .ok (.getfield 18, 3) := by decide +kernel
theorem dX0_fillRow_14 : decode cX0_fillRow 14 = .ok (.iload_n 1, 1) := by decide +kernel
theorem dX0_fillRow_15 : decode cX0_fillRow 15 = .ok (.bipush 24, 2) := by decide +kernel
theorem dX0_fillRow_17 : decode cX0_fillRow 17 = .ok (.imul, 1) := by decide +kernel
theorem dX0_fillRow_18 : decode cX0_fillRow 18 = .ok (.iload_n 2, 1) := by decide +kernel
theorem dX0_fillRow_19 : decode cX0_fillRow 19 = .ok (.iadd, 1) := by decide +kernel
theorem dX0_fillRow_20 : decode cX0_fillRow 20 = .ok (.iaload, 1) := by decide +kernel
theorem dX0_fillRow_21 : decode cX0_fillRow 21 = .ok (.istore_n 3, 1) := by decide +kernel
theorem dX0_fillRow_22 : decode cX0_fillRow 22 = .ok (.iconst 0, 1) := by decide +kernel
theorem dX0_fillRow_23 : decode cX0_fillRow 23 = .ok (.istore 4, 2) := by decide +kernel
theorem dX0_fillRow_25 : decode cX0_fillRow 25 = .ok (.iload 4, 2) := by decide +kernel
theorem dX0_fillRow_27 : decode cX0_fillRow 27 = .ok (.aload_n 0, 1) := by decide +kernel
theorem dX0_fillRow_28 : decode cX0_fillRow 28 = .ok (.getfield 37, 3) := by decide +kernel
theorem dX0_fillRow_31 : decode cX0_fillRow 31 = .ok (.if_icmp .ge 23, 3) := by decide +kernel
theorem dX0_fillRow_34 : decode cX0_fillRow 34 = .ok (.iload_n 3, 1) := by decide +kernel
theorem dX0_fillRow_35 : decode cX0_fillRow 35 = .ok (.aload_n 0, 1) := by decide +kernel
theorem dX0_fillRow_36 : decode cX0_fillRow 36 = .ok (.iconst 0, 1) := by decide +kernel
theorem dX0_fillRow_37 : decode cX0_fillRow 37 = .ok (.iload_n 2, 1) := by decide +kernel
theorem dX0_fillRow_38 : decode cX0_fillRow 38 = .ok (.iload 4, 2) := by decide +kernel
theorem dX0_fillRow_40 : decode cX0_fillRow 40 = .ok (.iload_n 1, 1) := by decide +kernel
theorem dX0_fillRow_41 : decode cX0_fillRow 41 = .ok (.invokevirtual 114, 3) := by decide +kernel
theorem dX0_fillRow_44 : decode cX0_fillRow 44 = .ok (.invokestatic 98, 3) := by decide +kernel
theorem dX0_fillRow_47 : decode cX0_fillRow 47 = .ok (.istore_n 3, 1) := by decide +kernel
theorem dX0_fillRow_48 : decode cX0_fillRow 48 = .ok (.iinc 4 1, 3) := by decide +kernel
theorem dX0_fillRow_51 : decode cX0_fillRow 51 = .ok (.goto (-26), 3) := by decide +kernel
theorem dX0_fillRow_54 : decode cX0_fillRow 54 = .ok (.aload_n 0, 1) := by decide +kernel
theorem dX0_fillRow_55 : decode cX0_fillRow 55 = .ok (.getfield 18, 3) := by decide +kernel
theorem dX0_fillRow_58 : decode cX0_fillRow 58 = .ok (.iload_n 1, 1) := by decide +kernel
theorem dX0_fillRow_59 : decode cX0_fillRow 59 = .ok (.iconst 1, 1) := by decide +kernel
theorem dX0_fillRow_60 : decode cX0_fillRow 60 = .ok (.iadd, 1) := by decide +kernel
theorem dX0_fillRow_61 : decode cX0_fillRow 61 = .ok (.bipush 24, 2) := by decide +kernel
theorem dX0_fillRow_63 : decode cX0_fillRow 63 = .ok (.imul, 1) := by decide +kernel
theorem dX0_fillRow_64 : decode cX0_fillRow 64 = .ok (.iload_n 2, 1) := by decide +kernel
theorem dX0_fillRow_65 : decode cX0_fillRow 65 = .ok (.iadd, 1) := by decide +kernel
theorem dX0_fillRow_66 : decode cX0_fillRow 66 = .ok (.iload_n 3, 1) := by decide +kernel
theorem dX0_fillRow_67 : decode cX0_fillRow 67 = .ok (.iastore, 1) := by decide +kernel
theorem dX0_fillRow_68 : decode cX0_fillRow 68 = .ok (.iinc 2 1, 3) := by decide +kernel
theorem dX0_fillRow_71 : decode cX0_fillRow 71 = .ok (.goto (-69), 3) := by decide +kernel
theorem dX0_fillRow_74 : decode cX0_fillRow 74 = .ok (.return_, 1) := by decide +kernel
theorem dX0_onwardSum_0 : decode cX0_onwardSum 0 = .ok (.aload_n 0, 1) := by decide +kernel
theorem dX0_onwardSum_1 : decode cX0_onwardSum 1 = .ok (.getfield 15, 3) := by decide +kernel
theorem dX0_onwardSum_4 : decode cX0_onwardSum 4 = .ok (.iload_n 2, 1) := by decide +kernel
theorem dX0_onwardSum_5 : decode cX0_onwardSum 5 = .ok (.bipush 24, 2) := by decide +kernel
theorem dX0_onwardSum_7 : decode cX0_onwardSum 7 = .ok (.imul, 1) := by decide +kernel
theorem dX0_onwardSum_8 : decode cX0_onwardSum 8 = .ok (.iload_n 3, 1) := by decide +kernel
theorem dX0_onwardSum_9 : decode cX0_onwardSum 9 = .ok (.iadd, 1) := by decide +kernel
theorem dX0_onwardSum_10 : decode cX0_onwardSum 10 = .ok (.iaload, 1) := by decide +kernel
theorem dX0_onwardSum_11 : decode cX0_onwardSum 11 = .ok (.istore 5, 2) := by decide +kernel
theorem dX0_onwardSum_13 : decode cX0_onwardSum 13 = .ok (.aload_n 0, 1) := by decide +kernel
theorem dX0_onwardSum_14 : decode cX0_onwardSum 14 = .ok (.getfield 18, 3) := by decide +kernel
theorem dX0_onwardSum_17 : decode cX0_onwardSum 17 = .ok (.iload 4, 2) := by decide +kernel
theorem dX0_onwardSum_19 : decode cX0_onwardSum 19 = .ok (.bipush 24, 2) := by decide +kernel
theorem dX0_onwardSum_21 : decode cX0_onwardSum 21 = .ok (.imul, 1) := by decide +kernel
theorem dX0_onwardSum_22 : decode cX0_onwardSum 22 = .ok (.iload_n 3, 1) := by decide +kernel
theorem dX0_onwardSum_23 : decode cX0_onwardSum 23 = .ok (.iadd, 1) := by decide +kernel
theorem dX0_onwardSum_24 : decode cX0_onwardSum 24 = .ok (.iaload, 1) := by decide +kernel
theorem dX0_onwardSum_25 : decode cX0_onwardSum 25 = .ok (.istore 6, 2) := by decide +kernel
theorem dX0_onwardSum_27 : decode cX0_onwardSum 27 = .ok (.iload 5, 2) := by decide +kernel
theorem dX0_onwardSum_29 : decode cX0_onwardSum 29 = .ok (.ldc 40, 2) := by decide +kernel
theorem dX0_onwardSum_31 : decode cX0_onwardSum 31 = .ok (.if_icmp .eq 10, 3) := by decide +kernel
theorem dX0_onwardSum_34 : decode cX0_onwardSum 34 = .ok (.iload 6, 2) := by decide +kernel
theorem dX0_onwardSum_36 : decode cX0_onwardSum 36 = .ok (.ldc 40, 2) := by decide +kernel
theorem dX0_onwardSum_38 : decode cX0_onwardSum 38 = .ok (.if_icmp .ne 6, 3) := by decide +kernel
theorem dX0_onwardSum_41 : decode cX0_onwardSum 41 = .ok (.ldc 40, 2) := by decide +kernel
theorem dX0_onwardSum_43 : decode cX0_onwardSum 43 = .ok (.ireturn, 1) := by decide +kernel
theorem dX0_onwardSum_44 : decode cX0_onwardSum 44 = .ok (.aload_n 0, 1) := by decide +kernel
theorem dX0_onwardSum_45 : decode cX0_onwardSum 45 = .ok (.aload_n 0, 1) := by decide +kernel
theorem dX0_onwardSum_46 : decode cX0_onwardSum 46 = .ok (.iload_n 1, 1) := by decide +kernel
theorem dX0_onwardSum_47 : decode cX0_onwardSum 47 = .ok (.iload 5, 2) := by decide +kernel
theorem dX0_onwardSum_49 : decode cX0_onwardSum 49 = .ok (.invokevirtual 95, 3) := by decide +kernel
theorem dX0_onwardSum_52 : decode cX0_onwardSum 52 = .ok (.iload 6, 2) := by decide +kernel
theorem dX0_onwardSum_54 : decode cX0_onwardSum 54 = .ok (.invokevirtual 95, 3) := by decide +kernel
theorem dX0_onwardSum_57 : decode cX0_onwardSum 57 = .ok (.ireturn, 1) := by decide +kernel
theorem dX0_nextOnWay_0 : decode cX0_nextOnWay 0 = .ok (.iconst 0, 1) := by decide +kernel
theorem dX0_nextOnWay_1 : decode cX0_nextOnWay 1 = .ok (.istore 5, 2) := by decide +kernel
theorem dX0_nextOnWay_3 : decode cX0_nextOnWay 3 = .ok (.iload 5, 2) := by decide +kernel
theorem dX0_nextOnWay_5 : decode cX0_nextOnWay 5 = .ok (.aload_n 0, 1) := by decide +kernel
theorem dX0_nextOnWay_6 : decode cX0_nextOnWay 6 = .ok (.getfield 37, 3) := by decide +kernel
theorem dX0_nextOnWay_9 : decode cX0_nextOnWay 9 = .ok (.if_icmp .ge 26, 3) := by decide +kernel
theorem dX0_nextOnWay_12 : decode cX0_nextOnWay 12 = .ok (.aload_n 0, 1) := by decide +kernel
theorem dX0_nextOnWay_13 : decode cX0_nextOnWay 13 = .ok (.iload_n 2, 1) := by decide +kernel
theorem dX0_nextOnWay_14 : decode cX0_nextOnWay 14 = .ok (.iload_n 1, 1) := by decide +kernel
theorem dX0_nextOnWay_15 : decode cX0_nextOnWay 15 = .ok (.iload 5, 2) := by decide +kernel
theorem dX0_nextOnWay_17 : decode cX0_nextOnWay 17 = .ok (.iload_n 3, 1) := by decide +kernel
theorem dX0_nextOnWay_18 : decode cX0_nextOnWay 18 = .ok (.invokevirtual 114, 3) := by decide +kernel
theorem dX0_nextOnWay_21 : decode cX0_nextOnWay 21 = .ok (.iload 4, 2) := by decide +kernel
theorem dX0_nextOnWay_23 : decode cX0_nextOnWay 23 = .ok (.if_icmp .ne 6, 3) := by decide +kernel
theorem dX0_nextOnWay_26 : decode cX0_nextOnWay 26 = .ok (.iload 5, 2) := by decide +kernel
theorem dX0_nextOnWay_28 : decode cX0_nextOnWay 28 = .ok (.ireturn, 1) := by decide +kernel
theorem dX0_nextOnWay_29 : decode cX0_nextOnWay 29 = .ok (.iinc 5 1, 3) := by decide +kernel
theorem dX0_nextOnWay_32 : decode cX0_nextOnWay 32 = .ok (.goto (-29), 3) := by decide +kernel
theorem dX0_nextOnWay_35 : decode cX0_nextOnWay 35 = .ok (.iload_n 1, 1) := by decide +kernel
theorem dX0_nextOnWay_36 : decode cX0_nextOnWay 36 = .ok (.ireturn, 1) := by decide +kernel
theorem dX1_init_0 : decode cX1_init 0 = .ok (.aload_n 0, 1) := by decide +kernel
theorem dX1_init_1 : decode cX1_init 1 = .ok (.invokespecial 3, 3) := by decide +kernel
theorem dX1_init_4 : decode cX1_init 4 = .ok (.aload_n 0, 1) := by decide +kernel
theorem dX1_init_5 : decode cX1_init 5 = .ok (.new 9, 3) := by decide +kernel
theorem dX1_init_8 : decode cX1_init 8 = .ok (.dup, 1) := by decide +kernel
theorem dX1_init_9 : decode cX1_init 9 = .ok (.invokespecial 11, 3) := by decide +kernel
theorem dX1_init_12 : decode cX1_init 12 = .ok (.putfield 12, 3) := by decide +kernel
theorem dX1_init_15 : decode cX1_init 15 = .ok (.aload_n 0, 1) := by decide +kernel
theorem dX1_init_16 : decode cX1_init 16 = .ok (.new 18, 3) := by decide +kernel
theorem dX1_init_19 : decode cX1_init 19 = .ok (.dup, 1) := by decide +kernel
theorem dX1_init_20 : decode cX1_init 20 = .ok (.invokespecial 20, 3) := by decide +kernel
theorem dX1_init_23 : decode cX1_init 23 = .ok (.putfield 21, 3) := by decide +kernel
theorem dX1_init_26 : decode cX1_init 26 = .ok (.aload_n 0, 1) := by decide +kernel
theorem dX1_init_27 : decode cX1_init 27 = .ok (.new 25, 3) := by decide +kernel
theorem dX1_init_30 : decode cX1_init 30 = .ok (.dup, 1) := by decide +kernel
theorem dX1_init_31 : decode cX1_init 31 = .ok (.invokespecial 27, 3) := by decide +kernel
theorem dX1_init_34 : decode cX1_init 34 = .ok (.putfield 28, 3) := by decide +kernel
theorem dX1_init_37 : decode cX1_init 37 = .ok (.aload_n 0, 1) := by decide +kernel
theorem dX1_init_38 : decode cX1_init 38 = .ok (.bipush 12, 2) := by decide +kernel
theorem dX1_init_40 : decode cX1_init 40 = .ok (.newarray .int, 2) := by decide +kernel
theorem dX1_init_42 : decode cX1_init 42 = .ok (.putfield 32, 3) := by decide +kernel
theorem dX1_init_45 : decode cX1_init 45 = .ok (.aload_n 0, 1) := by decide +kernel
theorem dX1_init_46 : decode cX1_init 46 = .ok (.bipush 12, 2) := by decide +kernel
theorem dX1_init_48 : decode cX1_init 48 = .ok (.newarray .int, 2) := by decide +kernel
theorem dX1_init_50 : decode cX1_init 50 = .ok (.putfield 36, 3) := by decide +kernel
theorem dX1_init_53 : decode cX1_init 53 = .ok (.aload_n 0, 1) := by decide +kernel
theorem dX1_init_54 : decode cX1_init 54 = .ok (.bipush 8, 2) := by decide +kernel
theorem dX1_init_56 : decode cX1_init 56 = .ok (.newarray .int, 2) := by decide +kernel
theorem dX1_init_58 : decode cX1_init 58 = .ok (.putfield 39, 3) := by decide +kernel
theorem dX1_init_61 : decode cX1_init 61 = .ok (.aload_n 0, 1) := by decide +kernel
theorem dX1_init_62 : decode cX1_init 62 = .ok (.bipush 8, 2) := by decide +kernel
theorem dX1_init_64 : decode cX1_init 64 = .ok (.newarray .int, 2) := by decide +kernel
theorem dX1_init_66 : decode cX1_init 66 = .ok (.putfield 42, 3) := by decide +kernel
theorem dX1_init_69 : decode cX1_init 69 = .ok (.aload_n 0, 1) := by decide +kernel
theorem dX1_init_70 : decode cX1_init 70 = .ok (.bipush 44, 2) := by decide +kernel
theorem dX1_init_72 : decode cX1_init 72 = .ok (.newarray .int, 2) := by decide +kernel
theorem dX1_init_74 : decode cX1_init 74 = .ok (.putfield 45, 3) := by decide +kernel
theorem dX1_init_77 : decode cX1_init 77 = .ok (.aload_n 0, 1) := by decide +kernel
theorem dX1_init_78 : decode cX1_init 78 = .ok (.bipush 44, 2) := by decide +kernel
theorem dX1_init_80 : decode cX1_init 80 = .ok (.newarray .int, 2) := by decide +kernel
theorem dX1_init_82 : decode cX1_init 82 = .ok (.putfield 48, 3) := by decide +kernel
theorem dX1_init_85 : decode cX1_init 85 = .ok (.return_, 1) := by decide +kernel
theorem dX1_clear_0 : decode cX1_clear 0 = .ok (.aload_n 0, 1) := by decide +kernel
theorem dX1_clear_1 : decode cX1_clear 1 = .ok (.getfield 12, 3) := by decide +kernel
theorem dX1_clear_4 : decode cX1_clear 4 = .ok (.invokevirtual 51, 3) := by decide +kernel
theorem dX1_clear_7 : decode cX1_clear 7 = .ok (.aload_n 0, 1) := by decide +kernel
theorem dX1_clear_8 : decode cX1_clear 8 = .ok (.getfield 21, 3) := by decide +kernel
theorem dX1_clear_11 : decode cX1_clear 11 = .ok (.iconst 0, 1) := by decide +kernel
theorem dX1_clear_12 : decode cX1_clear 12 = .ok (.invokevirtual 54, 3) := by decide +kernel
theorem dX1_clear_15 : decode cX1_clear 15 = .ok (.aload_n 0, 1) := by decide +kernel
theorem dX1_clear_16 : decode cX1_clear 16 = .ok (.getfield 28, 3) := by decide +kernel
theorem dX1_clear_19 : decode cX1_clear 19 = .ok (.invokevirtual 58, 3) := by decide +kernel
theorem dX1_clear_22 : decode cX1_clear 22 = .ok (.aload_n 0, 1) := by decide +kernel
theorem dX1_clear_23 : decode cX1_clear 23 = .ok (.iconst 0, 1) := by decide +kernel
theorem dX1_clear_24 : decode cX1_clear 24 = .ok (.putfield 59, 3) := by decide +kernel
theorem dX1_clear_27 : decode cX1_clear 27 = .ok (.aload_n 0, 1) := by decide +kernel
theorem dX1_clear_28 : decode cX1_clear 28 = .ok (.iconst 0, 1) := by decide +kernel
theorem dX1_clear_29 : decode cX1_clear 29 = .ok (.putfield 63, 3) := by decide +kernel
theorem dX1_clear_32 : decode cX1_clear 32 = .ok (.aload_n 0, 1) := by decide +kernel
theorem dX1_clear_33 : decode cX1_clear 33 = .ok (.iconst 0, 1) := by decide +kernel
theorem dX1_clear_34 : decode cX1_clear 34 = .ok (.putfield 66, 3) := by decide +kernel
theorem dX1_clear_37 : decode cX1_clear 37 = .ok (.return_, 1) := by decide +kernel
theorem dX1_comeTerm_0 : decode cX1_comeTerm 0 = .ok (.aload_n 0, 1) := by decide +kernel
theorem dX1_comeTerm_1 : decode cX1_comeTerm 1 = .ok (.getfield 12, 3) := by decide +kernel
theorem dX1_comeTerm_4 : decode cX1_comeTerm 4 = .ok (.iload_n 1, 1) := by decide +kernel
theorem dX1_comeTerm_5 : decode cX1_comeTerm 5 = .ok (.iload_n 2, 1) := by decide +kernel
theorem dX1_comeTerm_6 : decode cX1_comeTerm 6 = .ok (.iload_n 3, 1) := by decide +kernel
theorem dX1_comeTerm_7 : decode cX1_comeTerm 7 = .ok (.iload 4, 2) := by decide +kernel
theorem dX1_comeTerm_9 : decode cX1_comeTerm 9 = .ok (.iload 5, 2) := by decide +kernel
theorem dX1_comeTerm_11 : decode cX1_comeTerm 11 = .ok (.invokevirtual 69, 3) := by decide +kernel
theorem dX1_comeTerm_14 : decode cX1_comeTerm 14 = .ok (.aload_n 0, 1) := by decide +kernel
theorem dX1_comeTerm_15 : decode cX1_comeTerm 15 = .ok (.getfield 21, 3) := by decide +kernel
theorem dX1_comeTerm_18 : decode cX1_comeTerm 18 = .ok (.invokevirtual 73, 3) := by decide +kernel
theorem dX1_comeTerm_21 : decode cX1_comeTerm 21 = .ok (.aload_n 0, 1) := by decide +kernel
theorem dX1_comeTerm_22 : decode cX1_comeTerm 22 = .ok (.getfield 28, 3) := by decide +kernel
theorem dX1_comeTerm_25 : decode cX1_comeTerm 25 = .ok (.invokevirtual 76, 3) := by decide +kernel
theorem dX1_comeTerm_28 : decode cX1_comeTerm 28 = .ok (.aload_n 0, 1) := by decide +kernel
theorem dX1_comeTerm_29 : decode cX1_comeTerm 29 = .ok (.invokevirtual 77, 3) := by decide +kernel
theorem dX1_comeTerm_32 : decode cX1_comeTerm 32 = .ok (.return_, 1) := by decide +kernel
theorem dX1_comeSame_0 : decode cX1_comeSame 0 = .ok (.aload_n 0, 1) := by decide +kernel
theorem dX1_comeSame_1 : decode cX1_comeSame 1 = .ok (.getfield 59, 3) := by decide +kernel
theorem dX1_comeSame_4 : decode cX1_comeSame 4 = .ok (.bipush 12, 2) := by decide +kernel
theorem dX1_comeSame_6 : decode cX1_comeSame 6 = .ok (.if_icmp .lt 4, 3) := by decide +kernel
theorem dX1_comeSame_9 : decode cX1_comeSame 9 = .ok (.return_, 1) := by decide +kernel
theorem dX1_comeSame_10 : decode cX1_comeSame 10 = .ok (.aload_n 0, 1) := by decide +kernel
theorem dX1_comeSame_11 : decode cX1_comeSame 11 = .ok (.getfield 32, 3) := by decide +kernel
theorem dX1_comeSame_14 : decode cX1_comeSame 14 = .ok (.aload_n 0, 1) := by decide +kernel
theorem dX1_comeSame_15 : decode cX1_comeSame 15 = .ok (.getfield 59, 3) := by decide +kernel
theorem dX1_comeSame_18 : decode cX1_comeSame 18 = .ok (.iload_n 1, 1) := by decide +kernel
theorem dX1_comeSame_19 : decode cX1_comeSame 19 = .ok (.iastore, 1) := by decide +kernel
theorem dX1_comeSame_20 : decode cX1_comeSame 20 = .ok (.aload_n 0, 1) := by decide +kernel
theorem dX1_comeSame_21 : decode cX1_comeSame 21 = .ok (.getfield 36, 3) := by decide +kernel
theorem dX1_comeSame_24 : decode cX1_comeSame 24 = .ok (.aload_n 0, 1) := by decide +kernel
theorem dX1_comeSame_25 : decode cX1_comeSame 25 = .ok (.getfield 59, 3) := by decide +kernel
theorem dX1_comeSame_28 : decode cX1_comeSame 28 = .ok (.iload_n 2, 1) := by decide +kernel
theorem dX1_comeSame_29 : decode cX1_comeSame 29 = .ok (.iastore, 1) := by decide +kernel
theorem dX1_comeSame_30 : decode cX1_comeSame 30 = .ok (.aload_n 0, 1) := by decide +kernel
theorem dX1_comeSame_31 : decode cX1_comeSame 31 = .ok (.dup, 1) := by decide +kernel
theorem dX1_comeSame_32 : decode cX1_comeSame 32 = .ok (.getfield 59, 3) := by decide +kernel
theorem dX1_comeSame_35 : decode cX1_comeSame 35 = .ok (.iconst 1, 1) := by decide +kernel
theorem dX1_comeSame_36 : decode cX1_comeSame 36 = .ok (.iadd, 1) := by decide +kernel
theorem dX1_comeSame_37 : decode cX1_comeSame 37 = .ok (.putfield 59, 3) := by decide +kernel
theorem dX1_comeSame_40 : decode cX1_comeSame 40 = .ok (.aload_n 0, 1) := by decide +kernel
theorem dX1_comeSame_41 : decode cX1_comeSame 41 = .ok (.getfield 21, 3) := by decide +kernel
theorem dX1_comeSame_44 : decode cX1_comeSame 44 = .ok (.iload_n 1, 1) := by decide +kernel
theorem dX1_comeSame_45 : decode cX1_comeSame 45 = .ok (.iload_n 2, 1) := by decide +kernel
theorem dX1_comeSame_46 : decode cX1_comeSame 46 = .ok (.invokevirtual 80, 3) := by decide +kernel
theorem dX1_comeSame_49 : decode cX1_comeSame 49 = .ok (.ifCond .ne 39, 3) := by decide +kernel
theorem dX1_comeSame_52 : decode cX1_comeSame 52 = .ok (.aload_n 0, 1) := by decide +kernel
theorem dX1_comeSame_53 : decode cX1_comeSame 53 = .ok (.getfield 28, 3) := by decide +kernel
theorem dX1_comeSame_56 : decode cX1_comeSame 56 = .ok (.iload_n 1, 1) := by decide +kernel
theorem dX1_comeSame_57 : decode cX1_comeSame 57 = .ok (.iload_n 2, 1) := by decide +kernel
theorem dX1_comeSame_58 : decode cX1_comeSame 58 = .ok (.aload_n 0, 1) := by decide +kernel
theorem dX1_comeSame_59 : decode cX1_comeSame 59 = .ok (.getfield 59, 3) := by decide +kernel
theorem dX1_comeSame_62 : decode cX1_comeSame 62 = .ok (.iconst 1, 1) := by decide +kernel
theorem dX1_comeSame_63 : decode cX1_comeSame 63 = .ok (.isub, 1) := by decide +kernel
theorem dX1_comeSame_64 : decode cX1_comeSame 64 = .ok (.iconst 1, 1) := by decide +kernel
theorem dX1_comeSame_65 : decode cX1_comeSame 65 = .ok (.aload_n 0, 1) := by decide +kernel
theorem dX1_comeSame_66 : decode cX1_comeSame 66 = .ok (.getfield 59, 3) := by decide +kernel
theorem dX1_comeSame_69 : decode cX1_comeSame 69 = .ok (.iconst 1, 1) := by decide +kernel
theorem dX1_comeSame_70 : decode cX1_comeSame 70 = .ok (.isub, 1) := by decide +kernel
theorem dX1_comeSame_71 : decode cX1_comeSame 71 = .ok (.ishl, 1) := by decide +kernel
theorem dX1_comeSame_72 : decode cX1_comeSame 72 = .ok (.invokevirtual 84, 3) := by decide +kernel
theorem dX1_comeSame_75 : decode cX1_comeSame 75 = .ok (.aload_n 0, 1) := by decide +kernel
theorem dX1_comeSame_76 : decode cX1_comeSame 76 = .ok (.getfield 21, 3) := by decide +kernel
theorem dX1_comeSame_79 : decode cX1_comeSame 79 = .ok (.iload_n 1, 1) := by decide +kernel
theorem dX1_comeSame_80 : decode cX1_comeSame 80 = .ok (.iload_n 2, 1) := by decide +kernel
theorem dX1_comeSame_81 : decode cX1_comeSame 81 = .ok (.invokevirtual 88, 3) := by decide +kernel
theorem dX1_comeSame_84 : decode cX1_comeSame 84 = .ok (.aload_n 0, 1) := by decide +kernel
theorem dX1_comeSame_85 : decode cX1_comeSame 85 = .ok (.invokevirtual 77, 3) := by decide +kernel
theorem dX1_comeSame_88 : decode cX1_comeSame 88 = .ok (.return_, 1) := by decide +kernel
theorem dX1_comeDiff_0 : decode cX1_comeDiff 0 = .ok (.aload_n 0, 1) := by decide +kernel
theorem dX1_comeDiff_1 : decode cX1_comeDiff 1 = .ok (.getfield 63, 3) := by decide +kernel
theorem dX1_comeDiff_4 : decode cX1_comeDiff 4 = .ok (.bipush 8, 2) := by decide +kernel
theorem dX1_comeDiff_6 : decode cX1_comeDiff 6 = .ok (.if_icmp .ge 33, 3) := by decide +kernel
theorem dX1_comeDiff_9 : decode cX1_comeDiff 9 = .ok (.aload_n 0, 1) := by decide +kernel
theorem dX1_comeDiff_10 : decode cX1_comeDiff 10 = .ok (.getfield 39, 3) := by decide +kernel
theorem dX1_comeDiff_13 : decode cX1_comeDiff 13 = .ok (.aload_n 0, 1) := by decide +kernel
theorem dX1_comeDiff_14 : decode cX1_comeDiff 14 = .ok (.getfield 63, 3) := by decide +kernel
theorem dX1_comeDiff_17 : decode cX1_comeDiff 17 = .ok (.iload_n 1, 1) := by decide +kernel
theorem dX1_comeDiff_18 : decode cX1_comeDiff 18 = .ok (.iastore, 1) := by decide +kernel
theorem dX1_comeDiff_19 : decode cX1_comeDiff 19 = .ok (.aload_n 0, 1) := by decide +kernel
theorem dX1_comeDiff_20 : decode cX1_comeDiff 20 = .ok (.getfield 42, 3) := by decide +kernel
theorem dX1_comeDiff_23 : decode cX1_comeDiff 23 = .ok (.aload_n 0, 1) := by decide +kernel
theorem dX1_comeDiff_24 : decode cX1_comeDiff 24 = .ok (.getfield 63, 3) := by decide +kernel
theorem dX1_comeDiff_27 : decode cX1_comeDiff 27 = .ok (.iload_n 2, 1) := by decide +kernel
theorem dX1_comeDiff_28 : decode cX1_comeDiff 28 = .ok (.iastore, 1) := by decide +kernel
theorem dX1_comeDiff_29 : decode cX1_comeDiff 29 = .ok (.aload_n 0, 1) := by decide +kernel
theorem dX1_comeDiff_30 : decode cX1_comeDiff 30 = .ok (.dup, 1) := by decide +kernel
theorem dX1_comeDiff_31 : decode cX1_comeDiff 31 = .ok (.getfield 63, 3) := by decide +kernel
theorem dX1_comeDiff_34 : decode cX1_comeDiff 34 = .ok (.iconst 1, 1) := by decide +kernel
theorem dX1_comeDiff_35 : decode cX1_comeDiff 35 = .ok (.iadd, 1) := by decide +kernel
theorem dX1_comeDiff_36 : decode cX1_comeDiff 36 = .ok (.putfield 63, 3) := by decide +kernel
theorem dX1_comeDiff_39 : decode cX1_comeDiff 39 = .ok (.return_, 1) := by decide +kernel
theorem dX1_closeInOrder_0 : decode cX1_closeInOrder 0 = .ok (.aload_n 0, 1) := by decide +kernel
theorem dX1_closeInOrder_1 : decode cX1_closeInOrder 1 = .ok (.getfield 12, 3) := by decide +kernel
theorem dX1_closeInOrder_4 : decode cX1_closeInOrder 4 = .ok (.aload_n 0, 1) := by decide +kernel
theorem dX1_closeInOrder_5 : decode cX1_closeInOrder 5 = .ok (.getfield 21, 3) := by decide +kernel
theorem dX1_closeInOrder_8 : decode cX1_closeInOrder 8 = .ok (.invokevirtual 92, 3) := by decide +kernel
theorem dX1_closeInOrder_11 : decode cX1_closeInOrder 11 = .ok (.istore_n 1, 1) := by decide +kernel
theorem dX1_closeInOrder_12 : decode cX1_closeInOrder 12 = .ok (.iconst 0, 1) := by decide +kernel
theorem dX1_closeInOrder_13 : decode cX1_closeInOrder 13 = .ok (.istore_n 2, 1) := by decide +kernel
theorem dX1_closeInOrder_14 : decode cX1_closeInOrder 14 = .ok (.iload_n 2, 1) := by decide +kernel
theorem dX1_closeInOrder_15 : decode cX1_closeInOrder 15 = .ok (.bipush 24, 2) := by decide +kernel
theorem dX1_closeInOrder_17 : decode cX1_closeInOrder 17 = .ok (.if_icmp .ge 74, 3) := by decide +kernel
theorem dX1_closeInOrder_20 : decode cX1_closeInOrder 20 = .ok (.iload_n 1, 1) := by decide +kernel
theorem dX1_closeInOrder_21 : decode cX1_closeInOrder 21 = .ok (.ifCond .lt 70, 3) := by decide +kernel
theorem dX1_closeInOrder_24 : decode cX1_closeInOrder 24 = .ok (.aload_n 0, 1) := by decide +kernel
theorem dX1_closeInOrder_25 : decode cX1_closeInOrder 25 = .ok (.getfield 12, 3) := by decide +kernel
theorem dX1_closeInOrder_28 : decode cX1_closeInOrder 28 = .ok (.getfield 96, 3) := by decide +kernel
theorem dX1_closeInOrder_31 : decode cX1_closeInOrder 31 = .ok (.iload_n 1, 1) := by decide +kernel
theorem dX1_closeInOrder_32 : decode cX1_closeInOrder 32 = .ok (.iaload, 1) := by decide +kernel
theorem dX1_closeInOrder_33 : decode cX1_closeInOrder 33 = .ok (.istore_n 3, 1) := by decide +kernel
theorem dX1_closeInOrder_34 : decode cX1_closeInOrder 34 = .ok (.aload_n 0, 1) := by decide +kernel
theorem dX1_closeInOrder_35 : decode cX1_closeInOrder 35 = .ok (.getfield 12, 3) := by decide +kernel
theorem dX1_closeInOrder_38 : decode cX1_closeInOrder 38 = .ok (.getfield 99, 3) := by decide +kernel
theorem dX1_closeInOrder_41 : decode cX1_closeInOrder 41 = .ok (.iload_n 1, 1) := by decide +kernel
theorem dX1_closeInOrder_42 : decode cX1_closeInOrder 42 = .ok (.iaload, 1) := by decide +kernel
theorem dX1_closeInOrder_43 : decode cX1_closeInOrder 43 = .ok (.istore 4, 2) := by decide +kernel
theorem dX1_closeInOrder_45 : decode cX1_closeInOrder 45 = .ok (.aload_n 0, 1) := by decide +kernel
theorem dX1_closeInOrder_46 : decode cX1_closeInOrder 46 = .ok (.getfield 28, 3) := by decide +kernel
theorem dX1_closeInOrder_49 : decode cX1_closeInOrder 49 = .ok (.iload_n 3, 1) := by decide +kernel
theorem dX1_closeInOrder_50 : decode cX1_closeInOrder 50 = .ok (.iload 4, 2) := by decide +kernel
theorem dX1_closeInOrder_52 : decode cX1_closeInOrder 52 = .ok (.iconst (-1), 1) := by decide +kernel
theorem dX1_closeInOrder_53 : decode cX1_closeInOrder 53 = .ok (.aload_n 0, 1) := by decide +kernel
theorem dX1_closeInOrder_54 : decode cX1_closeInOrder 54 = .ok (.iload_n 3, 1) := by decide +kernel
theorem dX1_closeInOrder_55 : decode cX1_closeInOrder 55 = .ok (.iload 4, 2) := by decide +kernel
theorem dX1_closeInOrder_57 : decode cX1_closeInOrder 57 = .ok (.invokevirtual 102, 3) := by decide +kernel
theorem dX1_closeInOrder_60 : decode cX1_closeInOrder 60 = .ok (.invokevirtual 84, 3) := by decide +kernel
theorem dX1_closeInOrder_63 : decode cX1_closeInOrder 63 = .ok (.aload_n 0, 1) := by decide +kernel
theorem dX1_closeInOrder_64 : decode cX1_closeInOrder 64 = .ok (.getfield 21, 3) := by decide +kernel
theorem dX1_closeInOrder_67 : decode cX1_closeInOrder 67 = .ok (.iload_n 3, 1) := by decide +kernel
theorem dX1_closeInOrder_68 : decode cX1_closeInOrder 68 = .ok (.iload 4, 2) := by decide +kernel
theorem dX1_closeInOrder_70 : decode cX1_closeInOrder 70 = .ok (.invokevirtual 88, 3) := by decide +kernel
theorem dX1_closeInOrder_73 : decode cX1_closeInOrder 73 = .ok (.aload_n 0, 1) := by decide +kernel
theorem dX1_closeInOrder_74 : decode cX1_closeInOrder 74 = .ok (.getfield 12, 3) := by decide +kernel
theorem dX1_closeInOrder_77 : decode cX1_closeInOrder 77 = .ok (.aload_n 0, 1) := by decide +kernel
theorem dX1_closeInOrder_78 : decode cX1_closeInOrder 78 = .ok (.getfield 21, 3) := by decide +kernel
theorem dX1_closeInOrder_81 : decode cX1_closeInOrder 81 = .ok (.invokevirtual 92, 3) := by decide +kernel
theorem dX1_closeInOrder_84 : decode cX1_closeInOrder 84 = .ok (.istore_n 1, 1) := by decide +kernel
theorem dX1_closeInOrder_85 : decode cX1_closeInOrder 85 = .ok (.iinc 2 1, 3) := by decide +kernel
theorem dX1_closeInOrder_88 : decode cX1_closeInOrder 88 = .ok (.goto (-74), 3) := by decide +kernel
theorem dX1_closeInOrder_91 : decode cX1_closeInOrder 91 = .ok (.return_, 1) := by decide +kernel
theorem dX1_partReasons_0 : decode cX1_partReasons 0 = .ok (.iconst 0, 1) := by decide +kernel
theorem dX1_partReasons_1 : decode cX1_partReasons 1 = .ok (.istore_n 3, 1) := by decide +kernel
theorem dX1_partReasons_2 : decode cX1_partReasons 2 = .ok (.iconst 0, 1) := by decide +kernel
theorem dX1_partReasons_3 : decode cX1_partReasons 3 = .ok (.istore 4, 2) := by decide +kernel
theorem dX1_partReasons_5 : decode cX1_partReasons 5 = .ok (.iload 4, 2) := by decide +kernel
theorem dX1_partReasons_7 : decode cX1_partReasons 7 = .ok (.aload_n 0, 1) := by decide +kernel
theorem dX1_partReasons_8 : decode cX1_partReasons 8 = .ok (.getfield 12, 3) := by decide +kernel
theorem dX1_partReasons_11 : decode cX1_partReasons 11 = .ok (.iload_n 1, 1) := by decide +kernel
theorem dX1_partReasons_12 : decode cX1_partReasons 12 = .ok (.invokevirtual 106, 3) := by decide +kernel
theorem dX1_partReasons_15 : decode cX1_partReasons 15 = .ok (.if_icmp .ge 39, 3) := by decide +kernel
theorem dX1_partReasons_18 : decode cX1_partReasons 18 = .ok (.iload_n 3, 1) := by decide +kernel
theorem dX1_partReasons_19 : decode cX1_partReasons 19 = .ok (.aload_n 0, 1) := by decide +kernel
theorem dX1_partReasons_20 : decode cX1_partReasons 20 = .ok (.getfield 28, 3) := by decide +kernel
theorem dX1_partReasons_23 : decode cX1_partReasons 23 = .ok (.aload_n 0, 1) := by decide +kernel
theorem dX1_partReasons_24 : decode cX1_partReasons 24 = .ok (.getfield 12, 3) := by decide +kernel
theorem dX1_partReasons_27 : decode cX1_partReasons 27 = .ok (.iload_n 1, 1) := by decide +kernel
theorem dX1_partReasons_28 : decode cX1_partReasons 28 = .ok (.iload 4, 2) := by decide +kernel
theorem dX1_partReasons_30 : decode cX1_partReasons 30 = .ok (.invokevirtual 110, 3) := by decide +kernel
theorem dX1_partReasons_33 : decode cX1_partReasons 33 = .ok (.aload_n 0, 1) := by decide +kernel
theorem dX1_partReasons_34 : decode cX1_partReasons 34 = .ok (.getfield 12, 3) := by decide +kernel
theorem dX1_partReasons_37 : decode cX1_partReasons 37 = .ok (.iload_n 2, 1) := by decide +kernel
theorem dX1_partReasons_38 : decode cX1_partReasons 38 = .ok (.iload 4, 2) := by decide +kernel
theorem dX1_partReasons_40 : decode cX1_partReasons 40 = .ok (.invokevirtual 110, 3) := by decide +kernel
theorem dX1_partReasons_43 : decode cX1_partReasons 43 = .ok (.invokevirtual 113, 3) := by decide +kernel
theorem dX1_partReasons_46 : decode cX1_partReasons 46 = .ok (.ior, 1) := by decide +kernel
theorem dX1_partReasons_47 : decode cX1_partReasons 47 = .ok (.istore_n 3, 1) := by decide +kernel
theorem dX1_partReasons_48 : decode cX1_partReasons 48 = .ok (.iinc 4 1, 3) := by decide +kernel
theorem dX1_partReasons_51 : decode cX1_partReasons 51 = .ok (.goto (-46), 3) := by decide +kernel
theorem dX1_partReasons_54 : decode cX1_partReasons 54 = .ok (.iload_n 3, 1) := by decide +kernel
theorem dX1_partReasons_55 : decode cX1_partReasons 55 = .ok (.ireturn, 1) := by decide +kernel
theorem dX1_noteAct_0 : decode cX1_noteAct 0 = .ok (.aload_n 0, 1) := by decide +kernel
theorem dX1_noteAct_1 : decode cX1_noteAct 1 = .ok (.getfield 66, 3) := by decide +kernel
theorem dX1_noteAct_4 : decode cX1_noteAct 4 = .ok (.bipush 44, 2) := by decide +kernel
theorem dX1_noteAct_6 : decode cX1_noteAct 6 = .ok (.if_icmp .ge 39, 3) := by decide +kernel
theorem dX1_noteAct_9 : decode cX1_noteAct 9 = .ok (.aload_n 0, 1) := by decide +kernel
theorem dX1_noteAct_10 : decode cX1_noteAct 10 = .ok (.getfield 45, 3) := by decide +kernel
theorem dX1_noteAct_13 : decode cX1_noteAct 13 = .ok (.aload_n 0, 1) := by decide +kernel
theorem dX1_noteAct_14 : decode cX1_noteAct 14 = .ok (.getfield 66, 3) := by decide +kernel
theorem dX1_noteAct_17 : decode cX1_noteAct 17 = .ok (.iload_n 1, 1) := by decide +kernel
theorem dX1_noteAct_18 : decode cX1_noteAct 18 = .ok (.iastore, 1) := by decide +kernel
theorem dX1_noteAct_19 : decode cX1_noteAct 19 = .ok (.aload_n 0, 1) := by decide +kernel
theorem dX1_noteAct_20 : decode cX1_noteAct 20 = .ok (.getfield 48, 3) := by decide +kernel
theorem dX1_noteAct_23 : decode cX1_noteAct 23 = .ok (.aload_n 0, 1) := by decide +kernel
theorem dX1_noteAct_24 : decode cX1_noteAct 24 = .ok (.getfield 66, 3) := by decide +kernel
theorem dX1_noteAct_27 : decode cX1_noteAct 27 = .ok (.aload_n 0, 1) := by decide +kernel
theorem dX1_noteAct_28 : decode cX1_noteAct 28 = .ok (.getfield 28, 3) := by decide +kernel
theorem dX1_noteAct_31 : decode cX1_noteAct 31 = .ok (.getfield 116, 3) := by decide +kernel
theorem dX1_noteAct_34 : decode cX1_noteAct 34 = .ok (.iastore, 1) := by decide +kernel
theorem dX1_noteAct_35 : decode cX1_noteAct 35 = .ok (.aload_n 0, 1) := by decide +kernel
theorem dX1_noteAct_36 : decode cX1_noteAct 36 = .ok (.dup, 1) := by decide +kernel
theorem dX1_noteAct_37 : decode cX1_noteAct 37 = .ok (.getfield 66, 3) := by decide +kernel
theorem dX1_noteAct_40 : decode cX1_noteAct 40 = .ok (.iconst 1, 1) := by decide +kernel
theorem dX1_noteAct_41 : decode cX1_noteAct 41 = .ok (.iadd, 1) := by decide +kernel
theorem dX1_noteAct_42 : decode cX1_noteAct 42 = .ok (.putfield 66, 3) := by decide +kernel
theorem dX1_noteAct_45 : decode cX1_noteAct 45 = .ok (.return_, 1) := by decide +kernel
theorem dX1_undoLatest_0 : decode cX1_undoLatest 0 = .ok (.aload_n 0, 1) := by decide +kernel
theorem dX1_undoLatest_1 : decode cX1_undoLatest 1 = .ok (.getfield 66, 3) := by decide +kernel
theorem dX1_undoLatest_4 : decode cX1_undoLatest 4 = .ok (.ifCond .ne 4, 3) := by decide +kernel
theorem dX1_undoLatest_7 : decode cX1_undoLatest 7 = .ok (.return_, 1) := by decide +kernel
theorem dX1_undoLatest_8 : decode cX1_undoLatest 8 = .ok (.aload_n 0, 1) := by decide +kernel
theorem dX1_undoLatest_9 : decode cX1_undoLatest 9 = .ok (.dup, 1) := by decide +kernel
theorem dX1_undoLatest_10 : decode cX1_undoLatest 10 = .ok (.getfield 66, 3) := by decide +kernel
theorem dX1_undoLatest_13 : decode cX1_undoLatest 13 = .ok (.iconst 1, 1) := by decide +kernel
theorem dX1_undoLatest_14 : decode cX1_undoLatest 14 = .ok (.isub, 1) := by decide +kernel
theorem dX1_undoLatest_15 : decode cX1_undoLatest 15 = .ok (.putfield 66, 3) := by decide +kernel
theorem dX1_undoLatest_18 : decode cX1_undoLatest 18 = .ok (.aload_n 0, 1) := by decide +kernel
theorem dX1_undoLatest_19 : decode cX1_undoLatest 19 = .ok (.getfield 45, 3) := by decide +kernel
theorem dX1_undoLatest_22 : decode cX1_undoLatest 22 = .ok (.aload_n 0, 1) := by decide +kernel
theorem dX1_undoLatest_23 : decode cX1_undoLatest 23 = .ok (.getfield 66, 3) := by decide +kernel
theorem dX1_undoLatest_26 : decode cX1_undoLatest 26 = .ok (.iaload, 1) := by decide +kernel
theorem dX1_undoLatest_27 : decode cX1_undoLatest 27 = .ok (.ifCond .ne 16, 3) := by decide +kernel
theorem dX1_undoLatest_30 : decode cX1_undoLatest 30 = .ok (.aload_n 0, 1) := by decide +kernel
theorem dX1_undoLatest_31 : decode cX1_undoLatest 31 = .ok (.dup, 1) := by decide +kernel
theorem dX1_undoLatest_32 : decode cX1_undoLatest 32 = .ok (.getfield 59, 3) := by decide +kernel
theorem dX1_undoLatest_35 : decode cX1_undoLatest 35 = .ok (.iconst 1, 1) := by decide +kernel
theorem dX1_undoLatest_36 : decode cX1_undoLatest 36 = .ok (.isub, 1) := by decide +kernel
theorem dX1_undoLatest_37 : decode cX1_undoLatest 37 = .ok (.putfield 59, 3) := by decide +kernel
theorem dX1_undoLatest_40 : decode cX1_undoLatest 40 = .ok (.goto 36, 3) := by decide +kernel
theorem dX1_undoLatest_43 : decode cX1_undoLatest 43 = .ok (.aload_n 0, 1) := by decide +kernel
theorem dX1_undoLatest_44 : decode cX1_undoLatest 44 = .ok (.getfield 45, 3) := by decide +kernel
theorem dX1_undoLatest_47 : decode cX1_undoLatest 47 = .ok (.aload_n 0, 1) := by decide +kernel
theorem dX1_undoLatest_48 : decode cX1_undoLatest 48 = .ok (.getfield 66, 3) := by decide +kernel
theorem dX1_undoLatest_51 : decode cX1_undoLatest 51 = .ok (.iaload, 1) := by decide +kernel
theorem dX1_undoLatest_52 : decode cX1_undoLatest 52 = .ok (.iconst 1, 1) := by decide +kernel
theorem dX1_undoLatest_53 : decode cX1_undoLatest 53 = .ok (.if_icmp .ne 16, 3) := by decide +kernel
theorem dX1_undoLatest_56 : decode cX1_undoLatest 56 = .ok (.aload_n 0, 1) := by decide +kernel
theorem dX1_undoLatest_57 : decode cX1_undoLatest 57 = .ok (.dup, 1) := by decide +kernel
theorem dX1_undoLatest_58 : decode cX1_undoLatest 58 = .ok (.getfield 63, 3) := by decide +kernel
theorem dX1_undoLatest_61 : decode cX1_undoLatest 61 = .ok (.iconst 1, 1) := by decide +kernel
theorem dX1_undoLatest_62 : decode cX1_undoLatest 62 = .ok (.isub, 1) := by decide +kernel
theorem dX1_undoLatest_63 : decode cX1_undoLatest 63 = .ok (.putfield 63, 3) := by decide +kernel
theorem dX1_undoLatest_66 : decode cX1_undoLatest 66 = .ok (.goto 10, 3) := by decide +kernel
theorem dX1_undoLatest_69 : decode cX1_undoLatest 69 = .ok (.aload_n 0, 1) := by decide +kernel
theorem dX1_undoLatest_70 : decode cX1_undoLatest 70 = .ok (.getfield 12, 3) := by decide +kernel
theorem dX1_undoLatest_73 : decode cX1_undoLatest 73 = .ok (.invokevirtual 119, 3) := by decide +kernel
theorem dX1_undoLatest_76 : decode cX1_undoLatest 76 = .ok (.aload_n 0, 1) := by decide +kernel
theorem dX1_undoLatest_77 : decode cX1_undoLatest 77 = .ok (.getfield 28, 3) := by decide +kernel
theorem dX1_undoLatest_80 : decode cX1_undoLatest 80 = .ok (.aload_n 0, 1) := by decide +kernel
theorem dX1_undoLatest_81 : decode cX1_undoLatest 81 = .ok (.getfield 12, 3) := by decide +kernel
theorem dX1_undoLatest_84 : decode cX1_undoLatest 84 = .ok (.getfield 122, 3) := by decide +kernel
theorem dX1_undoLatest_87 : decode cX1_undoLatest 87 = .ok (.aload_n 0, 1) := by decide +kernel
theorem dX1_undoLatest_88 : decode cX1_undoLatest 88 = .ok (.getfield 48, 3) := by decide +kernel
theorem dX1_undoLatest_91 : decode cX1_undoLatest 91 = .ok (.aload_n 0, 1) := by decide +kernel
theorem dX1_undoLatest_92 : decode cX1_undoLatest 92 = .ok (.getfield 66, 3) := by decide +kernel
theorem dX1_undoLatest_95 : decode cX1_undoLatest 95 = .ok (.iaload, 1) := by decide +kernel
theorem dX1_undoLatest_96 : decode cX1_undoLatest 96 = .ok (.invokevirtual 125, 3) := by decide +kernel
theorem dX1_undoLatest_99 : decode cX1_undoLatest 99 = .ok (.aload_n 0, 1) := by decide +kernel
theorem dX1_undoLatest_100 : decode cX1_undoLatest 100 = .ok (.getfield 21, 3) := by decide +kernel
theorem dX1_undoLatest_103 : decode cX1_undoLatest 103 = .ok (.aload_n 0, 1) := by decide +kernel
theorem dX1_undoLatest_104 : decode cX1_undoLatest 104 = .ok (.getfield 12, 3) := by decide +kernel
theorem dX1_undoLatest_107 : decode cX1_undoLatest 107 = .ok (.getfield 122, 3) := by decide +kernel
theorem dX1_undoLatest_110 : decode cX1_undoLatest 110 = .ok (.invokevirtual 54, 3) := by decide +kernel
theorem dX1_undoLatest_113 : decode cX1_undoLatest 113 = .ok (.iconst 0, 1) := by decide +kernel
theorem dX1_undoLatest_114 : decode cX1_undoLatest 114 = .ok (.istore_n 1, 1) := by decide +kernel
theorem dX1_undoLatest_115 : decode cX1_undoLatest 115 = .ok (.iload_n 1, 1) := by decide +kernel
theorem dX1_undoLatest_116 : decode cX1_undoLatest 116 = .ok (.aload_n 0, 1) := by decide +kernel
theorem dX1_undoLatest_117 : decode cX1_undoLatest 117 = .ok (.getfield 28, 3) := by decide +kernel
theorem dX1_undoLatest_120 : decode cX1_undoLatest 120 = .ok (.getfield 116, 3) := by decide +kernel
theorem dX1_undoLatest_123 : decode cX1_undoLatest 123 = .ok (.if_icmp .ge 34, 3) := by decide +kernel
theorem dX1_undoLatest_126 : decode cX1_undoLatest 126 = .ok (.aload_n 0, 1) := by decide +kernel
theorem dX1_undoLatest_127 : decode cX1_undoLatest 127 = .ok (.getfield 21, 3) := by decide +kernel
theorem dX1_undoLatest_130 : decode cX1_undoLatest 130 = .ok (.aload_n 0, 1) := by decide +kernel
theorem dX1_undoLatest_131 : decode cX1_undoLatest 131 = .ok (.getfield 28, 3) := by decide +kernel
theorem dX1_undoLatest_134 : decode cX1_undoLatest 134 = .ok (.getfield 128, 3) := by decide +kernel
theorem dX1_undoLatest_137 : decode cX1_undoLatest 137 = .ok (.iload_n 1, 1) := by decide +kernel
theorem dX1_undoLatest_138 : decode cX1_undoLatest 138 = .ok (.iaload, 1) := by decide +kernel
theorem dX1_undoLatest_139 : decode cX1_undoLatest 139 = .ok (.aload_n 0, 1) := by decide +kernel
theorem dX1_undoLatest_140 : decode cX1_undoLatest 140 = .ok (.getfield 28, 3) := by decide +kernel
theorem dX1_undoLatest_143 : decode cX1_undoLatest 143 = .ok (.getfield 131, 3) := by decide +kernel
theorem dX1_undoLatest_146 : decode cX1_undoLatest 146 = .ok (.iload_n 1, 1) := by decide +kernel
theorem dX1_undoLatest_147 : decode cX1_undoLatest 147 = .ok (.iaload, 1) := by decide +kernel
theorem dX1_undoLatest_148 : decode cX1_undoLatest 148 = .ok (.invokevirtual 88, 3) := by decide +kernel
theorem dX1_undoLatest_151 : decode cX1_undoLatest 151 = .ok (.iinc 1 1, 3) := by decide +kernel
theorem dX1_undoLatest_154 : decode cX1_undoLatest 154 = .ok (.goto (-39), 3) := by decide +kernel
theorem dX1_undoLatest_157 : decode cX1_undoLatest 157 = .ok (.return_, 1) := by decide +kernel
theorem dX1_allSames_0 : decode cX1_allSames 0 = .ok (.iconst 1, 1) := by decide +kernel
theorem dX1_allSames_1 : decode cX1_allSames 1 = .ok (.aload_n 0, 1) := by decide +kernel
theorem dX1_allSames_2 : decode cX1_allSames 2 = .ok (.getfield 59, 3) := by decide +kernel
theorem dX1_allSames_5 : decode cX1_allSames 5 = .ok (.ishl, 1) := by decide +kernel
theorem dX1_allSames_6 : decode cX1_allSames 6 = .ok (.iconst 1, 1) := by decide +kernel
theorem dX1_allSames_7 : decode cX1_allSames 7 = .ok (.isub, 1) := by decide +kernel
theorem dX1_allSames_8 : decode cX1_allSames 8 = .ok (.ireturn, 1) := by decide +kernel
theorem dX1_closeBy_0 : decode cX1_closeBy 0 = .ok (.aload_n 2, 1) := by decide +kernel
theorem dX1_closeBy_1 : decode cX1_closeBy 1 = .ok (.aload_n 0, 1) := by decide +kernel
theorem dX1_closeBy_2 : decode cX1_closeBy 2 = .ok (.getfield 12, 3) := by decide +kernel
theorem dX1_closeBy_5 : decode cX1_closeBy 5 = .ok (.getfield 122, 3) := by decide +kernel
theorem dX1_closeBy_8 : decode cX1_closeBy 8 = .ok (.invokevirtual 54, 3) := by decide +kernel
theorem dX1_closeBy_11 : decode cX1_closeBy 11 = .ok (.iconst 0, 1) := by decide +kernel
theorem dX1_closeBy_12 : decode cX1_closeBy 12 = .ok (.istore_n 3, 1) := by decide +kernel
theorem dX1_closeBy_13 : decode cX1_closeBy 13 = .ok (.iload_n 3, 1) := by decide +kernel
theorem dX1_closeBy_14 : decode cX1_closeBy 14 = .ok (.aload_n 0, 1) := by decide +kernel
theorem dX1_closeBy_15 : decode cX1_closeBy 15 = .ok (.getfield 59, 3) := by decide +kernel
theorem dX1_closeBy_18 : decode cX1_closeBy 18 = .ok (.if_icmp .ge 33, 3) := by decide +kernel
theorem dX1_closeBy_21 : decode cX1_closeBy 21 = .ok (.iload_n 1, 1) := by decide +kernel
theorem dX1_closeBy_22 : decode cX1_closeBy 22 = .ok (.iload_n 3, 1) := by decide +kernel
theorem dX1_closeBy_23 : decode cX1_closeBy 23 = .ok (.iushr, 1) := by decide +kernel
theorem dX1_closeBy_24 : decode cX1_closeBy 24 = .ok (.iconst 1, 1) := by decide +kernel
theorem dX1_closeBy_25 : decode cX1_closeBy 25 = .ok (.iand, 1) := by decide +kernel
theorem dX1_closeBy_26 : decode cX1_closeBy 26 = .ok (.ifCond .eq 19, 3) := by decide +kernel
theorem dX1_closeBy_29 : decode cX1_closeBy 29 = .ok (.aload_n 2, 1) := by decide +kernel
theorem dX1_closeBy_30 : decode cX1_closeBy 30 = .ok (.aload_n 0, 1) := by decide +kernel
theorem dX1_closeBy_31 : decode cX1_closeBy 31 = .ok (.getfield 32, 3) := by decide +kernel
theorem dX1_closeBy_34 : decode cX1_closeBy 34 = .ok (.iload_n 3, 1) := by decide +kernel
theorem dX1_closeBy_35 : decode cX1_closeBy 35 = .ok (.iaload, 1) := by decide +kernel
theorem dX1_closeBy_36 : decode cX1_closeBy 36 = .ok (.aload_n 0, 1) := by decide +kernel
theorem dX1_closeBy_37 : decode cX1_closeBy 37 = .ok (.getfield 36, 3) := by decide +kernel
theorem dX1_closeBy_40 : decode cX1_closeBy 40 = .ok (.iload_n 3, 1) := by decide +kernel
theorem dX1_closeBy_41 : decode cX1_closeBy 41 = .ok (.iaload, 1) := by decide +kernel
theorem dX1_closeBy_42 : decode cX1_closeBy 42 = .ok (.invokevirtual 88, 3) := by decide +kernel
theorem dX1_closeBy_45 : decode cX1_closeBy 45 = .ok (.iinc 3 1, 3) := by decide +kernel
theorem dX1_closeBy_48 : decode cX1_closeBy 48 = .ok (.goto (-35), 3) := by decide +kernel
theorem dX1_closeBy_51 : decode cX1_closeBy 51 = .ok (.aload_n 0, 1) := by decide +kernel
theorem dX1_closeBy_52 : decode cX1_closeBy 52 = .ok (.getfield 12, 3) := by decide +kernel
theorem dX1_closeBy_55 : decode cX1_closeBy 55 = .ok (.aload_n 2, 1) := by decide +kernel
theorem dX1_closeBy_56 : decode cX1_closeBy 56 = .ok (.invokevirtual 134, 3) := by decide +kernel
theorem dX1_closeBy_59 : decode cX1_closeBy 59 = .ok (.return_, 1) := by decide +kernel
theorem dX1_supposeSame_0 : decode cX1_supposeSame 0 = .ok (.aload_n 3, 1) := by decide +kernel
theorem dX1_supposeSame_1 : decode cX1_supposeSame 1 = .ok (.iload_n 1, 1) := by decide +kernel
theorem dX1_supposeSame_2 : decode cX1_supposeSame 2 = .ok (.iload_n 2, 1) := by decide +kernel
theorem dX1_supposeSame_3 : decode cX1_supposeSame 3 = .ok (.invokevirtual 80, 3) := by decide +kernel
theorem dX1_supposeSame_6 : decode cX1_supposeSame 6 = .ok (.ifCond .ne 17, 3) := by decide +kernel
theorem dX1_supposeSame_9 : decode cX1_supposeSame 9 = .ok (.aload_n 3, 1) := by decide +kernel
theorem dX1_supposeSame_10 : decode cX1_supposeSame 10 = .ok (.iload_n 1, 1) := by decide +kernel
theorem dX1_supposeSame_11 : decode cX1_supposeSame 11 = .ok (.iload_n 2, 1) := by decide +kernel
theorem dX1_supposeSame_12 : decode cX1_supposeSame 12 = .ok (.invokevirtual 88, 3) := by decide +kernel
theorem dX1_supposeSame_15 : decode cX1_supposeSame 15 = .ok (.aload_n 0, 1) := by decide +kernel
theorem dX1_supposeSame_16 : decode cX1_supposeSame 16 = .ok (.getfield 12, 3) := by decide +kernel
theorem dX1_supposeSame_19 : decode cX1_supposeSame 19 = .ok (.aload_n 3, 1) := by decide +kernel
theorem dX1_supposeSame_20 : decode cX1_supposeSame 20 = .ok (.invokevirtual 134, 3) := by decide +kernel
theorem dX1_supposeSame_23 : decode cX1_supposeSame 23 = .ok (.return_, 1) := by decide +kernel
theorem dX1_clashes_0 : decode cX1_clashes 0 = .ok (.aload_n 2, 1) := by decide +kernel
theorem dX1_clashes_1 : decode cX1_clashes 1 = .ok (.aload_n 0, 1) := by decide +kernel
theorem dX1_clashes_2 : decode cX1_clashes 2 = .ok (.getfield 39, 3) := by decide +kernel
theorem dX1_clashes_5 : decode cX1_clashes 5 = .ok (.iload_n 1, 1) := by decide +kernel
theorem dX1_clashes_6 : decode cX1_clashes 6 = .ok (.iaload, 1) := by decide +kernel
theorem dX1_clashes_7 : decode cX1_clashes 7 = .ok (.aload_n 0, 1) := by decide +kernel
theorem dX1_clashes_8 : decode cX1_clashes 8 = .ok (.getfield 42, 3) := by decide +kernel
theorem dX1_clashes_11 : decode cX1_clashes 11 = .ok (.iload_n 1, 1) := by decide +kernel
theorem dX1_clashes_12 : decode cX1_clashes 12 = .ok (.iaload, 1) := by decide +kernel
theorem dX1_clashes_13 : decode cX1_clashes 13 = .ok (.invokevirtual 80, 3) := by decide +kernel
theorem dX1_clashes_16 : decode cX1_clashes 16 = .ok (.ireturn, 1) := by decide +kernel
theorem dX1_firstClash_0 : decode cX1_firstClash 0 = .ok (.iconst 0, 1) := by decide +kernel
theorem dX1_firstClash_1 : decode cX1_firstClash 1 = .ok (.istore_n 2, 1) := by decide +kernel
theorem dX1_firstClash_2 : decode cX1_firstClash 2 = .ok (.iload_n 2, 1) := by decide +kernel
theorem dX1_firstClash_3 : decode cX1_firstClash 3 = .ok (.aload_n 0, 1) := by decide +kernel
theorem dX1_firstClash_4 : decode cX1_firstClash 4 = .ok (.getfield 63, 3) := by decide +kernel
theorem dX1_firstClash_7 : decode cX1_firstClash 7 = .ok (.if_icmp .ge 20, 3) := by decide +kernel
theorem dX1_firstClash_10 : decode cX1_firstClash 10 = .ok (.aload_n 0, 1) := by decide +kernel
theorem dX1_firstClash_11 : decode cX1_firstClash 11 = .ok (.iload_n 2, 1) := by decide +kernel
theorem dX1_firstClash_12 : decode cX1_firstClash 12 = .ok (.aload_n 1, 1) := by decide +kernel
theorem dX1_firstClash_13 : decode cX1_firstClash 13 = .ok (.invokevirtual 138, 3) := by decide +kernel
theorem dX1_firstClash_16 : decode cX1_firstClash 16 = .ok (.ifCond .eq 5, 3) := by decide +kernel
theorem dX1_firstClash_19 : decode cX1_firstClash 19 = .ok (.iload_n 2, 1) := by decide +kernel
theorem dX1_firstClash_20 : decode cX1_firstClash 20 = .ok (.ireturn, 1) := by decide +kernel
theorem dX1_firstClash_21 : decode cX1_firstClash 21 = .ok (.iinc 2 1, 3) := by decide +kernel
theorem dX1_firstClash_24 : decode cX1_firstClash 24 = .ok (.goto (-22), 3) := by decide +kernel
theorem dX1_firstClash_27 : decode cX1_firstClash 27 = .ok (.bipush (-2), 2) := by decide +kernel
theorem dX1_firstClash_29 : decode cX1_firstClash 29 = .ok (.ireturn, 1) := by decide +kernel
theorem dX1_keptApart_0 : decode cX1_keptApart 0 = .ok (.iconst 0, 1) := by decide +kernel
theorem dX1_keptApart_1 : decode cX1_keptApart 1 = .ok (.istore_n 3, 1) := by decide +kernel
theorem dX1_keptApart_2 : decode cX1_keptApart 2 = .ok (.iload_n 3, 1) := by decide +kernel
theorem dX1_keptApart_3 : decode cX1_keptApart 3 = .ok (.aload_n 0, 1) := by decide +kernel
theorem dX1_keptApart_4 : decode cX1_keptApart 4 = .ok (.getfield 63, 3) := by decide +kernel
theorem dX1_keptApart_7 : decode cX1_keptApart 7 = .ok (.if_icmp .ge 79, 3) := by decide +kernel
theorem dX1_keptApart_10 : decode cX1_keptApart 10 = .ok (.aload_n 0, 1) := by decide +kernel
theorem dX1_keptApart_11 : decode cX1_keptApart 11 = .ok (.getfield 39, 3) := by decide +kernel
theorem dX1_keptApart_14 : decode cX1_keptApart 14 = .ok (.iload_n 3, 1) := by decide +kernel
theorem dX1_keptApart_15 : decode cX1_keptApart 15 = .ok (.iaload, 1) := by decide +kernel
theorem dX1_keptApart_16 : decode cX1_keptApart 16 = .ok (.istore 4, 2) := by decide +kernel
theorem dX1_keptApart_18 : decode cX1_keptApart 18 = .ok (.aload_n 0, 1) := by decide +kernel
theorem dX1_keptApart_19 : decode cX1_keptApart 19 = .ok (.getfield 42, 3) := by decide +kernel
theorem dX1_keptApart_22 : decode cX1_keptApart 22 = .ok (.iload_n 3, 1) := by decide +kernel
theorem dX1_keptApart_23 : decode cX1_keptApart 23 = .ok (.iaload, 1) := by decide +kernel
theorem dX1_keptApart_24 : decode cX1_keptApart 24 = .ok (.istore 5, 2) := by decide +kernel
theorem dX1_keptApart_26 : decode cX1_keptApart 26 = .ok (.aload_n 0, 1) := by decide +kernel
theorem dX1_keptApart_27 : decode cX1_keptApart 27 = .ok (.getfield 21, 3) := by decide +kernel
theorem dX1_keptApart_30 : decode cX1_keptApart 30 = .ok (.iload_n 1, 1) := by decide +kernel
theorem dX1_keptApart_31 : decode cX1_keptApart 31 = .ok (.iload 4, 2) := by decide +kernel
theorem dX1_keptApart_33 : decode cX1_keptApart 33 = .ok (.invokevirtual 80, 3) := by decide +kernel
theorem dX1_keptApart_36 : decode cX1_keptApart 36 = .ok (.ifCond .eq 16, 3) := by decide +kernel
theorem dX1_keptApart_39 : decode cX1_keptApart 39 = .ok (.aload_n 0, 1) := by decide +kernel
theorem dX1_keptApart_40 : decode cX1_keptApart 40 = .ok (.getfield 21, 3) := by decide +kernel
theorem dX1_keptApart_43 : decode cX1_keptApart 43 = .ok (.iload_n 2, 1) := by decide +kernel
theorem dX1_keptApart_44 : decode cX1_keptApart 44 = .ok (.iload 5, 2) := by decide +kernel
theorem dX1_keptApart_46 : decode cX1_keptApart 46 = .ok (.invokevirtual 80, 3) := by decide +kernel
theorem dX1_keptApart_49 : decode cX1_keptApart 49 = .ok (.ifCond .ne 29, 3) := by decide +kernel
theorem dX1_keptApart_52 : decode cX1_keptApart 52 = .ok (.aload_n 0, 1) := by decide +kernel
theorem dX1_keptApart_53 : decode cX1_keptApart 53 = .ok (.getfield 21, 3) := by decide +kernel
theorem dX1_keptApart_56 : decode cX1_keptApart 56 = .ok (.iload_n 1, 1) := by decide +kernel
theorem dX1_keptApart_57 : decode cX1_keptApart 57 = .ok (.iload 5, 2) := by decide +kernel
theorem dX1_keptApart_59 : decode cX1_keptApart 59 = .ok (.invokevirtual 80, 3) := by decide +kernel
theorem dX1_keptApart_62 : decode cX1_keptApart 62 = .ok (.ifCond .eq 18, 3) := by decide +kernel
theorem dX1_keptApart_65 : decode cX1_keptApart 65 = .ok (.aload_n 0, 1) := by decide +kernel
theorem dX1_keptApart_66 : decode cX1_keptApart 66 = .ok (.getfield 21, 3) := by decide +kernel
theorem dX1_keptApart_69 : decode cX1_keptApart 69 = .ok (.iload_n 2, 1) := by decide +kernel
theorem dX1_keptApart_70 : decode cX1_keptApart 70 = .ok (.iload 4, 2) := by decide +kernel
theorem dX1_keptApart_72 : decode cX1_keptApart 72 = .ok (.invokevirtual 80, 3) := by decide +kernel
theorem dX1_keptApart_75 : decode cX1_keptApart 75 = .ok (.ifCond .eq 5, 3) := by decide +kernel
theorem dX1_keptApart_78 : decode cX1_keptApart 78 = .ok (.iconst 1, 1) := by decide +kernel
theorem dX1_keptApart_79 : decode cX1_keptApart 79 = .ok (.ireturn, 1) := by decide +kernel
theorem dX1_keptApart_80 : decode cX1_keptApart 80 = .ok (.iinc 3 1, 3) := by decide +kernel
theorem dX1_keptApart_83 : decode cX1_keptApart 83 = .ok (.goto (-81), 3) := by decide +kernel
theorem dX1_keptApart_86 : decode cX1_keptApart 86 = .ok (.iconst 0, 1) := by decide +kernel
theorem dX1_keptApart_87 : decode cX1_keptApart 87 = .ok (.ireturn, 1) := by decide +kernel
theorem dX2_init_0 : decode cX2_init 0 = .ok (.aload_n 0, 1) := by decide +kernel
theorem dX2_init_1 : decode cX2_init 1 = .ok (.invokespecial 3, 3) := by decide +kernel
theorem dX2_init_4 : decode cX2_init 4 = .ok (.aload_n 0, 1) := by decide +kernel
theorem dX2_init_5 : decode cX2_init 5 = .ok (.bipush 24, 2) := by decide +kernel
theorem dX2_init_7 : decode cX2_init 7 = .ok (.newarray .int, 2) := by decide +kernel
theorem dX2_init_9 : decode cX2_init 9 = .ok (.putfield 9, 3) := by decide +kernel
theorem dX2_init_12 : decode cX2_init 12 = .ok (.aload_n 0, 1) := by decide +kernel
theorem dX2_init_13 : decode cX2_init 13 = .ok (.bipush 24, 2) := by decide +kernel
theorem dX2_init_15 : decode cX2_init 15 = .ok (.newarray .int, 2) := by decide +kernel
theorem dX2_init_17 : decode cX2_init 17 = .ok (.putfield 15, 3) := by decide +kernel
theorem dX2_init_20 : decode cX2_init 20 = .ok (.aload_n 0, 1) := by decide +kernel
theorem dX2_init_21 : decode cX2_init 21 = .ok (.bipush 24, 2) := by decide +kernel
theorem dX2_init_23 : decode cX2_init 23 = .ok (.newarray .int, 2) := by decide +kernel
theorem dX2_init_25 : decode cX2_init 25 = .ok (.putfield 18, 3) := by decide +kernel
theorem dX2_init_28 : decode cX2_init 28 = .ok (.aload_n 0, 1) := by decide +kernel
theorem dX2_init_29 : decode cX2_init 29 = .ok (.bipush 24, 2) := by decide +kernel
theorem dX2_init_31 : decode cX2_init 31 = .ok (.newarray .int, 2) := by decide +kernel
theorem dX2_init_33 : decode cX2_init 33 = .ok (.putfield 21, 3) := by decide +kernel
theorem dX2_init_36 : decode cX2_init 36 = .ok (.aload_n 0, 1) := by decide +kernel
theorem dX2_init_37 : decode cX2_init 37 = .ok (.bipush 24, 2) := by decide +kernel
theorem dX2_init_39 : decode cX2_init 39 = .ok (.newarray .int, 2) := by decide +kernel
theorem dX2_init_41 : decode cX2_init 41 = .ok (.putfield 24, 3) := by decide +kernel
theorem dX2_init_44 : decode cX2_init 44 = .ok (.aload_n 0, 1) := by decide +kernel
theorem dX2_init_45 : decode cX2_init 45 = .ok (.bipush 24, 2) := by decide +kernel
theorem dX2_init_47 : decode cX2_init 47 = .ok (.newarray .int, 2) := by decide +kernel
theorem dX2_init_49 : decode cX2_init 49 = .ok (.putfield 27, 3) := by decide +kernel
theorem dX2_init_52 : decode cX2_init 52 = .ok (.return_, 1) := by decide +kernel
theorem dX2_clear_0 : decode cX2_clear 0 = .ok (.aload_n 0, 1) := by decide +kernel
theorem dX2_clear_1 : decode cX2_clear 1 = .ok (.iconst 0, 1) := by decide +kernel
theorem dX2_clear_2 : decode cX2_clear 2 = .ok (.putfield 30, 3) := by decide +kernel
theorem dX2_clear_5 : decode cX2_clear 5 = .ok (.aload_n 0, 1) := by decide +kernel
theorem dX2_clear_6 : decode cX2_clear 6 = .ok (.iconst 0, 1) := by decide +kernel
theorem dX2_clear_7 : decode cX2_clear 7 = .ok (.putfield 34, 3) := by decide +kernel
theorem dX2_clear_10 : decode cX2_clear 10 = .ok (.return_, 1) := by decide +kernel
theorem dX2_addLone_0 : decode cX2_addLone 0 = .ok (.aload_n 0, 1) := by decide +kernel
theorem dX2_addLone_1 : decode cX2_addLone 1 = .ok (.getfield 30, 3) := by decide +kernel
theorem dX2_addLone_4 : decode cX2_addLone 4 = .ok (.bipush 24, 2) := by decide +kernel
theorem dX2_addLone_6 : decode cX2_addLone 6 = .ok (.if_icmp .ge 33, 3) := by decide +kernel
theorem dX2_addLone_9 : decode cX2_addLone 9 = .ok (.aload_n 0, 1) := by decide +kernel
theorem dX2_addLone_10 : decode cX2_addLone 10 = .ok (.getfield 9, 3) := by decide +kernel
theorem dX2_addLone_13 : decode cX2_addLone 13 = .ok (.aload_n 0, 1) := by decide +kernel
theorem dX2_addLone_14 : decode cX2_addLone 14 = .ok (.getfield 30, 3) := by decide +kernel
theorem dX2_addLone_17 : decode cX2_addLone 17 = .ok (.iconst (-1), 1) := by decide +kernel
theorem dX2_addLone_18 : decode cX2_addLone 18 = .ok (.iastore, 1) := by decide +kernel
theorem dX2_addLone_19 : decode cX2_addLone 19 = .ok (.aload_n 0, 1) := by decide +kernel
theorem dX2_addLone_20 : decode cX2_addLone 20 = .ok (.getfield 15, 3) := by decide +kernel
theorem dX2_addLone_23 : decode cX2_addLone 23 = .ok (.aload_n 0, 1) := by decide +kernel
theorem dX2_addLone_24 : decode cX2_addLone 24 = .ok (.getfield 30, 3) := by decide +kernel
theorem dX2_addLone_27 : decode cX2_addLone 27 = .ok (.iconst (-1), 1) := by decide +kernel
theorem dX2_addLone_28 : decode cX2_addLone 28 = .ok (.iastore, 1) := by decide +kernel
theorem dX2_addLone_29 : decode cX2_addLone 29 = .ok (.aload_n 0, 1) := by decide +kernel
theorem dX2_addLone_30 : decode cX2_addLone 30 = .ok (.dup, 1) := by decide +kernel
theorem dX2_addLone_31 : decode cX2_addLone 31 = .ok (.getfield 30, 3) := by decide +kernel
theorem dX2_addLone_34 : decode cX2_addLone 34 = .ok (.iconst 1, 1) := by decide +kernel
theorem dX2_addLone_35 : decode cX2_addLone 35 = .ok (.iadd, 1) := by decide +kernel
theorem dX2_addLone_36 : decode cX2_addLone 36 = .ok (.putfield 30, 3) := by decide +kernel
theorem dX2_addLone_39 : decode cX2_addLone 39 = .ok (.return_, 1) := by decide +kernel
theorem dX2_addJoin_0 : decode cX2_addJoin 0 = .ok (.aload_n 0, 1) := by decide +kernel
theorem dX2_addJoin_1 : decode cX2_addJoin 1 = .ok (.getfield 34, 3) := by decide +kernel
theorem dX2_addJoin_4 : decode cX2_addJoin 4 = .ok (.bipush 24, 2) := by decide +kernel
theorem dX2_addJoin_6 : decode cX2_addJoin 6 = .ok (.if_icmp .lt 4, 3) := by decide +kernel
theorem dX2_addJoin_9 : decode cX2_addJoin 9 = .ok (.return_, 1) := by decide +kernel
theorem dX2_addJoin_10 : decode cX2_addJoin 10 = .ok (.aload_n 0, 1) := by decide +kernel
theorem dX2_addJoin_11 : decode cX2_addJoin 11 = .ok (.getfield 18, 3) := by decide +kernel
theorem dX2_addJoin_14 : decode cX2_addJoin 14 = .ok (.aload_n 0, 1) := by decide +kernel
theorem dX2_addJoin_15 : decode cX2_addJoin 15 = .ok (.getfield 34, 3) := by decide +kernel
theorem dX2_addJoin_18 : decode cX2_addJoin 18 = .ok (.iload_n 1, 1) := by decide +kernel
theorem dX2_addJoin_19 : decode cX2_addJoin 19 = .ok (.iastore, 1) := by decide +kernel
theorem dX2_addJoin_20 : decode cX2_addJoin 20 = .ok (.aload_n 0, 1) := by decide +kernel
theorem dX2_addJoin_21 : decode cX2_addJoin 21 = .ok (.getfield 21, 3) := by decide +kernel
theorem dX2_addJoin_24 : decode cX2_addJoin 24 = .ok (.aload_n 0, 1) := by decide +kernel
theorem dX2_addJoin_25 : decode cX2_addJoin 25 = .ok (.getfield 34, 3) := by decide +kernel
theorem dX2_addJoin_28 : decode cX2_addJoin 28 = .ok (.iload_n 2, 1) := by decide +kernel
theorem dX2_addJoin_29 : decode cX2_addJoin 29 = .ok (.iastore, 1) := by decide +kernel
theorem dX2_addJoin_30 : decode cX2_addJoin 30 = .ok (.aload_n 0, 1) := by decide +kernel
theorem dX2_addJoin_31 : decode cX2_addJoin 31 = .ok (.getfield 24, 3) := by decide +kernel
theorem dX2_addJoin_34 : decode cX2_addJoin 34 = .ok (.aload_n 0, 1) := by decide +kernel
theorem dX2_addJoin_35 : decode cX2_addJoin 35 = .ok (.getfield 34, 3) := by decide +kernel
theorem dX2_addJoin_38 : decode cX2_addJoin 38 = .ok (.iload_n 3, 1) := by decide +kernel
theorem dX2_addJoin_39 : decode cX2_addJoin 39 = .ok (.iastore, 1) := by decide +kernel
theorem dX2_addJoin_40 : decode cX2_addJoin 40 = .ok (.aload_n 0, 1) := by decide +kernel
theorem dX2_addJoin_41 : decode cX2_addJoin 41 = .ok (.getfield 27, 3) := by decide +kernel
theorem dX2_addJoin_44 : decode cX2_addJoin 44 = .ok (.aload_n 0, 1) := by decide +kernel
theorem dX2_addJoin_45 : decode cX2_addJoin 45 = .ok (.getfield 34, 3) := by decide +kernel
theorem dX2_addJoin_48 : decode cX2_addJoin 48 = .ok (.iload 4, 2) := by decide +kernel
theorem dX2_addJoin_50 : decode cX2_addJoin 50 = .ok (.iastore, 1) := by decide +kernel
theorem dX2_addJoin_51 : decode cX2_addJoin 51 = .ok (.aload_n 0, 1) := by decide +kernel
theorem dX2_addJoin_52 : decode cX2_addJoin 52 = .ok (.aload_n 0, 1) := by decide +kernel
theorem dX2_addJoin_53 : decode cX2_addJoin 53 = .ok (.getfield 34, 3) := by decide +kernel
theorem dX2_addJoin_56 : decode cX2_addJoin 56 = .ok (.invokevirtual 37, 3) := by decide +kernel
theorem dX2_addJoin_59 : decode cX2_addJoin 59 = .ok (.aload_n 0, 1) := by decide +kernel
theorem dX2_addJoin_60 : decode cX2_addJoin 60 = .ok (.dup, 1) := by decide +kernel
theorem dX2_addJoin_61 : decode cX2_addJoin 61 = .ok (.getfield 34, 3) := by decide +kernel
theorem dX2_addJoin_64 : decode cX2_addJoin 64 = .ok (.iconst 1, 1) := by decide +kernel
theorem dX2_addJoin_65 : decode cX2_addJoin 65 = .ok (.iadd, 1) := by decide +kernel
theorem dX2_addJoin_66 : decode cX2_addJoin 66 = .ok (.putfield 34, 3) := by decide +kernel
theorem dX2_addJoin_69 : decode cX2_addJoin 69 = .ok (.return_, 1) := by decide +kernel
theorem dX2_hang_0 : decode cX2_hang 0 = .ok (.aload_n 0, 1) := by decide +kernel
theorem dX2_hang_1 : decode cX2_hang 1 = .ok (.getfield 18, 3) := by decide +kernel
theorem dX2_hang_4 : decode cX2_hang 4 = .ok (.iload_n 1, 1) := by decide +kernel
theorem dX2_hang_5 : decode cX2_hang 5 = .ok (.iaload, 1) := by decide +kernel
theorem dX2_hang_6 : decode cX2_hang 6 = .ok (.istore_n 2, 1) := by decide +kernel
theorem dX2_hang_7 : decode cX2_hang 7 = .ok (.iload_n 1, 1) := by decide +kernel
theorem dX2_hang_8 : decode cX2_hang 8 = .ok (.istore_n 3, 1) := by decide +kernel
theorem dX2_hang_9 : decode cX2_hang 9 = .ok (.aload_n 0, 1) := by decide +kernel
theorem dX2_hang_10 : decode cX2_hang 10 = .ok (.getfield 21, 3) := by decide +kernel
theorem dX2_hang_13 : decode cX2_hang 13 = .ok (.iload_n 1, 1) := by decide +kernel
theorem dX2_hang_14 : decode cX2_hang 14 = .ok (.iaload, 1) := by decide +kernel
theorem dX2_hang_15 : decode cX2_hang 15 = .ok (.istore 4, 2) := by decide +kernel
theorem dX2_hang_17 : decode cX2_hang 17 = .ok (.iconst 0, 1) := by decide +kernel
theorem dX2_hang_18 : decode cX2_hang 18 = .ok (.istore 5, 2) := by decide +kernel
theorem dX2_hang_20 : decode cX2_hang 20 = .ok (.iload 5, 2) := by decide +kernel
theorem dX2_hang_22 : decode cX2_hang 22 = .ok (.bipush 24, 2) := by decide +kernel
theorem dX2_hang_24 : decode cX2_hang 24 = .ok (.if_icmp .ge 58, 3) := by decide +kernel
theorem dX2_hang_27 : decode cX2_hang 27 = .ok (.iload 4, 2) := by decide +kernel
theorem dX2_hang_29 : decode cX2_hang 29 = .ok (.ifCond .lt 53, 3) := by decide +kernel
theorem dX2_hang_32 : decode cX2_hang 32 = .ok (.aload_n 0, 1) := by decide +kernel
theorem dX2_hang_33 : decode cX2_hang 33 = .ok (.getfield 9, 3) := by decide +kernel
theorem dX2_hang_36 : decode cX2_hang 36 = .ok (.iload 4, 2) := by decide +kernel
theorem dX2_hang_38 : decode cX2_hang 38 = .ok (.iaload, 1) := by decide +kernel
theorem dX2_hang_39 : decode cX2_hang 39 = .ok (.istore 6, 2) := by decide +kernel
theorem dX2_hang_41 : decode cX2_hang 41 = .ok (.aload_n 0, 1) := by decide +kernel
theorem dX2_hang_42 : decode cX2_hang 42 = .ok (.getfield 15, 3) := by decide +kernel
theorem dX2_hang_45 : decode cX2_hang 45 = .ok (.iload 4, 2) := by decide +kernel
theorem dX2_hang_47 : decode cX2_hang 47 = .ok (.iaload, 1) := by decide +kernel
theorem dX2_hang_48 : decode cX2_hang 48 = .ok (.istore 7, 2) := by decide +kernel
theorem dX2_hang_50 : decode cX2_hang 50 = .ok (.aload_n 0, 1) := by decide +kernel
theorem dX2_hang_51 : decode cX2_hang 51 = .ok (.getfield 9, 3) := by decide +kernel
theorem dX2_hang_54 : decode cX2_hang 54 = .ok (.iload 4, 2) := by decide +kernel
theorem dX2_hang_56 : decode cX2_hang 56 = .ok (.iload_n 2, 1) := by decide +kernel
theorem dX2_hang_57 : decode cX2_hang 57 = .ok (.iastore, 1) := by decide +kernel
theorem dX2_hang_58 : decode cX2_hang 58 = .ok (.aload_n 0, 1) := by decide +kernel
theorem dX2_hang_59 : decode cX2_hang 59 = .ok (.getfield 15, 3) := by decide +kernel
theorem dX2_hang_62 : decode cX2_hang 62 = .ok (.iload 4, 2) := by decide +kernel
theorem dX2_hang_64 : decode cX2_hang 64 = .ok (.iload_n 3, 1) := by decide +kernel
theorem dX2_hang_65 : decode cX2_hang 65 = .ok (.iastore, 1) := by decide +kernel
theorem dX2_hang_66 : decode cX2_hang 66 = .ok (.iload 4, 2) := by decide +kernel
theorem dX2_hang_68 : decode cX2_hang 68 = .ok (.istore_n 2, 1) := by decide +kernel
theorem dX2_hang_69 : decode cX2_hang 69 = .ok (.iload 7, 2) := by decide +kernel
theorem dX2_hang_71 : decode cX2_hang 71 = .ok (.istore_n 3, 1) := by decide +kernel
theorem dX2_hang_72 : decode cX2_hang 72 = .ok (.iload 6, 2) := by decide +kernel
theorem dX2_hang_74 : decode cX2_hang 74 = .ok (.istore 4, 2) := by decide +kernel
theorem dX2_hang_76 : decode cX2_hang 76 = .ok (.iinc 5 1, 3) := by decide +kernel
theorem dX2_hang_79 : decode cX2_hang 79 = .ok (.goto (-59), 3) := by decide +kernel
theorem dX2_hang_82 : decode cX2_hang 82 = .ok (.return_, 1) := by decide +kernel
theorem dX2_cutBack_0 : decode cX2_cutBack 0 = .ok (.aload_n 0, 1) := by decide +kernel
theorem dX2_cutBack_1 : decode cX2_cutBack 1 = .ok (.iconst 0, 1) := by decide +kernel
theorem dX2_cutBack_2 : decode cX2_cutBack 2 = .ok (.putfield 30, 3) := by decide +kernel
theorem dX2_cutBack_5 : decode cX2_cutBack 5 = .ok (.iconst 0, 1) := by decide +kernel
theorem dX2_cutBack_6 : decode cX2_cutBack 6 = .ok (.istore_n 3, 1) := by decide +kernel
theorem dX2_cutBack_7 : decode cX2_cutBack 7 = .ok (.iload_n 3, 1) := by decide +kernel
theorem dX2_cutBack_8 : decode cX2_cutBack 8 = .ok (.iload_n 1, 1) := by decide +kernel
theorem dX2_cutBack_9 : decode cX2_cutBack 9 = .ok (.if_icmp .ge 13, 3) := by decide +kernel
theorem dX2_cutBack_12 : decode cX2_cutBack 12 = .ok (.aload_n 0, 1) := by decide +kernel
theorem dX2_cutBack_13 : decode cX2_cutBack 13 = .ok (.invokevirtual 41, 3) := by decide +kernel
theorem dX2_cutBack_16 : decode cX2_cutBack 16 = .ok (.iinc 3 1, 3) := by decide +kernel
theorem dX2_cutBack_19 : decode cX2_cutBack 19 = .ok (.goto (-12), 3) := by decide +kernel
theorem dX2_cutBack_22 : decode cX2_cutBack 22 = .ok (.aload_n 0, 1) := by decide +kernel
theorem dX2_cutBack_23 : decode cX2_cutBack 23 = .ok (.iload_n 2, 1) := by decide +kernel
theorem dX2_cutBack_24 : decode cX2_cutBack 24 = .ok (.putfield 34, 3) := by decide +kernel
theorem dX2_cutBack_27 : decode cX2_cutBack 27 = .ok (.iconst 0, 1) := by decide +kernel
theorem dX2_cutBack_28 : decode cX2_cutBack 28 = .ok (.istore_n 3, 1) := by decide +kernel
theorem dX2_cutBack_29 : decode cX2_cutBack 29 = .ok (.iload_n 3, 1) := by decide +kernel
theorem dX2_cutBack_30 : decode cX2_cutBack 30 = .ok (.aload_n 0, 1) := by decide +kernel
theorem dX2_cutBack_31 : decode cX2_cutBack 31 = .ok (.getfield 34, 3) := by decide +kernel
theorem dX2_cutBack_34 : decode cX2_cutBack 34 = .ok (.if_icmp .ge 14, 3) := by decide +kernel
theorem dX2_cutBack_37 : decode cX2_cutBack 37 = .ok (.aload_n 0, 1) := by decide +kernel
theorem dX2_cutBack_38 : decode cX2_cutBack 38 = .ok (.iload_n 3, 1) := by decide +kernel
theorem dX2_cutBack_39 : decode cX2_cutBack 39 = .ok (.invokevirtual 37, 3) := by decide +kernel
theorem dX2_cutBack_42 : decode cX2_cutBack 42 = .ok (.iinc 3 1, 3) := by decide +kernel
theorem dX2_cutBack_45 : decode cX2_cutBack 45 = .ok (.goto (-16), 3) := by decide +kernel
theorem dX2_cutBack_48 : decode cX2_cutBack 48 = .ok (.return_, 1) := by decide +kernel
theorem dX2_stepsUp_0 : decode cX2_stepsUp 0 = .ok (.iconst 0, 1) := by decide +kernel
theorem dX2_stepsUp_1 : decode cX2_stepsUp 1 = .ok (.istore_n 2, 1) := by decide +kernel
theorem dX2_stepsUp_2 : decode cX2_stepsUp 2 = .ok (.aload_n 0, 1) := by decide +kernel
theorem dX2_stepsUp_3 : decode cX2_stepsUp 3 = .ok (.getfield 9, 3) := by decide +kernel
theorem dX2_stepsUp_6 : decode cX2_stepsUp 6 = .ok (.iload_n 1, 1) := by decide +kernel
theorem dX2_stepsUp_7 : decode cX2_stepsUp 7 = .ok (.iaload, 1) := by decide +kernel
theorem dX2_stepsUp_8 : decode cX2_stepsUp 8 = .ok (.istore_n 3, 1) := by decide +kernel
theorem dX2_stepsUp_9 : decode cX2_stepsUp 9 = .ok (.iload_n 3, 1) := by decide +kernel
theorem dX2_stepsUp_10 : decode cX2_stepsUp 10 = .ok (.ifCond .lt 22, 3) := by decide +kernel
theorem dX2_stepsUp_13 : decode cX2_stepsUp 13 = .ok (.iload_n 2, 1) := by decide +kernel
theorem dX2_stepsUp_14 : decode cX2_stepsUp 14 = .ok (.bipush 24, 2) := by decide +kernel
theorem dX2_stepsUp_16 : decode cX2_stepsUp 16 = .ok (.if_icmp .ge 16, 3) := by decide +kernel
theorem dX2_stepsUp_19 : decode cX2_stepsUp 19 = .ok (.iinc 2 1, 3) := by decide +kernel
theorem dX2_stepsUp_22 : decode cX2_stepsUp 22 = .ok (.aload_n 0, 1) := by decide +kernel
theorem dX2_stepsUp_23 : decode cX2_stepsUp 23 = .ok (.getfield 9, 3) := by decide +kernel
theorem dX2_stepsUp_26 : decode cX2_stepsUp 26 = .ok (.iload_n 3, 1) := by decide +kernel
theorem dX2_stepsUp_27 : decode cX2_stepsUp 27 = .ok (.iaload, 1) := by decide +kernel
theorem dX2_stepsUp_28 : decode cX2_stepsUp 28 = .ok (.istore_n 3, 1) := by decide +kernel
theorem dX2_stepsUp_29 : decode cX2_stepsUp 29 = .ok (.goto (-20), 3) := by decide +kernel
theorem dX2_stepsUp_32 : decode cX2_stepsUp 32 = .ok (.iload_n 2, 1) := by decide +kernel
theorem dX2_stepsUp_33 : decode cX2_stepsUp 33 = .ok (.ireturn, 1) := by decide +kernel
theorem dX2_hangingOn_0 : decode cX2_hangingOn 0 = .ok (.iconst 0, 1) := by decide +kernel
theorem dX2_hangingOn_1 : decode cX2_hangingOn 1 = .ok (.istore_n 3, 1) := by decide +kernel
theorem dX2_hangingOn_2 : decode cX2_hangingOn 2 = .ok (.iconst 0, 1) := by decide +kernel
theorem dX2_hangingOn_3 : decode cX2_hangingOn 3 = .ok (.istore 4, 2) := by decide +kernel
theorem dX2_hangingOn_5 : decode cX2_hangingOn 5 = .ok (.iload 4, 2) := by decide +kernel
theorem dX2_hangingOn_7 : decode cX2_hangingOn 7 = .ok (.aload_n 0, 1) := by decide +kernel
theorem dX2_hangingOn_8 : decode cX2_hangingOn 8 = .ok (.getfield 30, 3) := by decide +kernel
theorem dX2_hangingOn_11 : decode cX2_hangingOn 11 = .ok (.if_icmp .ge 31, 3) := by decide +kernel
theorem dX2_hangingOn_14 : decode cX2_hangingOn 14 = .ok (.aload_n 0, 1) := by decide +kernel
theorem dX2_hangingOn_15 : decode cX2_hangingOn 15 = .ok (.getfield 9, 3) := by decide +kernel
theorem dX2_hangingOn_18 : decode cX2_hangingOn 18 = .ok (.iload 4, 2) := by decide +kernel
theorem dX2_hangingOn_20 : decode cX2_hangingOn 20 = .ok (.iaload, 1) := by decide +kernel
theorem dX2_hangingOn_21 : decode cX2_hangingOn 21 = .ok (.iload_n 1, 1) := by decide +kernel
theorem dX2_hangingOn_22 : decode cX2_hangingOn 22 = .ok (.if_icmp .ne 14, 3) := by decide +kernel
theorem dX2_hangingOn_25 : decode cX2_hangingOn 25 = .ok (.iload_n 3, 1) := by decide +kernel
theorem dX2_hangingOn_26 : decode cX2_hangingOn 26 = .ok (.iload_n 2, 1) := by decide +kernel
theorem dX2_hangingOn_27 : decode cX2_hangingOn 27 = .ok (.if_icmp .ne 6, 3) := by decide +kernel
theorem dX2_hangingOn_30 : decode cX2_hangingOn 30 = .ok (.iload 4, 2) := by decide +kernel
theorem dX2_hangingOn_32 : decode cX2_hangingOn 32 = .ok (.ireturn, 1) := by decide +kernel
theorem dX2_hangingOn_33 : decode cX2_hangingOn 33 = .ok (.iinc 3 1, 3) := by decide +kernel
theorem dX2_hangingOn_36 : decode cX2_hangingOn 36 = .ok (.iinc 4 1, 3) := by decide +kernel
theorem dX2_hangingOn_39 : decode cX2_hangingOn 39 = .ok (.goto (-34), 3) := by decide +kernel
theorem dX2_hangingOn_42 : decode cX2_hangingOn 42 = .ok (.bipush (-2), 2) := by decide +kernel
theorem dX2_hangingOn_44 : decode cX2_hangingOn 44 = .ok (.ireturn, 1) := by decide +kernel
theorem dX2_reasonsBetween_0 : decode cX2_reasonsBetween 0 = .ok (.iconst 1, 1) := by decide +kernel
theorem dX2_reasonsBetween_1 : decode cX2_reasonsBetween 1 = .ok (.iload_n 1, 1) := by decide +kernel
theorem dX2_reasonsBetween_2 : decode cX2_reasonsBetween 2 = .ok (.ishl, 1) := by decide +kernel
theorem dX2_reasonsBetween_3 : decode cX2_reasonsBetween 3 = .ok (.istore_n 3, 1) := by decide +kernel
theorem dX2_reasonsBetween_4 : decode cX2_reasonsBetween 4 = .ok (.iload_n 1, 1) := by decide +kernel
theorem dX2_reasonsBetween_5 : decode cX2_reasonsBetween 5 = .ok (.istore 4, 2) := by decide +kernel
theorem dX2_reasonsBetween_7 : decode cX2_reasonsBetween 7 = .ok (.iconst 0, 1) := by decide +kernel
theorem dX2_reasonsBetween_8 : decode cX2_reasonsBetween 8 = .ok (.istore 5, 2) := by decide +kernel
theorem dX2_reasonsBetween_10 : decode cX2_reasonsBetween 10 = .ok (.iload 5, 2) := by decide +kernel
theorem dX2_reasonsBetween_12 : decode cX2_reasonsBetween 12 = .ok (.bipush 24, 2) := by decide +kernel
theorem dX2_reasonsBetween_14 : decode cX2_reasonsBetween 14 = .ok (.if_icmp .ge 35, 3) := by decide +kernel
theorem dX2_reasonsBetween_17 : decode cX2_reasonsBetween 17 = .ok (.aload_n 0, 1) := by decide +kernel
theorem dX2_reasonsBetween_18 : decode cX2_reasonsBetween 18 = .ok (.getfield 9, 3) := by decide +kernel
theorem dX2_reasonsBetween_21 : decode cX2_reasonsBetween 21 = .ok (.iload 4, 2) := by decide +kernel
theorem dX2_reasonsBetween_23 : decode cX2_reasonsBetween 23 = .ok (.iaload, 1) := by decide +kernel
theorem dX2_reasonsBetween_24 : decode cX2_reasonsBetween 24 = .ok (.ifCond .lt 25, 3) := by decide +kernel
theorem dX2_reasonsBetween_27 : decode cX2_reasonsBetween 27 = .ok (.aload_n 0, 1) := by decide +kernel
theorem dX2_reasonsBetween_28 : decode cX2_reasonsBetween 28 = .ok (.getfield 9, 3) := by decide +kernel
theorem dX2_reasonsBetween_31 : decode cX2_reasonsBetween 31 = .ok (.iload 4, 2) := by decide +kernel
theorem dX2_reasonsBetween_33 : decode cX2_reasonsBetween 33 = .ok (.iaload, 1) := by decide +kernel
theorem dX2_reasonsBetween_34 : decode cX2_reasonsBetween 34 = .ok (.istore 4, 2) := by decide +kernel
theorem dX2_reasonsBetween_36 : decode cX2_reasonsBetween 36 = .ok (.iload_n 3, 1) := by decide +kernel
theorem dX2_reasonsBetween_37 : decode cX2_reasonsBetween 37 = .ok (.iconst 1, 1) := by decide +kernel
theorem dX2_reasonsBetween_38 : decode cX2_reasonsBetween 38 = .ok (.iload 4, 2) := by decide +kernel
theorem dX2_reasonsBetween_40 : decode cX2_reasonsBetween 40 = .ok (.ishl, 1) := by decide +kernel
theorem dX2_reasonsBetween_41 : decode cX2_reasonsBetween 41 = .ok (.ior, 1) := by decide +kernel
theorem dX2_reasonsBetween_42 : decode cX2_reasonsBetween 42 = .ok (.istore_n 3, 1) := by decide +kernel
theorem dX2_reasonsBetween_43 : decode cX2_reasonsBetween 43 = .ok (.iinc 5 1, 3) := by decide +kernel
theorem dX2_reasonsBetween_46 : decode cX2_reasonsBetween 46 = .ok (.goto (-36), 3) := by decide +kernel
theorem dX2_reasonsBetween_49 : decode cX2_reasonsBetween 49 = .ok (.iconst 0, 1) := by decide +kernel
theorem dX2_reasonsBetween_50 : decode cX2_reasonsBetween 50 = .ok (.istore 5, 2) := by decide +kernel
theorem dX2_reasonsBetween_52 : decode cX2_reasonsBetween 52 = .ok (.iload_n 2, 1) := by decide +kernel
theorem dX2_reasonsBetween_53 : decode cX2_reasonsBetween 53 = .ok (.istore 6, 2) := by decide +kernel
theorem dX2_reasonsBetween_55 : decode cX2_reasonsBetween 55 = .ok (.iconst 0, 1) := by decide +kernel
theorem dX2_reasonsBetween_56 : decode cX2_reasonsBetween 56 = .ok (.istore 7, 2) := by decide +kernel
theorem dX2_reasonsBetween_58 : decode cX2_reasonsBetween 58 = .ok (.iload 7, 2) := by decide +kernel
theorem dX2_reasonsBetween_60 : decode cX2_reasonsBetween 60 = .ok (.bipush 24, 2) := by decide +kernel
theorem dX2_reasonsBetween_62 : decode cX2_reasonsBetween 62 = .ok (.if_icmp .ge 54, 3) := by decide +kernel
theorem dX2_reasonsBetween_65 : decode cX2_reasonsBetween 65 = .ok (.iload_n 3, 1) := by decide +kernel
theorem dX2_reasonsBetween_66 : decode cX2_reasonsBetween 66 = .ok (.iload 6, 2) := by decide +kernel
theorem dX2_reasonsBetween_68 : decode cX2_reasonsBetween 68 = .ok (.iushr, 1) := by decide +kernel
theorem dX2_reasonsBetween_69 : decode cX2_reasonsBetween 69 = .ok (.iconst 1, 1) := by decide +kernel
theorem dX2_reasonsBetween_70 : decode cX2_reasonsBetween 70 = .ok (.iand, 1) := by decide +kernel
theorem dX2_reasonsBetween_71 : decode cX2_reasonsBetween 71 = .ok (.ifCond .ne 45, 3) := by decide +kernel
theorem dX2_reasonsBetween_74 : decode cX2_reasonsBetween 74 = .ok (.aload_n 0, 1) := by decide +kernel
theorem dX2_reasonsBetween_75 : decode cX2_reasonsBetween 75 = .ok (.getfield 9, 3) := by decide +kernel
theorem dX2_reasonsBetween_78 : decode cX2_reasonsBetween 78 = .ok (.iload 6, 2) := by decide +kernel
theorem dX2_reasonsBetween_80 : decode cX2_reasonsBetween 80 = .ok (.iaload, 1) := by decide +kernel
theorem dX2_reasonsBetween_81 : decode cX2_reasonsBetween 81 = .ok (.ifCond .lt 35, 3) := by decide +kernel
theorem dX2_reasonsBetween_84 : decode cX2_reasonsBetween 84 = .ok (.iload 5, 2) := by decide +kernel
theorem dX2_reasonsBetween_86 : decode cX2_reasonsBetween 86 = .ok (.aload_n 0, 1) := by decide +kernel
theorem dX2_reasonsBetween_87 : decode cX2_reasonsBetween 87 = .ok (.getfield 27, 3) := by decide +kernel
theorem dX2_reasonsBetween_90 : decode cX2_reasonsBetween 90 = .ok (.aload_n 0, 1) := by decide +kernel
theorem dX2_reasonsBetween_91 : decode cX2_reasonsBetween 91 = .ok (.getfield 15, 3) := by decide +kernel
theorem dX2_reasonsBetween_94 : decode cX2_reasonsBetween 94 = .ok (.iload 6, 2) := by decide +kernel
theorem dX2_reasonsBetween_96 : decode cX2_reasonsBetween 96 = .ok (.iaload, 1) := by decide +kernel
theorem dX2_reasonsBetween_97 : decode cX2_reasonsBetween 97 = .ok (.iaload, 1) := by decide +kernel
theorem dX2_reasonsBetween_98 : decode cX2_reasonsBetween 98 = .ok (.ior, 1) := by decide +kernel
theorem dX2_reasonsBetween_99 : decode cX2_reasonsBetween 99 = .ok (.istore 5, 2) := by decide +kernel
theorem dX2_reasonsBetween_101 : decode cX2_reasonsBetween 101 = .ok (.aload_n 0, 1) := by decide +kernel
theorem dX2_reasonsBetween_102 : decode cX2_reasonsBetween 102 = .ok (.getfield 9, 3) := by decide +kernel
theorem dX2_reasonsBetween_105 : decode cX2_reasonsBetween 105 = .ok (.iload 6, 2) := by decide +kernel
theorem dX2_reasonsBetween_107 : decode cX2_reasonsBetween 107 = .ok (.iaload, 1) := by decide +kernel
theorem dX2_reasonsBetween_108 : decode cX2_reasonsBetween 108 = .ok (.istore 6, 2) := by decide +kernel
theorem dX2_reasonsBetween_110 : decode cX2_reasonsBetween 110 = .ok (.iinc 7 1, 3) := by decide +kernel
theorem dX2_reasonsBetween_113 : decode cX2_reasonsBetween 113 = .ok (.goto (-55), 3) := by decide +kernel
theorem dX2_reasonsBetween_116 : decode cX2_reasonsBetween 116 = .ok (.iload_n 1, 1) := by decide +kernel
theorem dX2_reasonsBetween_117 : decode cX2_reasonsBetween 117 = .ok (.istore 4, 2) := by decide +kernel
theorem dX2_reasonsBetween_119 : decode cX2_reasonsBetween 119 = .ok (.iconst 0, 1) := by decide +kernel
theorem dX2_reasonsBetween_120 : decode cX2_reasonsBetween 120 = .ok (.istore 7, 2) := by decide +kernel
theorem dX2_reasonsBetween_122 : decode cX2_reasonsBetween 122 = .ok (.iload 7, 2) := by decide +kernel
theorem dX2_reasonsBetween_124 : decode cX2_reasonsBetween 124 = .ok (.bipush 24, 2) := by decide +kernel
theorem dX2_reasonsBetween_126 : decode cX2_reasonsBetween 126 = .ok (.if_icmp .ge 52, 3) := by decide +kernel
theorem dX2_reasonsBetween_129 : decode cX2_reasonsBetween 129 = .ok (.iload 4, 2) := by decide +kernel
theorem dX2_reasonsBetween_131 : decode cX2_reasonsBetween 131 = .ok (.iload 6, 2) := by decide +kernel
theorem dX2_reasonsBetween_133 : decode cX2_reasonsBetween 133 = .ok (.if_icmp .eq 45, 3) := by decide +kernel
theorem dX2_reasonsBetween_136 : decode cX2_reasonsBetween 136 = .ok (.aload_n 0, 1) := by decide +kernel
theorem dX2_reasonsBetween_137 : decode cX2_reasonsBetween 137 = .ok (.getfield 9, 3) := by decide +kernel
theorem dX2_reasonsBetween_140 : decode cX2_reasonsBetween 140 = .ok (.iload 4, 2) := by decide +kernel
theorem dX2_reasonsBetween_142 : decode cX2_reasonsBetween 142 = .ok (.iaload, 1) := by decide +kernel
theorem dX2_reasonsBetween_143 : decode cX2_reasonsBetween 143 = .ok (.ifCond .lt 35, 3) := by decide +kernel
theorem dX2_reasonsBetween_146 : decode cX2_reasonsBetween 146 = .ok (.iload 5, 2) := by decide +kernel
theorem dX2_reasonsBetween_148 : decode cX2_reasonsBetween 148 = .ok (.aload_n 0, 1) := by decide +kernel
theorem dX2_reasonsBetween_149 : decode cX2_reasonsBetween 149 = .ok (.getfield 27, 3) := by decide +kernel
theorem dX2_reasonsBetween_152 : decode cX2_reasonsBetween 152 = .ok (.aload_n 0, 1) := by decide +kernel
theorem dX2_reasonsBetween_153 : decode cX2_reasonsBetween 153 = .ok (.getfield 15, 3) := by decide +kernel
theorem dX2_reasonsBetween_156 : decode cX2_reasonsBetween 156 = .ok (.iload 4, 2) := by decide +kernel
theorem dX2_reasonsBetween_158 : decode cX2_reasonsBetween 158 = .ok (.iaload, 1) := by decide +kernel
theorem dX2_reasonsBetween_159 : decode cX2_reasonsBetween 159 = .ok (.iaload, 1) := by decide +kernel
theorem dX2_reasonsBetween_160 : decode cX2_reasonsBetween 160 = .ok (.ior, 1) := by decide +kernel
theorem dX2_reasonsBetween_161 : decode cX2_reasonsBetween 161 = .ok (.istore 5, 2) := by decide +kernel
theorem dX2_reasonsBetween_163 : decode cX2_reasonsBetween 163 = .ok (.aload_n 0, 1) := by decide +kernel
theorem dX2_reasonsBetween_164 : decode cX2_reasonsBetween 164 = .ok (.getfield 9, 3) := by decide +kernel
theorem dX2_reasonsBetween_167 : decode cX2_reasonsBetween 167 = .ok (.iload 4, 2) := by decide +kernel
theorem dX2_reasonsBetween_169 : decode cX2_reasonsBetween 169 = .ok (.iaload, 1) := by decide +kernel
theorem dX2_reasonsBetween_170 : decode cX2_reasonsBetween 170 = .ok (.istore 4, 2) := by decide +kernel
theorem dX2_reasonsBetween_172 : decode cX2_reasonsBetween 172 = .ok (.iinc 7 1, 3) := by decide +kernel
theorem dX2_reasonsBetween_175 : decode cX2_reasonsBetween 175 = .ok (.goto (-53), 3) := by decide +kernel
theorem dX2_reasonsBetween_178 : decode cX2_reasonsBetween 178 = .ok (.iload 5, 2) := by decide +kernel
theorem dX2_reasonsBetween_180 : decode cX2_reasonsBetween 180 = .ok (.ireturn, 1) := by decide +kernel
theorem dX3_init_0 : decode cX3_init 0 = .ok (.aload_n 0, 1) := by decide +kernel
theorem dX3_init_1 : decode cX3_init 1 = .ok (.invokespecial 3, 3) := by decide +kernel
theorem dX3_init_4 : decode cX3_init 4 = .ok (.aload_n 0, 1) := by decide +kernel
theorem dX3_init_5 : decode cX3_init 5 = .ok (.bipush 24, 2) := by decide +kernel
theorem dX3_init_7 : decode cX3_init 7 = .ok (.newarray .int, 2) := by decide +kernel
theorem dX3_init_9 : decode cX3_init 9 = .ok (.putfield 9, 3) := by decide +kernel
theorem dX3_init_12 : decode cX3_init 12 = .ok (.return_, 1) := by decide +kernel
theorem dX3_partAll_0 : decode cX3_partAll 0 = .ok (.aload_n 0, 1) := by decide +kernel
theorem dX3_partAll_1 : decode cX3_partAll 1 = .ok (.iconst 0, 1) := by decide +kernel
theorem dX3_partAll_2 : decode cX3_partAll 2 = .ok (.putfield 15, 3) := by decide +kernel
theorem dX3_partAll_5 : decode cX3_partAll 5 = .ok (.aload_n 0, 1) := by decide +kernel
theorem dX3_partAll_6 : decode cX3_partAll 6 = .ok (.iconst 0, 1) := by decide +kernel
theorem dX3_partAll_7 : decode cX3_partAll 7 = .ok (.putfield 19, 3) := by decide +kernel
theorem dX3_partAll_10 : decode cX3_partAll 10 = .ok (.iconst 0, 1) := by decide +kernel
theorem dX3_partAll_11 : decode cX3_partAll 11 = .ok (.istore_n 2, 1) := by decide +kernel
theorem dX3_partAll_12 : decode cX3_partAll 12 = .ok (.iload_n 2, 1) := by decide +kernel
theorem dX3_partAll_13 : decode cX3_partAll 13 = .ok (.iload_n 1, 1) := by decide +kernel
theorem dX3_partAll_14 : decode cX3_partAll 14 = .ok (.if_icmp .ge 13, 3) := by decide +kernel
theorem dX3_partAll_17 : decode cX3_partAll 17 = .ok (.aload_n 0, 1) := by decide +kernel
theorem dX3_partAll_18 : decode cX3_partAll 18 = .ok (.invokevirtual 22, 3) := by decide +kernel
theorem dX3_partAll_21 : decode cX3_partAll 21 = .ok (.iinc 2 1, 3) := by decide +kernel
theorem dX3_partAll_24 : decode cX3_partAll 24 = .ok (.goto (-12), 3) := by decide +kernel
theorem dX3_partAll_27 : decode cX3_partAll 27 = .ok (.return_, 1) := by decide +kernel
theorem dX3_addLone_0 : decode cX3_addLone 0 = .ok (.aload_n 0, 1) := by decide +kernel
theorem dX3_addLone_1 : decode cX3_addLone 1 = .ok (.getfield 15, 3) := by decide +kernel
theorem dX3_addLone_4 : decode cX3_addLone 4 = .ok (.bipush 24, 2) := by decide +kernel
theorem dX3_addLone_6 : decode cX3_addLone 6 = .ok (.if_icmp .ge 36, 3) := by decide +kernel
theorem dX3_addLone_9 : decode cX3_addLone 9 = .ok (.aload_n 0, 1) := by decide +kernel
theorem dX3_addLone_10 : decode cX3_addLone 10 = .ok (.getfield 9, 3) := by decide +kernel
theorem dX3_addLone_13 : decode cX3_addLone 13 = .ok (.aload_n 0, 1) := by decide +kernel
theorem dX3_addLone_14 : decode cX3_addLone 14 = .ok (.getfield 15, 3) := by decide +kernel
theorem dX3_addLone_17 : decode cX3_addLone 17 = .ok (.aload_n 0, 1) := by decide +kernel
theorem dX3_addLone_18 : decode cX3_addLone 18 = .ok (.getfield 15, 3) := by decide +kernel
theorem dX3_addLone_21 : decode cX3_addLone 21 = .ok (.iastore, 1) := by decide +kernel
theorem dX3_addLone_22 : decode cX3_addLone 22 = .ok (.aload_n 0, 1) := by decide +kernel
theorem dX3_addLone_23 : decode cX3_addLone 23 = .ok (.dup, 1) := by decide +kernel
theorem dX3_addLone_24 : decode cX3_addLone 24 = .ok (.getfield 15, 3) := by decide +kernel
theorem dX3_addLone_27 : decode cX3_addLone 27 = .ok (.iconst 1, 1) := by decide +kernel
theorem dX3_addLone_28 : decode cX3_addLone 28 = .ok (.iadd, 1) := by decide +kernel
theorem dX3_addLone_29 : decode cX3_addLone 29 = .ok (.putfield 15, 3) := by decide +kernel
theorem dX3_addLone_32 : decode cX3_addLone 32 = .ok (.aload_n 0, 1) := by decide +kernel
theorem dX3_addLone_33 : decode cX3_addLone 33 = .ok (.dup, 1) := by decide +kernel
theorem dX3_addLone_34 : decode cX3_addLone 34 = .ok (.getfield 19, 3) := by decide +kernel
theorem dX3_addLone_37 : decode cX3_addLone 37 = .ok (.iconst 1, 1) := by decide +kernel
theorem dX3_addLone_38 : decode cX3_addLone 38 = .ok (.iadd, 1) := by decide +kernel
theorem dX3_addLone_39 : decode cX3_addLone 39 = .ok (.putfield 19, 3) := by decide +kernel
theorem dX3_addLone_42 : decode cX3_addLone 42 = .ok (.return_, 1) := by decide +kernel
theorem dX3_copyFrom_0 : decode cX3_copyFrom 0 = .ok (.aload_n 1, 1) := by decide +kernel
theorem dX3_copyFrom_1 : decode cX3_copyFrom 1 = .ok (.getfield 9, 3) := by decide +kernel
theorem dX3_copyFrom_4 : decode cX3_copyFrom 4 = .ok (.iconst 0, 1) := by decide +kernel
theorem dX3_copyFrom_5 : decode cX3_copyFrom 5 = .ok (.aload_n 0, 1) := by decide +kernel
theorem dX3_copyFrom_6 : decode cX3_copyFrom 6 = .ok (.getfield 9, 3) := by decide +kernel
theorem dX3_copyFrom_9 : decode cX3_copyFrom 9 = .ok (.iconst 0, 1) := by decide +kernel
theorem dX3_copyFrom_10 : decode cX3_copyFrom 10 = .ok (.bipush 24, 2) := by decide +kernel
theorem dX3_copyFrom_12 : decode cX3_copyFrom 12 = .ok (.invokestatic 25, 3) := by decide +kernel
theorem dX3_copyFrom_15 : decode cX3_copyFrom 15 = .ok (.aload_n 0, 1) := by decide +kernel
theorem dX3_copyFrom_16 : decode cX3_copyFrom 16 = .ok (.aload_n 1, 1) := by decide +kernel
theorem dX3_copyFrom_17 : decode cX3_copyFrom 17 = .ok (.getfield 15, 3) := by decide +kernel
theorem dX3_copyFrom_20 : decode cX3_copyFrom 20 = .ok (.putfield 15, 3) := by decide +kernel
theorem dX3_copyFrom_23 : decode cX3_copyFrom 23 = .ok (.aload_n 0, 1) := by decide +kernel
theorem dX3_copyFrom_24 : decode cX3_copyFrom 24 = .ok (.aload_n 1, 1) := by decide +kernel
theorem dX3_copyFrom_25 : decode cX3_copyFrom 25 = .ok (.getfield 19, 3) := by decide +kernel
theorem dX3_copyFrom_28 : decode cX3_copyFrom 28 = .ok (.putfield 19, 3) := by decide +kernel
theorem dX3_copyFrom_31 : decode cX3_copyFrom 31 = .ok (.return_, 1) := by decide +kernel
theorem dX3_one_0 : decode cX3_one 0 = .ok (.aload_n 0, 1) := by decide +kernel
theorem dX3_one_1 : decode cX3_one 1 = .ok (.getfield 9, 3) := by decide +kernel
theorem dX3_one_4 : decode cX3_one 4 = .ok (.iload_n 1, 1) := by decide +kernel
theorem dX3_one_5 : decode cX3_one 5 = .ok (.iaload, 1) := by decide +kernel
theorem dX3_one_6 : decode cX3_one 6 = .ok (.aload_n 0, 1) := by decide +kernel
theorem dX3_one_7 : decode cX3_one 7 = .ok (.getfield 9, 3) := by decide +kernel
theorem dX3_one_10 : decode cX3_one 10 = .ok (.iload_n 2, 1) := by decide +kernel
theorem dX3_one_11 : decode cX3_one 11 = .ok (.iaload, 1) := by decide +kernel
theorem dX3_one_12 : decode cX3_one 12 = .ok (.if_icmp .ne 7, 3) := by decide +kernel
theorem dX3_one_15 : decode cX3_one 15 = .ok (.iconst 1, 1) := by decide +kernel
theorem dX3_one_16 : decode cX3_one 16 = .ok (.goto 4, 3) := by decide +kernel
theorem dX3_one_19 : decode cX3_one 19 = .ok (.iconst 0, 1) := by decide +kernel
theorem dX3_one_20 : decode cX3_one 20 = .ok (.ireturn, 1) := by decide +kernel
theorem dX3_unite_0 : decode cX3_unite 0 = .ok (.aload_n 0, 1) := by decide +kernel
theorem dX3_unite_1 : decode cX3_unite 1 = .ok (.getfield 9, 3) := by decide +kernel
theorem dX3_unite_4 : decode cX3_unite 4 = .ok (.iload_n 1, 1) := by decide +kernel
theorem dX3_unite_5 : decode cX3_unite 5 = .ok (.iaload, 1) := by decide +kernel
theorem dX3_unite_6 : decode cX3_unite 6 = .ok (.aload_n 0, 1) := by decide +kernel
theorem dX3_unite_7 : decode cX3_unite 7 = .ok (.getfield 9, 3) := by decide +kernel
theorem dX3_unite_10 : decode cX3_unite 10 = .ok (.iload_n 2, 1) := by decide +kernel
theorem dX3_unite_11 : decode cX3_unite 11 = .ok (.iaload, 1) := by decide +kernel
theorem dX3_unite_12 : decode cX3_unite 12 = .ok (.invokestatic 31, 3) := by decide +kernel
theorem dX3_unite_15 : decode cX3_unite 15 = .ok (.istore_n 3, 1) := by decide +kernel
theorem dX3_unite_16 : decode cX3_unite 16 = .ok (.aload_n 0, 1) := by decide +kernel
theorem dX3_unite_17 : decode cX3_unite 17 = .ok (.getfield 9, 3) := by decide +kernel
theorem dX3_unite_20 : decode cX3_unite 20 = .ok (.iload_n 1, 1) := by decide +kernel
theorem dX3_unite_21 : decode cX3_unite 21 = .ok (.iaload, 1) := by decide +kernel
theorem dX3_unite_22 : decode cX3_unite 22 = .ok (.aload_n 0, 1) := by decide +kernel
theorem dX3_unite_23 : decode cX3_unite 23 = .ok (.getfield 9, 3) := by decide +kernel
theorem dX3_unite_26 : decode cX3_unite 26 = .ok (.iload_n 2, 1) := by decide +kernel
theorem dX3_unite_27 : decode cX3_unite 27 = .ok (.iaload, 1) := by decide +kernel
theorem dX3_unite_28 : decode cX3_unite 28 = .ok (.invokestatic 37, 3) := by decide +kernel
theorem dX3_unite_31 : decode cX3_unite 31 = .ok (.istore 4, 2) := by decide +kernel
theorem dX3_unite_33 : decode cX3_unite 33 = .ok (.iload_n 3, 1) := by decide +kernel
theorem dX3_unite_34 : decode cX3_unite 34 = .ok (.iload 4, 2) := by decide +kernel
theorem dX3_unite_36 : decode cX3_unite 36 = .ok (.if_icmp .ne 4, 3) := by decide +kernel
theorem dX3_unite_39 : decode cX3_unite 39 = .ok (.return_, 1) := by decide +kernel
theorem dX3_unite_40 : decode cX3_unite 40 = .ok (.iload 4, 2) := by decide +kernel
theorem dX3_unite_42 : decode cX3_unite 42 = .ok (.istore 5, 2) := by decide +kernel
theorem dX3_unite_44 : decode cX3_unite 44 = .ok (.iload 5, 2) := by decide +kernel
theorem dX3_unite_46 : decode cX3_unite 46 = .ok (.aload_n 0, 1) := by decide +kernel
theorem dX3_unite_47 : decode cX3_unite 47 = .ok (.getfield 15, 3) := by decide +kernel
theorem dX3_unite_50 : decode cX3_unite 50 = .ok (.if_icmp .ge 29, 3) := by decide +kernel
theorem dX3_unite_53 : decode cX3_unite 53 = .ok (.aload_n 0, 1) := by decide +kernel
theorem dX3_unite_54 : decode cX3_unite 54 = .ok (.getfield 9, 3) := by decide +kernel
theorem dX3_unite_57 : decode cX3_unite 57 = .ok (.iload 5, 2) := by decide +kernel
theorem dX3_unite_59 : decode cX3_unite 59 = .ok (.iaload, 1) := by decide +kernel
theorem dX3_unite_60 : decode cX3_unite 60 = .ok (.iload 4, 2) := by decide +kernel
theorem dX3_unite_62 : decode cX3_unite 62 = .ok (.if_icmp .ne 11, 3) := by decide +kernel
theorem dX3_unite_65 : decode cX3_unite 65 = .ok (.aload_n 0, 1) := by decide +kernel
theorem dX3_unite_66 : decode cX3_unite 66 = .ok (.getfield 9, 3) := by decide +kernel
theorem dX3_unite_69 : decode cX3_unite 69 = .ok (.iload 5, 2) := by decide +kernel
theorem dX3_unite_71 : decode cX3_unite 71 = .ok (.iload_n 3, 1) := by decide +kernel
theorem dX3_unite_72 : decode cX3_unite 72 = .ok (.iastore, 1) := by decide +kernel
theorem dX3_unite_73 : decode cX3_unite 73 = .ok (.iinc 5 1, 3) := by decide +kernel
theorem dX3_unite_76 : decode cX3_unite 76 = .ok (.goto (-32), 3) := by decide +kernel
theorem dX3_unite_79 : decode cX3_unite 79 = .ok (.aload_n 0, 1) := by decide +kernel
theorem dX3_unite_80 : decode cX3_unite 80 = .ok (.dup, 1) := by decide +kernel
theorem dX3_unite_81 : decode cX3_unite 81 = .ok (.getfield 19, 3) := by decide +kernel
theorem dX3_unite_84 : decode cX3_unite 84 = .ok (.iconst 1, 1) := by decide +kernel
theorem dX3_unite_85 : decode cX3_unite 85 = .ok (.isub, 1) := by decide +kernel
theorem dX3_unite_86 : decode cX3_unite 86 = .ok (.putfield 19, 3) := by decide +kernel
theorem dX3_unite_89 : decode cX3_unite 89 = .ok (.return_, 1) := by decide +kernel
theorem dX3_members_0 : decode cX3_members 0 = .ok (.iconst 0, 1) := by decide +kernel
theorem dX3_members_1 : decode cX3_members 1 = .ok (.istore_n 2, 1) := by decide +kernel
theorem dX3_members_2 : decode cX3_members 2 = .ok (.iconst 0, 1) := by decide +kernel
theorem dX3_members_3 : decode cX3_members 3 = .ok (.istore_n 3, 1) := by decide +kernel
theorem dX3_members_4 : decode cX3_members 4 = .ok (.iload_n 3, 1) := by decide +kernel
theorem dX3_members_5 : decode cX3_members 5 = .ok (.aload_n 0, 1) := by decide +kernel
theorem dX3_members_6 : decode cX3_members 6 = .ok (.getfield 15, 3) := by decide +kernel
theorem dX3_members_9 : decode cX3_members 9 = .ok (.if_icmp .ge 21, 3) := by decide +kernel
theorem dX3_members_12 : decode cX3_members 12 = .ok (.aload_n 0, 1) := by decide +kernel
theorem dX3_members_13 : decode cX3_members 13 = .ok (.iload_n 3, 1) := by decide +kernel
theorem dX3_members_14 : decode cX3_members 14 = .ok (.iload_n 1, 1) := by decide +kernel
theorem dX3_members_15 : decode cX3_members 15 = .ok (.invokevirtual 40, 3) := by decide +kernel
theorem dX3_members_18 : decode cX3_members 18 = .ok (.ifCond .eq 6, 3) := by decide +kernel
theorem dX3_members_21 : decode cX3_members 21 = .ok (.iinc 2 1, 3) := by decide +kernel
theorem dX3_members_24 : decode cX3_members 24 = .ok (.iinc 3 1, 3) := by decide +kernel
theorem dX3_members_27 : decode cX3_members 27 = .ok (.goto (-23), 3) := by decide +kernel
theorem dX3_members_30 : decode cX3_members 30 = .ok (.iload_n 2, 1) := by decide +kernel
theorem dX3_members_31 : decode cX3_members 31 = .ok (.ireturn, 1) := by decide +kernel
theorem dX4_init_0 : decode cX4_init 0 = .ok (.aload_n 0, 1) := by decide +kernel
theorem dX4_init_1 : decode cX4_init 1 = .ok (.invokespecial 3, 3) := by decide +kernel
theorem dX4_init_4 : decode cX4_init 4 = .ok (.aload_n 0, 1) := by decide +kernel
theorem dX4_init_5 : decode cX4_init 5 = .ok (.bipush 13, 2) := by decide +kernel
theorem dX4_init_7 : decode cX4_init 7 = .ok (.anewarray 9, 3) := by decide +kernel
theorem dX4_init_10 : decode cX4_init 10 = .ok (.putfield 11, 3) := by decide +kernel
theorem dX4_init_13 : decode cX4_init 13 = .ok (.aload_n 0, 1) := by decide +kernel
theorem dX4_init_14 : decode cX4_init 14 = .ok (.bipush 12, 2) := by decide +kernel
theorem dX4_init_16 : decode cX4_init 16 = .ok (.newarray .int, 2) := by decide +kernel
theorem dX4_init_18 : decode cX4_init 18 = .ok (.putfield 17, 3) := by decide +kernel
theorem dX4_init_21 : decode cX4_init 21 = .ok (.aload_n 0, 1) := by decide +kernel
theorem dX4_init_22 : decode cX4_init 22 = .ok (.bipush 64, 2) := by decide +kernel
theorem dX4_init_24 : decode cX4_init 24 = .ok (.newarray .long, 2) := by decide +kernel
theorem dX4_init_26 : decode cX4_init 26 = .ok (.putfield 21, 3) := by decide +kernel
theorem dX4_init_29 : decode cX4_init 29 = .ok (.iconst 0, 1) := by decide +kernel
theorem dX4_init_30 : decode cX4_init 30 = .ok (.istore_n 1, 1) := by decide +kernel
theorem dX4_init_31 : decode cX4_init 31 = .ok (.iload_n 1, 1) := by decide +kernel
theorem dX4_init_32 : decode cX4_init 32 = .ok (.bipush 12, 2) := by decide +kernel
theorem dX4_init_34 : decode cX4_init 34 = .ok (.if_icmp .gt 22, 3) := by decide +kernel
theorem dX4_init_37 : decode cX4_init 37 = .ok (.aload_n 0, 1) := by decide +kernel
theorem dX4_init_38 : decode cX4_init 38 = .ok (.getfield 11, 3) := by decide +kernel
theorem dX4_init_41 : decode cX4_init 41 = .ok (.iload_n 1, 1) := by decide +kernel
theorem dX4_init_42 : decode cX4_init 42 = .ok (.new 9, 3) := by decide +kernel
theorem dX4_init_45 : decode cX4_init 45 = .ok (.dup, 1) := by decide +kernel
theorem dX4_init_46 : decode cX4_init 46 = .ok (.invokespecial 25, 3) := by decide +kernel
theorem dX4_init_49 : decode cX4_init 49 = .ok (.aastore, 1) := by decide +kernel
theorem dX4_init_50 : decode cX4_init 50 = .ok (.iinc 1 1, 3) := by decide +kernel
theorem dX4_init_53 : decode cX4_init 53 = .ok (.goto (-22), 3) := by decide +kernel
theorem dX4_init_56 : decode cX4_init 56 = .ok (.return_, 1) := by decide +kernel
theorem dX4_fewestSames_0 : decode cX4_fewestSames 0 = .ok (.aload_n 0, 1) := by decide +kernel
theorem dX4_fewestSames_1 : decode cX4_fewestSames 1 = .ok (.aload_n 1, 1) := by decide +kernel
theorem dX4_fewestSames_2 : decode cX4_fewestSames 2 = .ok (.iload_n 2, 1) := by decide +kernel
theorem dX4_fewestSames_3 : decode cX4_fewestSames 3 = .ok (.iload_n 3, 1) := by decide +kernel
theorem dX4_fewestSames_4 : decode cX4_fewestSames 4 = .ok (.invokevirtual 26, 3) := by decide +kernel
theorem dX4_fewestSames_7 : decode cX4_fewestSames 7 = .ok (.aload_n 0, 1) := by decide +kernel
theorem dX4_fewestSames_8 : decode cX4_fewestSames 8 = .ok (.iconst 1, 1) := by decide +kernel
theorem dX4_fewestSames_9 : decode cX4_fewestSames 9 = .ok (.putfield 30, 3) := by decide +kernel
theorem dX4_fewestSames_12 : decode cX4_fewestSames 12 = .ok (.aload_n 0, 1) := by decide +kernel
theorem dX4_fewestSames_13 : decode cX4_fewestSames 13 = .ok (.iload 4, 2) := by decide +kernel
theorem dX4_fewestSames_15 : decode cX4_fewestSames 15 = .ok (.iconst 1, 1) := by decide +kernel
theorem dX4_fewestSames_16 : decode cX4_fewestSames 16 = .ok (.iadd, 1) := by decide +kernel
theorem dX4_fewestSames_17 : decode cX4_fewestSames 17 = .ok (.putfield 34, 3) := by decide +kernel
theorem dX4_fewestSames_20 : decode cX4_fewestSames 20 = .ok (.aload_n 0, 1) := by decide +kernel
theorem dX4_fewestSames_21 : decode cX4_fewestSames 21 = .ok (.iconst (-1), 1) := by decide +kernel
theorem dX4_fewestSames_22 : decode cX4_fewestSames 22 = .ok (.putfield 38, 3) := by decide +kernel
theorem dX4_fewestSames_25 : decode cX4_fewestSames 25 = .ok (.aload_n 0, 1) := by decide +kernel
theorem dX4_fewestSames_26 : decode cX4_fewestSames 26 = .ok (.aload_n 1, 1) := by decide +kernel
theorem dX4_fewestSames_27 : decode cX4_fewestSames 27 = .ok (.aload_n 0, 1) := by decide +kernel
theorem dX4_fewestSames_28 : decode cX4_fewestSames 28 = .ok (.getfield 41, 3) := by decide +kernel
theorem dX4_fewestSames_31 : decode cX4_fewestSames 31 = .ok (.iconst 0, 1) := by decide +kernel
theorem dX4_fewestSames_32 : decode cX4_fewestSames 32 = .ok (.invokevirtual 44, 3) := by decide +kernel
theorem dX4_fewestSames_35 : decode cX4_fewestSames 35 = .ok (.aload_n 0, 1) := by decide +kernel
theorem dX4_fewestSames_36 : decode cX4_fewestSames 36 = .ok (.getfield 38, 3) := by decide +kernel
theorem dX4_fewestSames_39 : decode cX4_fewestSames 39 = .ok (.ifCond .ge 5, 3) := by decide +kernel
theorem dX4_fewestSames_42 : decode cX4_fewestSames 42 = .ok (.iconst (-1), 1) := by decide +kernel
theorem dX4_fewestSames_43 : decode cX4_fewestSames 43 = .ok (.ireturn, 1) := by decide +kernel
theorem dX4_fewestSames_44 : decode cX4_fewestSames 44 = .ok (.iconst 0, 1) := by decide +kernel
theorem dX4_fewestSames_45 : decode cX4_fewestSames 45 = .ok (.istore 5, 2) := by decide +kernel
theorem dX4_fewestSames_47 : decode cX4_fewestSames 47 = .ok (.iconst 0, 1) := by decide +kernel
theorem dX4_fewestSames_48 : decode cX4_fewestSames 48 = .ok (.istore 6, 2) := by decide +kernel
theorem dX4_fewestSames_50 : decode cX4_fewestSames 50 = .ok (.iload 6, 2) := by decide +kernel
theorem dX4_fewestSames_52 : decode cX4_fewestSames 52 = .ok (.aload_n 0, 1) := by decide +kernel
theorem dX4_fewestSames_53 : decode cX4_fewestSames 53 = .ok (.getfield 41, 3) := by decide +kernel
theorem dX4_fewestSames_56 : decode cX4_fewestSames 56 = .ok (.if_icmp .ge 31, 3) := by decide +kernel
theorem dX4_fewestSames_59 : decode cX4_fewestSames 59 = .ok (.iload 5, 2) := by decide +kernel
theorem dX4_fewestSames_61 : decode cX4_fewestSames 61 = .ok (.aload_n 0, 1) := by decide +kernel
theorem dX4_fewestSames_62 : decode cX4_fewestSames 62 = .ok (.getfield 38, 3) := by decide +kernel
theorem dX4_fewestSames_65 : decode cX4_fewestSames 65 = .ok (.iload 6, 2) := by decide +kernel
theorem dX4_fewestSames_67 : decode cX4_fewestSames 67 = .ok (.iushr, 1) := by decide +kernel
theorem dX4_fewestSames_68 : decode cX4_fewestSames 68 = .ok (.iconst 1, 1) := by decide +kernel
theorem dX4_fewestSames_69 : decode cX4_fewestSames 69 = .ok (.iand, 1) := by decide +kernel
theorem dX4_fewestSames_70 : decode cX4_fewestSames 70 = .ok (.aload_n 0, 1) := by decide +kernel
theorem dX4_fewestSames_71 : decode cX4_fewestSames 71 = .ok (.getfield 17, 3) := by decide +kernel
theorem dX4_fewestSames_74 : decode cX4_fewestSames 74 = .ok (.iload 6, 2) := by decide +kernel
theorem dX4_fewestSames_76 : decode cX4_fewestSames 76 = .ok (.iaload, 1) := by decide +kernel
theorem dX4_fewestSames_77 : decode cX4_fewestSames 77 = .ok (.ishl, 1) := by decide +kernel
theorem dX4_fewestSames_78 : decode cX4_fewestSames 78 = .ok (.ior, 1) := by decide +kernel
theorem dX4_fewestSames_79 : decode cX4_fewestSames 79 = .ok (.istore 5, 2) := by decide +kernel
theorem dX4_fewestSames_81 : decode cX4_fewestSames 81 = .ok (.iinc 6 1, 3) := by decide +kernel
theorem dX4_fewestSames_84 : decode cX4_fewestSames 84 = .ok (.goto (-34), 3) := by decide +kernel
theorem dX4_fewestSames_87 : decode cX4_fewestSames 87 = .ok (.iload 5, 2) := by decide +kernel
theorem dX4_fewestSames_89 : decode cX4_fewestSames 89 = .ok (.ireturn, 1) := by decide +kernel
theorem dX4_leastSets_0 : decode cX4_leastSets 0 = .ok (.aload_n 0, 1) := by decide +kernel
theorem dX4_leastSets_1 : decode cX4_leastSets 1 = .ok (.aload_n 1, 1) := by decide +kernel
theorem dX4_leastSets_2 : decode cX4_leastSets 2 = .ok (.iload_n 2, 1) := by decide +kernel
theorem dX4_leastSets_3 : decode cX4_leastSets 3 = .ok (.iload_n 3, 1) := by decide +kernel
theorem dX4_leastSets_4 : decode cX4_leastSets 4 = .ok (.invokevirtual 26, 3) := by decide +kernel
theorem dX4_leastSets_7 : decode cX4_leastSets 7 = .ok (.aload_n 0, 1) := by decide +kernel
theorem dX4_leastSets_8 : decode cX4_leastSets 8 = .ok (.iconst 0, 1) := by decide +kernel
theorem dX4_leastSets_9 : decode cX4_leastSets 9 = .ok (.putfield 30, 3) := by decide +kernel
theorem dX4_leastSets_12 : decode cX4_leastSets 12 = .ok (.aload_n 0, 1) := by decide +kernel
theorem dX4_leastSets_13 : decode cX4_leastSets 13 = .ok (.bipush 13, 2) := by decide +kernel
theorem dX4_leastSets_15 : decode cX4_leastSets 15 = .ok (.putfield 34, 3) := by decide +kernel
theorem dX4_leastSets_18 : decode cX4_leastSets 18 = .ok (.iconst 0, 1) := by decide +kernel
theorem dX4_leastSets_19 : decode cX4_leastSets 19 = .ok (.istore 4, 2) := by decide +kernel
theorem dX4_leastSets_21 : decode cX4_leastSets 21 = .ok (.iload 4, 2) := by decide +kernel
theorem dX4_leastSets_23 : decode cX4_leastSets 23 = .ok (.aload_n 0, 1) := by decide +kernel
theorem dX4_leastSets_24 : decode cX4_leastSets 24 = .ok (.getfield 21, 3) := by decide +kernel
theorem dX4_leastSets_27 : decode cX4_leastSets 27 = .ok (.arraylength, 1) := by decide +kernel
theorem dX4_leastSets_28 : decode cX4_leastSets 28 = .ok (.if_icmp .ge 17, 3) := by decide +kernel
theorem dX4_leastSets_31 : decode cX4_leastSets 31 = .ok (.aload_n 0, 1) := by decide +kernel
theorem dX4_leastSets_32 : decode cX4_leastSets 32 = .ok (.getfield 21, 3) := by decide +kernel
theorem dX4_leastSets_35 : decode cX4_leastSets 35 = .ok (.iload 4, 2) := by decide +kernel
theorem dX4_leastSets_37 : decode cX4_leastSets 37 = .ok (.lconst 0, 1) := by decide +kernel
theorem dX4_leastSets_38 : decode cX4_leastSets 38 = .ok (.lastore, 1) := by decide +kernel
theorem dX4_leastSets_39 : decode cX4_leastSets 39 = .ok (.iinc 4 1, 3) := by decide +kernel
theorem dX4_leastSets_42 : decode cX4_leastSets 42 = .ok (.goto (-21), 3) := by decide +kernel
theorem dX4_leastSets_45 : decode cX4_leastSets 45 = .ok (.aload_n 0, 1) := by decide +kernel
theorem dX4_leastSets_46 : decode cX4_leastSets 46 = .ok (.aload_n 1, 1) := by decide +kernel
theorem dX4_leastSets_47 : decode cX4_leastSets 47 = .ok (.aload_n 0, 1) := by decide +kernel
theorem dX4_leastSets_48 : decode cX4_leastSets 48 = .ok (.getfield 41, 3) := by decide +kernel
theorem dX4_leastSets_51 : decode cX4_leastSets 51 = .ok (.iconst 0, 1) := by decide +kernel
theorem dX4_leastSets_52 : decode cX4_leastSets 52 = .ok (.invokevirtual 44, 3) := by decide +kernel
theorem dX4_leastSets_55 : decode cX4_leastSets 55 = .ok (.iconst 0, 1) := by decide +kernel
theorem dX4_leastSets_56 : decode cX4_leastSets 56 = .ok (.istore 4, 2) := by decide +kernel
theorem dX4_leastSets_58 : decode cX4_leastSets 58 = .ok (.iconst 0, 1) := by decide +kernel
theorem dX4_leastSets_59 : decode cX4_leastSets 59 = .ok (.istore 5, 2) := by decide +kernel
theorem dX4_leastSets_61 : decode cX4_leastSets 61 = .ok (.iload 5, 2) := by decide +kernel
theorem dX4_leastSets_63 : decode cX4_leastSets 63 = .ok (.iconst 1, 1) := by decide +kernel
theorem dX4_leastSets_64 : decode cX4_leastSets 64 = .ok (.aload_n 0, 1) := by decide +kernel
theorem dX4_leastSets_65 : decode cX4_leastSets 65 = .ok (.getfield 41, 3) := by decide +kernel
theorem dX4_leastSets_68 : decode cX4_leastSets 68 = .ok (.ishl, 1) := by decide +kernel
theorem dX4_leastSets_69 : decode cX4_leastSets 69 = .ok (.if_icmp .ge 30, 3) := by decide +kernel
theorem dX4_leastSets_72 : decode cX4_leastSets 72 = .ok (.aload_n 0, 1) := by decide +kernel
theorem dX4_leastSets_73 : decode cX4_leastSets 73 = .ok (.iload 5, 2) := by decide +kernel
theorem dX4_leastSets_75 : decode cX4_leastSets 75 = .ok (.invokevirtual 47, 3) := by decide +kernel
theorem dX4_leastSets_78 : decode cX4_leastSets 78 = .ok (.ifCond .eq 15, 3) := by decide +kernel
theorem dX4_leastSets_81 : decode cX4_leastSets 81 = .ok (.aload_n 0, 1) := by decide +kernel
theorem dX4_leastSets_82 : decode cX4_leastSets 82 = .ok (.iload 5, 2) := by decide +kernel
theorem dX4_leastSets_84 : decode cX4_leastSets 84 = .ok (.invokevirtual 51, 3) := by decide +kernel
theorem dX4_leastSets_87 : decode cX4_leastSets 87 = .ok (.ifCond .ne 6, 3) := by decide +kernel
theorem dX4_leastSets_90 : decode cX4_leastSets 90 = .ok (.iinc 4 1, 3) := by decide +kernel
theorem dX4_leastSets_93 : decode cX4_leastSets 93 = .ok (.iinc 5 1, 3) := by decide +kernel
theorem dX4_leastSets_96 : decode cX4_leastSets 96 = .ok (.goto (-35), 3) := by decide +kernel
theorem dX4_leastSets_99 : decode cX4_leastSets 99 = .ok (.iload 4, 2) := by decide +kernel
theorem dX4_leastSets_101 : decode cX4_leastSets 101 = .ok (.ireturn, 1) := by decide +kernel
theorem dX4_begin_0 : decode cX4_begin 0 = .ok (.aload_n 0, 1) := by decide +kernel
theorem dX4_begin_1 : decode cX4_begin 1 = .ok (.iload_n 2, 1) := by decide +kernel
theorem dX4_begin_2 : decode cX4_begin 2 = .ok (.putfield 54, 3) := by decide +kernel
theorem dX4_begin_5 : decode cX4_begin 5 = .ok (.aload_n 0, 1) := by decide +kernel
theorem dX4_begin_6 : decode cX4_begin 6 = .ok (.iload_n 3, 1) := by decide +kernel
theorem dX4_begin_7 : decode cX4_begin 7 = .ok (.putfield 57, 3) := by decide +kernel
theorem dX4_begin_10 : decode cX4_begin 10 = .ok (.aload_n 0, 1) := by decide +kernel
theorem dX4_begin_11 : decode cX4_begin 11 = .ok (.aload_n 1, 1) := by decide +kernel
theorem dX4_begin_12 : decode cX4_begin 12 = .ok (.invokevirtual 60, 3) := by decide +kernel
theorem dX4_begin_15 : decode cX4_begin 15 = .ok (.aload_n 1, 1) := by decide +kernel
theorem dX4_begin_16 : decode cX4_begin 16 = .ok (.iconst 0, 1) := by decide +kernel
theorem dX4_begin_17 : decode cX4_begin 17 = .ok (.aload_n 0, 1) := by decide +kernel
theorem dX4_begin_18 : decode cX4_begin 18 = .ok (.getfield 11, 3) := by decide +kernel
theorem dX4_begin_21 : decode cX4_begin 21 = .ok (.aload_n 0, 1) := by decide +kernel
theorem dX4_begin_22 : decode cX4_begin 22 = .ok (.getfield 41, 3) := by decide +kernel
theorem dX4_begin_25 : decode cX4_begin 25 = .ok (.aaload, 1) := by decide +kernel
theorem dX4_begin_26 : decode cX4_begin 26 = .ok (.invokevirtual 64, 3) := by decide +kernel
theorem dX4_begin_29 : decode cX4_begin 29 = .ok (.return_, 1) := by decide +kernel
theorem dX4_pickBearing_0 : decode cX4_pickBearing 0 = .ok (.iconst 1, 1) := by decide +kernel
theorem dX4_pickBearing_1 : decode cX4_pickBearing 1 = .ok (.aload_n 1, 1) := by decide +kernel
theorem dX4_pickBearing_2 : decode cX4_pickBearing 2 = .ok (.getfield 70, 3) := by decide +kernel
theorem dX4_pickBearing_5 : decode cX4_pickBearing 5 = .ok (.getfield 74, 3) := by decide +kernel
theorem dX4_pickBearing_8 : decode cX4_pickBearing 8 = .ok (.aload_n 0, 1) := by decide +kernel
theorem dX4_pickBearing_9 : decode cX4_pickBearing 9 = .ok (.getfield 54, 3) := by decide +kernel
theorem dX4_pickBearing_12 : decode cX4_pickBearing 12 = .ok (.iaload, 1) := by decide +kernel
theorem dX4_pickBearing_13 : decode cX4_pickBearing 13 = .ok (.ishl, 1) := by decide +kernel
theorem dX4_pickBearing_14 : decode cX4_pickBearing 14 = .ok (.istore_n 2, 1) := by decide +kernel
theorem dX4_pickBearing_15 : decode cX4_pickBearing 15 = .ok (.iconst 0, 1) := by decide +kernel
theorem dX4_pickBearing_16 : decode cX4_pickBearing 16 = .ok (.istore_n 3, 1) := by decide +kernel
theorem dX4_pickBearing_17 : decode cX4_pickBearing 17 = .ok (.iconst 0, 1) := by decide +kernel
theorem dX4_pickBearing_18 : decode cX4_pickBearing 18 = .ok (.istore 4, 2) := by decide +kernel
theorem dX4_pickBearing_20 : decode cX4_pickBearing 20 = .ok (.iload 4, 2) := by decide +kernel
theorem dX4_pickBearing_22 : decode cX4_pickBearing 22 = .ok (.bipush 24, 2) := by decide +kernel
theorem dX4_pickBearing_24 : decode cX4_pickBearing 24 = .ok (.if_icmp .gt 70, 3) := by decide +kernel
theorem dX4_pickBearing_27 : decode cX4_pickBearing 27 = .ok (.iload_n 2, 1) := by decide +kernel
theorem dX4_pickBearing_28 : decode cX4_pickBearing 28 = .ok (.iload_n 3, 1) := by decide +kernel
theorem dX4_pickBearing_29 : decode cX4_pickBearing 29 = .ok (.if_icmp .eq 65, 3) := by decide +kernel
theorem dX4_pickBearing_32 : decode cX4_pickBearing 32 = .ok (.iload_n 2, 1) := by decide +kernel
theorem dX4_pickBearing_33 : decode cX4_pickBearing 33 = .ok (.istore_n 3, 1) := by decide +kernel
theorem dX4_pickBearing_34 : decode cX4_pickBearing 34 = .ok (.iconst 0, 1) := by decide +kernel
theorem dX4_pickBearing_35 : decode cX4_pickBearing 35 = .ok (.istore 5, 2) := by decide +kernel
theorem dX4_pickBearing_37 : decode cX4_pickBearing 37 = .ok (.iload 5, 2) := by decide +kernel
theorem dX4_pickBearing_39 : decode cX4_pickBearing 39 = .ok (.aload_n 1, 1) := by decide +kernel
theorem dX4_pickBearing_40 : decode cX4_pickBearing 40 = .ok (.getfield 77, 3) := by decide +kernel
theorem dX4_pickBearing_43 : decode cX4_pickBearing 43 = .ok (.getfield 81, 3) := by decide +kernel
theorem dX4_pickBearing_46 : decode cX4_pickBearing 46 = .ok (.if_icmp .ge 42, 3) := by decide +kernel
theorem dX4_pickBearing_49 : decode cX4_pickBearing 49 = .ok (.iload_n 2, 1) := by decide +kernel
theorem dX4_pickBearing_50 : decode cX4_pickBearing 50 = .ok (.aload_n 1, 1) := by decide +kernel
theorem dX4_pickBearing_51 : decode cX4_pickBearing 51 = .ok (.getfield 70, 3) := by decide +kernel
theorem dX4_pickBearing_54 : decode cX4_pickBearing 54 = .ok (.getfield 74, 3) := by decide +kernel
theorem dX4_pickBearing_57 : decode cX4_pickBearing 57 = .ok (.iload 5, 2) := by decide +kernel
theorem dX4_pickBearing_59 : decode cX4_pickBearing 59 = .ok (.iaload, 1) := by decide +kernel
theorem dX4_pickBearing_60 : decode cX4_pickBearing 60 = .ok (.iushr, 1) := by decide +kernel
theorem dX4_pickBearing_61 : decode cX4_pickBearing 61 = .ok (.iconst 1, 1) := by decide +kernel
theorem dX4_pickBearing_62 : decode cX4_pickBearing 62 = .ok (.iand, 1) := by decide +kernel
theorem dX4_pickBearing_63 : decode cX4_pickBearing 63 = .ok (.ifCond .eq 19, 3) := by decide +kernel
theorem dX4_pickBearing_66 : decode cX4_pickBearing 66 = .ok (.iload_n 2, 1) := by decide +kernel
theorem dX4_pickBearing_67 : decode cX4_pickBearing 67 = .ok (.aload_n 1, 1) := by decide +kernel
theorem dX4_pickBearing_68 : decode cX4_pickBearing 68 = .ok (.getfield 77, 3) := by decide +kernel
theorem dX4_pickBearing_71 : decode cX4_pickBearing 71 = .ok (.iload 5, 2) := by decide +kernel
theorem dX4_pickBearing_73 : decode cX4_pickBearing 73 = .ok (.aload_n 1, 1) := by decide +kernel
theorem dX4_pickBearing_74 : decode cX4_pickBearing 74 = .ok (.getfield 70, 3) := by decide +kernel
theorem dX4_pickBearing_77 : decode cX4_pickBearing 77 = .ok (.invokevirtual 86, 3) := by decide +kernel
theorem dX4_pickBearing_80 : decode cX4_pickBearing 80 = .ok (.ior, 1) := by decide +kernel
theorem dX4_pickBearing_81 : decode cX4_pickBearing 81 = .ok (.istore_n 2, 1) := by decide +kernel
theorem dX4_pickBearing_82 : decode cX4_pickBearing 82 = .ok (.iinc 5 1, 3) := by decide +kernel
theorem dX4_pickBearing_85 : decode cX4_pickBearing 85 = .ok (.goto (-48), 3) := by decide +kernel
theorem dX4_pickBearing_88 : decode cX4_pickBearing 88 = .ok (.iinc 4 1, 3) := by decide +kernel
theorem dX4_pickBearing_91 : decode cX4_pickBearing 91 = .ok (.goto (-71), 3) := by decide +kernel
theorem dX4_pickBearing_94 : decode cX4_pickBearing 94 = .ok (.aload_n 0, 1) := by decide +kernel
theorem dX4_pickBearing_95 : decode cX4_pickBearing 95 = .ok (.iconst 0, 1) := by decide +kernel
theorem dX4_pickBearing_96 : decode cX4_pickBearing 96 = .ok (.putfield 41, 3) := by decide +kernel
theorem dX4_pickBearing_99 : decode cX4_pickBearing 99 = .ok (.iconst 0, 1) := by decide +kernel
theorem dX4_pickBearing_100 : decode cX4_pickBearing 100 = .ok (.istore 4, 2) := by decide +kernel
theorem dX4_pickBearing_102 : decode cX4_pickBearing 102 = .ok (.iload 4, 2) := by decide +kernel
theorem dX4_pickBearing_104 : decode cX4_pickBearing 104 = .ok (.aload_n 1, 1) := by decide +kernel
theorem dX4_pickBearing_105 : decode cX4_pickBearing 105 = .ok (.getfield 90, 3) := by decide +kernel
theorem dX4_pickBearing_108 : decode cX4_pickBearing 108 = .ok (.if_icmp .ge 52, 3) := by decide +kernel
theorem dX4_pickBearing_111 : decode cX4_pickBearing 111 = .ok (.iload_n 2, 1) := by decide +kernel
theorem dX4_pickBearing_112 : decode cX4_pickBearing 112 = .ok (.aload_n 1, 1) := by decide +kernel
theorem dX4_pickBearing_113 : decode cX4_pickBearing 113 = .ok (.getfield 70, 3) := by decide +kernel
theorem dX4_pickBearing_116 : decode cX4_pickBearing 116 = .ok (.getfield 74, 3) := by decide +kernel
theorem dX4_pickBearing_119 : decode cX4_pickBearing 119 = .ok (.aload_n 1, 1) := by decide +kernel
theorem dX4_pickBearing_120 : decode cX4_pickBearing 120 = .ok (.getfield 93, 3) := by decide +kernel
theorem dX4_pickBearing_123 : decode cX4_pickBearing 123 = .ok (.iload 4, 2) := by decide +kernel
theorem dX4_pickBearing_125 : decode cX4_pickBearing 125 = .ok (.iaload, 1) := by decide +kernel
theorem dX4_pickBearing_126 : decode cX4_pickBearing 126 = .ok (.iaload, 1) := by decide +kernel
theorem dX4_pickBearing_127 : decode cX4_pickBearing 127 = .ok (.iushr, 1) := by decide +kernel
theorem dX4_pickBearing_128 : decode cX4_pickBearing 128 = .ok (.iconst 1, 1) := by decide +kernel
theorem dX4_pickBearing_129 : decode cX4_pickBearing 129 = .ok (.iand, 1) := by decide +kernel
theorem dX4_pickBearing_130 : decode cX4_pickBearing 130 = .ok (.ifCond .eq 24, 3) := by decide +kernel
theorem dX4_pickBearing_133 : decode cX4_pickBearing 133 = .ok (.aload_n 0, 1) := by decide +kernel
theorem dX4_pickBearing_134 : decode cX4_pickBearing 134 = .ok (.getfield 17, 3) := by decide +kernel
theorem dX4_pickBearing_137 : decode cX4_pickBearing 137 = .ok (.aload_n 0, 1) := by decide +kernel
theorem dX4_pickBearing_138 : decode cX4_pickBearing 138 = .ok (.getfield 41, 3) := by decide +kernel
theorem dX4_pickBearing_141 : decode cX4_pickBearing 141 = .ok (.iload 4, 2) := by decide +kernel
theorem dX4_pickBearing_143 : decode cX4_pickBearing 143 = .ok (.iastore, 1) := by decide +kernel
theorem dX4_pickBearing_144 : decode cX4_pickBearing 144 = .ok (.aload_n 0, 1) := by decide +kernel
theorem dX4_pickBearing_145 : decode cX4_pickBearing 145 = .ok (.dup, 1) := by decide +kernel
theorem dX4_pickBearing_146 : decode cX4_pickBearing 146 = .ok (.getfield 41, 3) := by decide +kernel
theorem dX4_pickBearing_149 : decode cX4_pickBearing 149 = .ok (.iconst 1, 1) := by decide +kernel
theorem dX4_pickBearing_150 : decode cX4_pickBearing 150 = .ok (.iadd, 1) := by decide +kernel
theorem dX4_pickBearing_151 : decode cX4_pickBearing 151 = .ok (.putfield 41, 3) := by decide +kernel
theorem dX4_pickBearing_154 : decode cX4_pickBearing 154 = .ok (.iinc 4 1, 3) := by decide +kernel
theorem dX4_pickBearing_157 : decode cX4_pickBearing 157 = .ok (.goto (-55), 3) := by decide +kernel
theorem dX4_pickBearing_160 : decode cX4_pickBearing 160 = .ok (.return_, 1) := by decide +kernel
theorem dX4_visit_0 : decode cX4_visit 0 = .ok (.aload_n 0, 1) := by decide +kernel
theorem dX4_visit_1 : decode cX4_visit 1 = .ok (.getfield 11, 3) := by decide +kernel
theorem dX4_visit_4 : decode cX4_visit 4 = .ok (.iload_n 2, 1) := by decide +kernel
theorem dX4_visit_5 : decode cX4_visit 5 = .ok (.aaload, 1) := by decide +kernel
theorem dX4_visit_6 : decode cX4_visit 6 = .ok (.aload_n 0, 1) := by decide +kernel
theorem dX4_visit_7 : decode cX4_visit 7 = .ok (.getfield 54, 3) := by decide +kernel
theorem dX4_visit_10 : decode cX4_visit 10 = .ok (.aload_n 0, 1) := by decide +kernel
theorem dX4_visit_11 : decode cX4_visit 11 = .ok (.getfield 57, 3) := by decide +kernel
theorem dX4_visit_14 : decode cX4_visit 14 = .ok (.invokevirtual 96, 3) := by decide +kernel
theorem dX4_visit_17 : decode cX4_visit 17 = .ok (.ifCond .eq 12, 3) := by decide +kernel
theorem dX4_visit_20 : decode cX4_visit 20 = .ok (.aload_n 0, 1) := by decide +kernel
theorem dX4_visit_21 : decode cX4_visit 21 = .ok (.iload_n 3, 1) := by decide +kernel
theorem dX4_visit_22 : decode cX4_visit 22 = .ok (.iconst 1, 1) := by decide +kernel
theorem dX4_visit_23 : decode cX4_visit 23 = .ok (.iload_n 2, 1) := by decide +kernel
theorem dX4_visit_24 : decode cX4_visit 24 = .ok (.ishl, 1) := by decide +kernel
theorem dX4_visit_25 : decode cX4_visit 25 = .ok (.invokevirtual 100, 3) := by decide +kernel
theorem dX4_visit_28 : decode cX4_visit 28 = .ok (.return_, 1) := by decide +kernel
theorem dX4_visit_29 : decode cX4_visit 29 = .ok (.iload_n 2, 1) := by decide +kernel
theorem dX4_visit_30 : decode cX4_visit 30 = .ok (.ifCond .eq 16, 3) := by decide +kernel
theorem dX4_visit_33 : decode cX4_visit 33 = .ok (.iload_n 3, 1) := by decide +kernel
theorem dX4_visit_34 : decode cX4_visit 34 = .ok (.invokestatic 104, 3) := by decide +kernel
theorem dX4_visit_37 : decode cX4_visit 37 = .ok (.iconst 1, 1) := by decide +kernel
theorem dX4_visit_38 : decode cX4_visit 38 = .ok (.iadd, 1) := by decide +kernel
theorem dX4_visit_39 : decode cX4_visit 39 = .ok (.aload_n 0, 1) := by decide +kernel
theorem dX4_visit_40 : decode cX4_visit 40 = .ok (.getfield 34, 3) := by decide +kernel
theorem dX4_visit_43 : decode cX4_visit 43 = .ok (.if_icmp .lt 4, 3) := by decide +kernel
theorem dX4_visit_46 : decode cX4_visit 46 = .ok (.return_, 1) := by decide +kernel
theorem dX4_visit_47 : decode cX4_visit 47 = .ok (.iload_n 2, 1) := by decide +kernel
theorem dX4_visit_48 : decode cX4_visit 48 = .ok (.iconst 1, 1) := by decide +kernel
theorem dX4_visit_49 : decode cX4_visit 49 = .ok (.isub, 1) := by decide +kernel
theorem dX4_visit_50 : decode cX4_visit 50 = .ok (.istore 4, 2) := by decide +kernel
theorem dX4_visit_52 : decode cX4_visit 52 = .ok (.aload_n 1, 1) := by decide +kernel
theorem dX4_visit_53 : decode cX4_visit 53 = .ok (.getfield 93, 3) := by decide +kernel
theorem dX4_visit_56 : decode cX4_visit 56 = .ok (.aload_n 0, 1) := by decide +kernel
theorem dX4_visit_57 : decode cX4_visit 57 = .ok (.getfield 17, 3) := by decide +kernel
theorem dX4_visit_60 : decode cX4_visit 60 = .ok (.iload 4, 2) := by decide +kernel
theorem dX4_visit_62 : decode cX4_visit 62 = .ok (.iaload, 1) := by decide +kernel
theorem dX4_visit_63 : decode cX4_visit 63 = .ok (.iaload, 1) := by decide +kernel
theorem dX4_visit_64 : decode cX4_visit 64 = .ok (.istore 5, 2) := by decide +kernel
theorem dX4_visit_66 : decode cX4_visit 66 = .ok (.aload_n 1, 1) := by decide +kernel
theorem dX4_visit_67 : decode cX4_visit 67 = .ok (.getfield 110, 3) := by decide +kernel
theorem dX4_visit_70 : decode cX4_visit 70 = .ok (.aload_n 0, 1) := by decide +kernel
theorem dX4_visit_71 : decode cX4_visit 71 = .ok (.getfield 17, 3) := by decide +kernel
theorem dX4_visit_74 : decode cX4_visit 74 = .ok (.iload 4, 2) := by decide +kernel
theorem dX4_visit_76 : decode cX4_visit 76 = .ok (.iaload, 1) := by decide +kernel
theorem dX4_visit_77 : decode cX4_visit 77 = .ok (.iaload, 1) := by decide +kernel
theorem dX4_visit_78 : decode cX4_visit 78 = .ok (.istore 6, 2) := by decide +kernel
theorem dX4_visit_80 : decode cX4_visit 80 = .ok (.aload_n 0, 1) := by decide +kernel
theorem dX4_visit_81 : decode cX4_visit 81 = .ok (.getfield 11, 3) := by decide +kernel
theorem dX4_visit_84 : decode cX4_visit 84 = .ok (.iload_n 2, 1) := by decide +kernel
theorem dX4_visit_85 : decode cX4_visit 85 = .ok (.aaload, 1) := by decide +kernel
theorem dX4_visit_86 : decode cX4_visit 86 = .ok (.iload 5, 2) := by decide +kernel
theorem dX4_visit_88 : decode cX4_visit 88 = .ok (.iload 6, 2) := by decide +kernel
theorem dX4_visit_90 : decode cX4_visit 90 = .ok (.invokevirtual 96, 3) := by decide +kernel
theorem dX4_visit_93 : decode cX4_visit 93 = .ok (.istore 7, 2) := by decide +kernel
theorem dX4_visit_95 : decode cX4_visit 95 = .ok (.iload 7, 2) := by decide +kernel
theorem dX4_visit_97 : decode cX4_visit 97 = .ok (.ifCond .ne 13, 3) := by decide +kernel
theorem dX4_visit_100 : decode cX4_visit 100 = .ok (.aload_n 0, 1) := by decide +kernel
theorem dX4_visit_101 : decode cX4_visit 101 = .ok (.aload_n 1, 1) := by decide +kernel
theorem dX4_visit_102 : decode cX4_visit 102 = .ok (.iload 4, 2) := by decide +kernel
theorem dX4_visit_104 : decode cX4_visit 104 = .ok (.invokevirtual 113, 3) := by decide +kernel
theorem dX4_visit_107 : decode cX4_visit 107 = .ok (.ifCond .eq 27, 3) := by decide +kernel
theorem dX4_visit_110 : decode cX4_visit 110 = .ok (.aload_n 0, 1) := by decide +kernel
theorem dX4_visit_111 : decode cX4_visit 111 = .ok (.getfield 11, 3) := by decide +kernel
theorem dX4_visit_114 : decode cX4_visit 114 = .ok (.iload 4, 2) := by decide +kernel
theorem dX4_visit_116 : decode cX4_visit 116 = .ok (.aaload, 1) := by decide +kernel
theorem dX4_visit_117 : decode cX4_visit 117 = .ok (.aload_n 0, 1) := by decide +kernel
theorem dX4_visit_118 : decode cX4_visit 118 = .ok (.getfield 11, 3) := by decide +kernel
theorem dX4_visit_121 : decode cX4_visit 121 = .ok (.iload_n 2, 1) := by decide +kernel
theorem dX4_visit_122 : decode cX4_visit 122 = .ok (.aaload, 1) := by decide +kernel
theorem dX4_visit_123 : decode cX4_visit 123 = .ok (.invokevirtual 117, 3) := by decide +kernel
theorem dX4_visit_126 : decode cX4_visit 126 = .ok (.aload_n 0, 1) := by decide +kernel
theorem dX4_visit_127 : decode cX4_visit 127 = .ok (.aload_n 1, 1) := by decide +kernel
theorem dX4_visit_128 : decode cX4_visit 128 = .ok (.iload 4, 2) := by decide +kernel
theorem dX4_visit_130 : decode cX4_visit 130 = .ok (.iload_n 3, 1) := by decide +kernel
theorem dX4_visit_131 : decode cX4_visit 131 = .ok (.invokevirtual 44, 3) := by decide +kernel
theorem dX4_visit_134 : decode cX4_visit 134 = .ok (.iload 7, 2) := by decide +kernel
theorem dX4_visit_136 : decode cX4_visit 136 = .ok (.ifCond .ne 60, 3) := by decide +kernel
theorem dX4_visit_139 : decode cX4_visit 139 = .ok (.iload_n 3, 1) := by decide +kernel
theorem dX4_visit_140 : decode cX4_visit 140 = .ok (.invokestatic 104, 3) := by decide +kernel
theorem dX4_visit_143 : decode cX4_visit 143 = .ok (.iconst 1, 1) := by decide +kernel
theorem dX4_visit_144 : decode cX4_visit 144 = .ok (.iadd, 1) := by decide +kernel
theorem dX4_visit_145 : decode cX4_visit 145 = .ok (.aload_n 0, 1) := by decide +kernel
theorem dX4_visit_146 : decode cX4_visit 146 = .ok (.getfield 34, 3) := by decide +kernel
theorem dX4_visit_149 : decode cX4_visit 149 = .ok (.if_icmp .ge 47, 3) := by decide +kernel
theorem dX4_visit_152 : decode cX4_visit 152 = .ok (.aload_n 0, 1) := by decide +kernel
theorem dX4_visit_153 : decode cX4_visit 153 = .ok (.getfield 11, 3) := by decide +kernel
theorem dX4_visit_156 : decode cX4_visit 156 = .ok (.iload 4, 2) := by decide +kernel
theorem dX4_visit_158 : decode cX4_visit 158 = .ok (.aaload, 1) := by decide +kernel
theorem dX4_visit_159 : decode cX4_visit 159 = .ok (.aload_n 0, 1) := by decide +kernel
theorem dX4_visit_160 : decode cX4_visit 160 = .ok (.getfield 11, 3) := by decide +kernel
theorem dX4_visit_163 : decode cX4_visit 163 = .ok (.iload_n 2, 1) := by decide +kernel
theorem dX4_visit_164 : decode cX4_visit 164 = .ok (.aaload, 1) := by decide +kernel
theorem dX4_visit_165 : decode cX4_visit 165 = .ok (.invokevirtual 117, 3) := by decide +kernel
theorem dX4_visit_168 : decode cX4_visit 168 = .ok (.aload_n 1, 1) := by decide +kernel
theorem dX4_visit_169 : decode cX4_visit 169 = .ok (.iload 5, 2) := by decide +kernel
theorem dX4_visit_171 : decode cX4_visit 171 = .ok (.iload 6, 2) := by decide +kernel
theorem dX4_visit_173 : decode cX4_visit 173 = .ok (.aload_n 0, 1) := by decide +kernel
theorem dX4_visit_174 : decode cX4_visit 174 = .ok (.getfield 11, 3) := by decide +kernel
theorem dX4_visit_177 : decode cX4_visit 177 = .ok (.iload 4, 2) := by decide +kernel
theorem dX4_visit_179 : decode cX4_visit 179 = .ok (.aaload, 1) := by decide +kernel
theorem dX4_visit_180 : decode cX4_visit 180 = .ok (.invokevirtual 121, 3) := by decide +kernel
theorem dX4_visit_183 : decode cX4_visit 183 = .ok (.aload_n 0, 1) := by decide +kernel
theorem dX4_visit_184 : decode cX4_visit 184 = .ok (.aload_n 1, 1) := by decide +kernel
theorem dX4_visit_185 : decode cX4_visit 185 = .ok (.iload 4, 2) := by decide +kernel
theorem dX4_visit_187 : decode cX4_visit 187 = .ok (.iload_n 3, 1) := by decide +kernel
theorem dX4_visit_188 : decode cX4_visit 188 = .ok (.iconst 1, 1) := by decide +kernel
theorem dX4_visit_189 : decode cX4_visit 189 = .ok (.iload 4, 2) := by decide +kernel
theorem dX4_visit_191 : decode cX4_visit 191 = .ok (.ishl, 1) := by decide +kernel
theorem dX4_visit_192 : decode cX4_visit 192 = .ok (.ior, 1) := by decide +kernel
theorem dX4_visit_193 : decode cX4_visit 193 = .ok (.invokevirtual 44, 3) := by decide +kernel
theorem dX4_visit_196 : decode cX4_visit 196 = .ok (.return_, 1) := by decide +kernel
theorem dX4_note_0 : decode cX4_note 0 = .ok (.aload_n 0, 1) := by decide +kernel
theorem dX4_note_1 : decode cX4_note 1 = .ok (.getfield 30, 3) := by decide +kernel
theorem dX4_note_4 : decode cX4_note 4 = .ok (.ifCond .eq 17, 3) := by decide +kernel
theorem dX4_note_7 : decode cX4_note 7 = .ok (.aload_n 0, 1) := by decide +kernel
theorem dX4_note_8 : decode cX4_note 8 = .ok (.iload_n 1, 1) := by decide +kernel
theorem dX4_note_9 : decode cX4_note 9 = .ok (.putfield 38, 3) := by decide +kernel
theorem dX4_note_12 : decode cX4_note 12 = .ok (.aload_n 0, 1) := by decide +kernel
theorem dX4_note_13 : decode cX4_note 13 = .ok (.iload_n 1, 1) := by decide +kernel
theorem dX4_note_14 : decode cX4_note 14 = .ok (.invokestatic 104, 3) := by decide +kernel
theorem dX4_note_17 : decode cX4_note 17 = .ok (.putfield 34, 3) := by decide +kernel
theorem dX4_note_20 : decode cX4_note 20 = .ok (.return_, 1) := by decide +kernel
theorem dX4_note_21 : decode cX4_note 21 = .ok (.iload_n 1, 1) := by decide +kernel
theorem dX4_note_22 : decode cX4_note 22 = .ok (.istore_n 3, 1) := by decide +kernel
theorem dX4_note_23 : decode cX4_note 23 = .ok (.iload_n 3, 1) := by decide +kernel
theorem dX4_note_24 : decode cX4_note 24 = .ok (.iload_n 1, 1) := by decide +kernel
theorem dX4_note_25 : decode cX4_note 25 = .ok (.iload_n 2, 1) := by decide +kernel
theorem dX4_note_26 : decode cX4_note 26 = .ok (.iadd, 1) := by decide +kernel
theorem dX4_note_27 : decode cX4_note 27 = .ok (.if_icmp .ge 27, 3) := by decide +kernel
theorem dX4_note_30 : decode cX4_note 30 = .ok (.aload_n 0, 1) := by decide +kernel
theorem dX4_note_31 : decode cX4_note 31 = .ok (.getfield 21, 3) := by decide +kernel
theorem dX4_note_34 : decode cX4_note 34 = .ok (.iload_n 3, 1) := by decide +kernel
theorem dX4_note_35 : decode cX4_note 35 = .ok (.bipush 6, 2) := by decide +kernel
theorem dX4_note_37 : decode cX4_note 37 = .ok (.iushr, 1) := by decide +kernel
theorem dX4_note_38 : decode cX4_note 38 = .ok (.dup2, 1) := by decide +kernel
theorem dX4_note_39 : decode cX4_note 39 = .ok (.laload, 1) := by decide +kernel
theorem dX4_note_40 : decode cX4_note 40 = .ok (.lconst 1, 1) := by decide +kernel
theorem dX4_note_41 : decode cX4_note 41 = .ok (.iload_n 3, 1) := by decide +kernel
theorem dX4_note_42 : decode cX4_note 42 = .ok (.bipush 63, 2) := by decide +kernel
theorem dX4_note_44 : decode cX4_note 44 = .ok (.iand, 1) := by decide +kernel
theorem dX4_note_45 : decode cX4_note 45 = .ok (.lshl, 1) := by decide +kernel
theorem dX4_note_46 : decode cX4_note 46 = .ok (.lor, 1) := by decide +kernel
theorem dX4_note_47 : decode cX4_note 47 = .ok (.lastore, 1) := by decide +kernel
theorem dX4_note_48 : decode cX4_note 48 = .ok (.iinc 3 1, 3) := by decide +kernel
theorem dX4_note_51 : decode cX4_note 51 = .ok (.goto (-28), 3) := by decide +kernel
theorem dX4_note_54 : decode cX4_note 54 = .ok (.return_, 1) := by decide +kernel
theorem dX4_canDoWithout_0 : decode cX4_canDoWithout 0 = .ok (.aload_n 0, 1) := by decide +kernel
theorem dX4_canDoWithout_1 : decode cX4_canDoWithout 1 = .ok (.getfield 11, 3) := by decide +kernel
theorem dX4_canDoWithout_4 : decode cX4_canDoWithout 4 = .ok (.iload_n 2, 1) := by decide +kernel
theorem dX4_canDoWithout_5 : decode cX4_canDoWithout 5 = .ok (.aaload, 1) := by decide +kernel
theorem dX4_canDoWithout_6 : decode cX4_canDoWithout 6 = .ok (.aload_n 0, 1) := by decide +kernel
theorem dX4_canDoWithout_7 : decode cX4_canDoWithout 7 = .ok (.getfield 11, 3) := by decide +kernel
theorem dX4_canDoWithout_10 : decode cX4_canDoWithout 10 = .ok (.iload_n 2, 1) := by decide +kernel
theorem dX4_canDoWithout_11 : decode cX4_canDoWithout 11 = .ok (.iconst 1, 1) := by decide +kernel
theorem dX4_canDoWithout_12 : decode cX4_canDoWithout 12 = .ok (.iadd, 1) := by decide +kernel
theorem dX4_canDoWithout_13 : decode cX4_canDoWithout 13 = .ok (.aaload, 1) := by decide +kernel
theorem dX4_canDoWithout_14 : decode cX4_canDoWithout 14 = .ok (.invokevirtual 117, 3) := by decide +kernel
theorem dX4_canDoWithout_17 : decode cX4_canDoWithout 17 = .ok (.iconst 0, 1) := by decide +kernel
theorem dX4_canDoWithout_18 : decode cX4_canDoWithout 18 = .ok (.istore_n 3, 1) := by decide +kernel
theorem dX4_canDoWithout_19 : decode cX4_canDoWithout 19 = .ok (.iload_n 3, 1) := by decide +kernel
theorem dX4_canDoWithout_20 : decode cX4_canDoWithout 20 = .ok (.iload_n 2, 1) := by decide +kernel
theorem dX4_canDoWithout_21 : decode cX4_canDoWithout 21 = .ok (.if_icmp .ge 40, 3) := by decide +kernel
theorem dX4_canDoWithout_24 : decode cX4_canDoWithout 24 = .ok (.aload_n 0, 1) := by decide +kernel
theorem dX4_canDoWithout_25 : decode cX4_canDoWithout 25 = .ok (.getfield 11, 3) := by decide +kernel
theorem dX4_canDoWithout_28 : decode cX4_canDoWithout 28 = .ok (.iload_n 2, 1) := by decide +kernel
theorem dX4_canDoWithout_29 : decode cX4_canDoWithout 29 = .ok (.aaload, 1) := by decide +kernel
theorem dX4_canDoWithout_30 : decode cX4_canDoWithout 30 = .ok (.aload_n 1, 1) := by decide +kernel
theorem dX4_canDoWithout_31 : decode cX4_canDoWithout 31 = .ok (.getfield 93, 3) := by decide +kernel
theorem dX4_canDoWithout_34 : decode cX4_canDoWithout 34 = .ok (.aload_n 0, 1) := by decide +kernel
theorem dX4_canDoWithout_35 : decode cX4_canDoWithout 35 = .ok (.getfield 17, 3) := by decide +kernel
theorem dX4_canDoWithout_38 : decode cX4_canDoWithout 38 = .ok (.iload_n 3, 1) := by decide +kernel
theorem dX4_canDoWithout_39 : decode cX4_canDoWithout 39 = .ok (.iaload, 1) := by decide +kernel
theorem dX4_canDoWithout_40 : decode cX4_canDoWithout 40 = .ok (.iaload, 1) := by decide +kernel
theorem dX4_canDoWithout_41 : decode cX4_canDoWithout 41 = .ok (.aload_n 1, 1) := by decide +kernel
theorem dX4_canDoWithout_42 : decode cX4_canDoWithout 42 = .ok (.getfield 110, 3) := by decide +kernel
theorem dX4_canDoWithout_45 : decode cX4_canDoWithout 45 = .ok (.aload_n 0, 1) := by decide +kernel
theorem dX4_canDoWithout_46 : decode cX4_canDoWithout 46 = .ok (.getfield 17, 3) := by decide +kernel
theorem dX4_canDoWithout_49 : decode cX4_canDoWithout 49 = .ok (.iload_n 3, 1) := by decide +kernel
theorem dX4_canDoWithout_50 : decode cX4_canDoWithout 50 = .ok (.iaload, 1) := by decide +kernel
theorem dX4_canDoWithout_51 : decode cX4_canDoWithout 51 = .ok (.iaload, 1) := by decide +kernel
theorem dX4_canDoWithout_52 : decode cX4_canDoWithout 52 = .ok (.invokevirtual 125, 3) := by decide +kernel
theorem dX4_canDoWithout_55 : decode cX4_canDoWithout 55 = .ok (.iinc 3 1, 3) := by decide +kernel
theorem dX4_canDoWithout_58 : decode cX4_canDoWithout 58 = .ok (.goto (-39), 3) := by decide +kernel
theorem dX4_canDoWithout_61 : decode cX4_canDoWithout 61 = .ok (.aload_n 1, 1) := by decide +kernel
theorem dX4_canDoWithout_62 : decode cX4_canDoWithout 62 = .ok (.getfield 77, 3) := by decide +kernel
theorem dX4_canDoWithout_65 : decode cX4_canDoWithout 65 = .ok (.aload_n 0, 1) := by decide +kernel
theorem dX4_canDoWithout_66 : decode cX4_canDoWithout 66 = .ok (.getfield 11, 3) := by decide +kernel
theorem dX4_canDoWithout_69 : decode cX4_canDoWithout 69 = .ok (.iload_n 2, 1) := by decide +kernel
theorem dX4_canDoWithout_70 : decode cX4_canDoWithout 70 = .ok (.aaload, 1) := by decide +kernel
theorem dX4_canDoWithout_71 : decode cX4_canDoWithout 71 = .ok (.invokevirtual 128, 3) := by decide +kernel
theorem dX4_canDoWithout_74 : decode cX4_canDoWithout 74 = .ok (.aload_n 0, 1) := by decide +kernel
theorem dX4_canDoWithout_75 : decode cX4_canDoWithout 75 = .ok (.getfield 11, 3) := by decide +kernel
theorem dX4_canDoWithout_78 : decode cX4_canDoWithout 78 = .ok (.iload_n 2, 1) := by decide +kernel
theorem dX4_canDoWithout_79 : decode cX4_canDoWithout 79 = .ok (.aaload, 1) := by decide +kernel
theorem dX4_canDoWithout_80 : decode cX4_canDoWithout 80 = .ok (.aload_n 0, 1) := by decide +kernel
theorem dX4_canDoWithout_81 : decode cX4_canDoWithout 81 = .ok (.getfield 54, 3) := by decide +kernel
theorem dX4_canDoWithout_84 : decode cX4_canDoWithout 84 = .ok (.aload_n 0, 1) := by decide +kernel
theorem dX4_canDoWithout_85 : decode cX4_canDoWithout 85 = .ok (.getfield 57, 3) := by decide +kernel
theorem dX4_canDoWithout_88 : decode cX4_canDoWithout 88 = .ok (.invokevirtual 96, 3) := by decide +kernel
theorem dX4_canDoWithout_91 : decode cX4_canDoWithout 91 = .ok (.ireturn, 1) := by decide +kernel
theorem dX4_holds_0 : decode cX4_holds 0 = .ok (.aload_n 0, 1) := by decide +kernel
theorem dX4_holds_1 : decode cX4_holds 1 = .ok (.getfield 21, 3) := by decide +kernel
theorem dX4_holds_4 : decode cX4_holds 4 = .ok (.iload_n 1, 1) := by decide +kernel
theorem dX4_holds_5 : decode cX4_holds 5 = .ok (.bipush 6, 2) := by decide +kernel
theorem dX4_holds_7 : decode cX4_holds 7 = .ok (.iushr, 1) := by decide +kernel
theorem dX4_holds_8 : decode cX4_holds 8 = .ok (.laload, 1) := by decide +kernel
theorem dX4_holds_9 : decode cX4_holds 9 = .ok (.iload_n 1, 1) := by decide +kernel
theorem dX4_holds_10 : decode cX4_holds 10 = .ok (.bipush 63, 2) := by decide +kernel
theorem dX4_holds_12 : decode cX4_holds 12 = .ok (.iand, 1) := by decide +kernel
theorem dX4_holds_13 : decode cX4_holds 13 = .ok (.lushr, 1) := by decide +kernel
theorem dX4_holds_14 : decode cX4_holds 14 = .ok (.lconst 1, 1) := by decide +kernel
theorem dX4_holds_15 : decode cX4_holds 15 = .ok (.land, 1) := by decide +kernel
theorem dX4_holds_16 : decode cX4_holds 16 = .ok (.lconst 0, 1) := by decide +kernel
theorem dX4_holds_17 : decode cX4_holds 17 = .ok (.lcmp, 1) := by decide +kernel
theorem dX4_holds_18 : decode cX4_holds 18 = .ok (.ifCond .eq 7, 3) := by decide +kernel
theorem dX4_holds_21 : decode cX4_holds 21 = .ok (.iconst 1, 1) := by decide +kernel
theorem dX4_holds_22 : decode cX4_holds 22 = .ok (.goto 4, 3) := by decide +kernel
theorem dX4_holds_25 : decode cX4_holds 25 = .ok (.iconst 0, 1) := by decide +kernel
theorem dX4_holds_26 : decode cX4_holds 26 = .ok (.ireturn, 1) := by decide +kernel
theorem dX4_holdsWithLess_0 : decode cX4_holdsWithLess 0 = .ok (.iconst 0, 1) := by decide +kernel
theorem dX4_holdsWithLess_1 : decode cX4_holdsWithLess 1 = .ok (.istore_n 2, 1) := by decide +kernel
theorem dX4_holdsWithLess_2 : decode cX4_holdsWithLess 2 = .ok (.iload_n 2, 1) := by decide +kernel
theorem dX4_holdsWithLess_3 : decode cX4_holdsWithLess 3 = .ok (.aload_n 0, 1) := by decide +kernel
theorem dX4_holdsWithLess_4 : decode cX4_holdsWithLess 4 = .ok (.getfield 41, 3) := by decide +kernel
theorem dX4_holdsWithLess_7 : decode cX4_holdsWithLess 7 = .ok (.if_icmp .ge 33, 3) := by decide +kernel
theorem dX4_holdsWithLess_10 : decode cX4_holdsWithLess 10 = .ok (.iload_n 1, 1) := by decide +kernel
theorem dX4_holdsWithLess_11 : decode cX4_holdsWithLess 11 = .ok (.iload_n 2, 1) := by decide +kernel
theorem dX4_holdsWithLess_12 : decode cX4_holdsWithLess 12 = .ok (.iushr, 1) := by decide +kernel
theorem dX4_holdsWithLess_13 : decode cX4_holdsWithLess 13 = .ok (.iconst 1, 1) := by decide +kernel
theorem dX4_holdsWithLess_14 : decode cX4_holdsWithLess 14 = .ok (.iand, 1) := by decide +kernel
theorem dX4_holdsWithLess_15 : decode cX4_holdsWithLess 15 = .ok (.ifCond .eq 19, 3) := by decide +kernel
theorem dX4_holdsWithLess_18 : decode cX4_holdsWithLess 18 = .ok (.aload_n 0, 1) := by decide +kernel
theorem dX4_holdsWithLess_19 : decode cX4_holdsWithLess 19 = .ok (.iload_n 1, 1) := by decide +kernel
theorem dX4_holdsWithLess_20 : decode cX4_holdsWithLess 20 = .ok (.iconst 1, 1) := by decide +kernel
theorem dX4_holdsWithLess_21 : decode cX4_holdsWithLess 21 = .ok (.iload_n 2, 1) := by decide +kernel
theorem dX4_holdsWithLess_22 : decode cX4_holdsWithLess 22 = .ok (.ishl, 1) := by decide +kernel
theorem dX4_holdsWithLess_23 : decode cX4_holdsWithLess 23 = .ok (.iconst (-1), 1) := by decide +kernel
theorem dX4_holdsWithLess_24 : decode cX4_holdsWithLess 24 = .ok (.ixor, 1) := by decide +kernel
theorem dX4_holdsWithLess_25 : decode cX4_holdsWithLess 25 = .ok (.iand, 1) := by decide +kernel
theorem dX4_holdsWithLess_26 : decode cX4_holdsWithLess 26 = .ok (.invokevirtual 47, 3) := by decide +kernel
theorem dX4_holdsWithLess_29 : decode cX4_holdsWithLess 29 = .ok (.ifCond .eq 5, 3) := by decide +kernel
theorem dX4_holdsWithLess_32 : decode cX4_holdsWithLess 32 = .ok (.iconst 1, 1) := by decide +kernel
theorem dX4_holdsWithLess_33 : decode cX4_holdsWithLess 33 = .ok (.ireturn, 1) := by decide +kernel
theorem dX4_holdsWithLess_34 : decode cX4_holdsWithLess 34 = .ok (.iinc 2 1, 3) := by decide +kernel
theorem dX4_holdsWithLess_37 : decode cX4_holdsWithLess 37 = .ok (.goto (-35), 3) := by decide +kernel
theorem dX4_holdsWithLess_40 : decode cX4_holdsWithLess 40 = .ok (.iconst 0, 1) := by decide +kernel
theorem dX4_holdsWithLess_41 : decode cX4_holdsWithLess 41 = .ok (.ireturn, 1) := by decide +kernel
theorem dX5_init_0 : decode cX5_init 0 = .ok (.aload_n 0, 1) := by decide +kernel
theorem dX5_init_1 : decode cX5_init 1 = .ok (.invokespecial 3, 3) := by decide +kernel
theorem dX5_init_4 : decode cX5_init 4 = .ok (.aload_n 0, 1) := by decide +kernel
theorem dX5_init_5 : decode cX5_init 5 = .ok (.iconst 3, 1) := by decide +kernel
theorem dX5_init_6 : decode cX5_init 6 = .ok (.newarray .int, 2) := by decide +kernel
theorem dX5_init_8 : decode cX5_init 8 = .ok (.putfield 9, 3) := by decide +kernel
theorem dX5_init_11 : decode cX5_init 11 = .ok (.aload_n 0, 1) := by decide +kernel
theorem dX5_init_12 : decode cX5_init 12 = .ok (.aload_n 1, 1) := by decide +kernel
theorem dX5_init_13 : decode cX5_init 13 = .ok (.putfield 15, 3) := by decide +kernel
theorem dX5_init_16 : decode cX5_init 16 = .ok (.aload_n 0, 1) := by decide +kernel
theorem dX5_init_17 : decode cX5_init 17 = .ok (.iload_n 2, 1) := by decide +kernel
theorem dX5_init_18 : decode cX5_init 18 = .ok (.putfield 19, 3) := by decide +kernel
theorem dX5_init_21 : decode cX5_init 21 = .ok (.aload_n 0, 1) := by decide +kernel
theorem dX5_init_22 : decode cX5_init 22 = .ok (.aload_n 3, 1) := by decide +kernel
theorem dX5_init_23 : decode cX5_init 23 = .ok (.putfield 23, 3) := by decide +kernel
theorem dX5_init_26 : decode cX5_init 26 = .ok (.return_, 1) := by decide +kernel
theorem dX5_readText_0 : decode cX5_readText 0 = .ok (.aload_n 0, 1) := by decide +kernel
theorem dX5_readText_1 : decode cX5_readText 1 = .ok (.getfield 23, 3) := by decide +kernel
theorem dX5_readText_4 : decode cX5_readText 4 = .ok (.invokevirtual 27, 3) := by decide +kernel
theorem dX5_readText_7 : decode cX5_readText 7 = .ok (.aload_n 0, 1) := by decide +kernel
theorem dX5_readText_8 : decode cX5_readText 8 = .ok (.invokevirtual 32, 3) := by decide +kernel
theorem dX5_readText_11 : decode cX5_readText 11 = .ok (.iconst 0, 1) := by decide +kernel
theorem dX5_readText_12 : decode cX5_readText 12 = .ok (.istore_n 1, 1) := by decide +kernel
theorem dX5_readText_13 : decode cX5_readText 13 = .ok (.iload_n 1, 1) := by decide +kernel
theorem dX5_readText_14 : decode cX5_readText 14 = .ok (.sipush 500, 3) := by decide +kernel
theorem dX5_readText_17 : decode cX5_readText 17 = .ok (.if_icmp .gt 46, 3) := by decide +kernel
theorem dX5_readText_20 : decode cX5_readText 20 = .ok (.aload_n 0, 1) := by decide +kernel
theorem dX5_readText_21 : decode cX5_readText 21 = .ok (.invokevirtual 35, 3) := by decide +kernel
theorem dX5_readText_24 : decode cX5_readText 24 = .ok (.ifCond .ne 5, 3) := by decide +kernel
theorem dX5_readText_27 : decode cX5_readText 27 = .ok (.iconst 0, 1) := by decide +kernel
theorem dX5_readText_28 : decode cX5_readText 28 = .ok (.ireturn, 1) := by decide +kernel
theorem dX5_readText_29 : decode cX5_readText 29 = .ok (.aload_n 0, 1) := by decide +kernel
theorem dX5_readText_30 : decode cX5_readText 30 = .ok (.getfield 39, 3) := by decide +kernel
theorem dX5_readText_33 : decode cX5_readText 33 = .ok (.ifCond .ne 5, 3) := by decide +kernel
theorem dX5_readText_36 : decode cX5_readText 36 = .ok (.iconst 1, 1) := by decide +kernel
theorem dX5_readText_37 : decode cX5_readText 37 = .ok (.ireturn, 1) := by decide +kernel
theorem dX5_readText_38 : decode cX5_readText 38 = .ok (.aload_n 0, 1) := by decide +kernel
theorem dX5_readText_39 : decode cX5_readText 39 = .ok (.bipush 59, 2) := by decide +kernel
theorem dX5_readText_41 : decode cX5_readText 41 = .ok (.invokevirtual 42, 3) := by decide +kernel
theorem dX5_readText_44 : decode cX5_readText 44 = .ok (.ifCond .ne 9, 3) := by decide +kernel
theorem dX5_readText_47 : decode cX5_readText 47 = .ok (.aload_n 0, 1) := by decide +kernel
theorem dX5_readText_48 : decode cX5_readText 48 = .ok (.iconst 1, 1) := by decide +kernel
theorem dX5_readText_49 : decode cX5_readText 49 = .ok (.invokevirtual 46, 3) := by decide +kernel
theorem dX5_readText_52 : decode cX5_readText 52 = .ok (.ireturn, 1) := by decide +kernel
theorem dX5_readText_53 : decode cX5_readText 53 = .ok (.aload_n 0, 1) := by decide +kernel
theorem dX5_readText_54 : decode cX5_readText 54 = .ok (.invokevirtual 32, 3) := by decide +kernel
theorem dX5_readText_57 : decode cX5_readText 57 = .ok (.iinc 1 1, 3) := by decide +kernel
theorem dX5_readText_60 : decode cX5_readText 60 = .ok (.goto (-47), 3) := by decide +kernel
theorem dX5_readText_63 : decode cX5_readText 63 = .ok (.aload_n 0, 1) := by decide +kernel
theorem dX5_readText_64 : decode cX5_readText 64 = .ok (.iconst 1, 1) := by decide +kernel
theorem dX5_readText_65 : decode cX5_readText 65 = .ok (.invokevirtual 46, 3) := by decide +kernel
theorem dX5_readText_68 : decode cX5_readText 68 = .ok (.ireturn, 1) := by decide +kernel
theorem dX5_readLine_0 : decode cX5_readLine 0 = .ok (.aload_n 0, 1) := by decide +kernel
theorem dX5_readLine_1 : decode cX5_readLine 1 = .ok (.getfield 39, 3) := by decide +kernel
theorem dX5_readLine_4 : decode cX5_readLine 4 = .ok (.iconst 1, 1) := by decide +kernel
theorem dX5_readLine_5 : decode cX5_readLine 5 = .ok (.if_icmp .eq 9, 3) := by decide +kernel
theorem dX5_readLine_8 : decode cX5_readLine 8 = .ok (.aload_n 0, 1) := by decide +kernel
theorem dX5_readLine_9 : decode cX5_readLine 9 = .ok (.iconst 1, 1) := by decide +kernel
theorem dX5_readLine_10 : decode cX5_readLine 10 = .ok (.invokevirtual 46, 3) := by decide +kernel
theorem dX5_readLine_13 : decode cX5_readLine 13 = .ok (.ireturn, 1) := by decide +kernel
theorem dX5_readLine_14 : decode cX5_readLine 14 = .ok (.aload_n 0, 1) := by decide +kernel
theorem dX5_readLine_15 : decode cX5_readLine 15 = .ok (.getfield 50, 3) := by decide +kernel
theorem dX5_readLine_18 : decode cX5_readLine 18 = .ok (.lookupswitch 104 #[(4955, 42), (85461, 78), (375062, 52), (397804, 47)], 42) := by decide +kernel
theorem dX5_readLine_60 : decode cX5_readLine 60 = .ok (.aload_n 0, 1) := by decide +kernel
theorem dX5_readLine_61 : decode cX5_readLine 61 = .ok (.invokevirtual 53, 3) := by decide +kernel
theorem dX5_readLine_64 : decode cX5_readLine 64 = .ok (.ireturn, 1) := by decide +kernel
theorem dX5_readLine_65 : decode cX5_readLine 65 = .ok (.aload_n 0, 1) := by decide +kernel
theorem dX5_readLine_66 : decode cX5_readLine 66 = .ok (.invokevirtual 56, 3) := by decide +kernel
theorem dX5_readLine_69 : decode cX5_readLine 69 = .ok (.ireturn, 1) := by decide +kernel
theorem dX5_readLine_70 : decode cX5_readLine 70 = .ok (.aload_n 0, 1) := by decide +kernel
theorem dX5_readLine_71 : decode cX5_readLine 71 = .ok (.getfield 23, 3) := by decide +kernel
theorem dX5_readLine_74 : decode cX5_readLine 74 = .ok (.getfield 59, 3) := by decide +kernel
theorem dX5_readLine_77 : decode cX5_readLine 77 = .ok (.bipush 12, 2) := by decide +kernel
theorem dX5_readLine_79 : decode cX5_readLine 79 = .ok (.if_icmp .lt 11, 3) := by decide +kernel
theorem dX5_readLine_82 : decode cX5_readLine 82 = .ok (.aload_n 0, 1) := by decide +kernel
theorem dX5_readLine_83 : decode cX5_readLine 83 = .ok (.iconst 4, 1) := by decide +kernel
theorem dX5_readLine_84 : decode cX5_readLine 84 = .ok (.invokevirtual 46, 3) := by decide +kernel
theorem dX5_readLine_87 : decode cX5_readLine 87 = .ok (.goto 8, 3) := by decide +kernel
theorem dX5_readLine_90 : decode cX5_readLine 90 = .ok (.aload_n 0, 1) := by decide +kernel
theorem dX5_readLine_91 : decode cX5_readLine 91 = .ok (.iconst 1, 1) := by decide +kernel
theorem dX5_readLine_92 : decode cX5_readLine 92 = .ok (.invokevirtual 62, 3) := by decide +kernel
theorem dX5_readLine_95 : decode cX5_readLine 95 = .ok (.ireturn, 1) := by decide +kernel
theorem dX5_readLine_96 : decode cX5_readLine 96 = .ok (.aload_n 0, 1) := by decide +kernel
theorem dX5_readLine_97 : decode cX5_readLine 97 = .ok (.getfield 23, 3) := by decide +kernel
theorem dX5_readLine_100 : decode cX5_readLine 100 = .ok (.getfield 66, 3) := by decide +kernel
theorem dX5_readLine_103 : decode cX5_readLine 103 = .ok (.bipush 8, 2) := by decide +kernel
theorem dX5_readLine_105 : decode cX5_readLine 105 = .ok (.if_icmp .lt 11, 3) := by decide +kernel
theorem dX5_readLine_108 : decode cX5_readLine 108 = .ok (.aload_n 0, 1) := by decide +kernel
theorem dX5_readLine_109 : decode cX5_readLine 109 = .ok (.iconst 4, 1) := by decide +kernel
theorem dX5_readLine_110 : decode cX5_readLine 110 = .ok (.invokevirtual 46, 3) := by decide +kernel
theorem dX5_readLine_113 : decode cX5_readLine 113 = .ok (.goto 8, 3) := by decide +kernel
theorem dX5_readLine_116 : decode cX5_readLine 116 = .ok (.aload_n 0, 1) := by decide +kernel
theorem dX5_readLine_117 : decode cX5_readLine 117 = .ok (.iconst 0, 1) := by decide +kernel
theorem dX5_readLine_118 : decode cX5_readLine 118 = .ok (.invokevirtual 62, 3) := by decide +kernel
theorem dX5_readLine_121 : decode cX5_readLine 121 = .ok (.ireturn, 1) := by decide +kernel
theorem dX5_readLine_122 : decode cX5_readLine 122 = .ok (.aload_n 0, 1) := by decide +kernel
theorem dX5_readLine_123 : decode cX5_readLine 123 = .ok (.iconst 1, 1) := by decide +kernel
theorem dX5_readLine_124 : decode cX5_readLine 124 = .ok (.invokevirtual 46, 3) := by decide +kernel
theorem dX5_readLine_127 : decode cX5_readLine 127 = .ok (.ireturn, 1) := by decide +kernel
theorem dX5_readFunction_0 : decode cX5_readFunction 0 = .ok (.aload_n 0, 1) := by decide +kernel
theorem dX5_readFunction_1 : decode cX5_readFunction 1 = .ok (.getfield 23, 3) := by decide +kernel
theorem dX5_readFunction_4 : decode cX5_readFunction 4 = .ok (.getfield 69, 3) := by decide +kernel
theorem dX5_readFunction_7 : decode cX5_readFunction 7 = .ok (.getfield 73, 3) := by decide +kernel
theorem dX5_readFunction_10 : decode cX5_readFunction 10 = .ok (.bipush 8, 2) := by decide +kernel
theorem dX5_readFunction_12 : decode cX5_readFunction 12 = .ok (.if_icmp .lt 9, 3) := by decide +kernel
theorem dX5_readFunction_15 : decode cX5_readFunction 15 = .ok (.aload_n 0, 1) := by decide +kernel
theorem dX5_readFunction_16 : decode cX5_readFunction 16 = .ok (.iconst 4, 1) := by decide +kernel
theorem dX5_readFunction_17 : decode cX5_readFunction 17 = .ok (.invokevirtual 46, 3) := by decide +kernel
theorem dX5_readFunction_20 : decode cX5_readFunction 20 = .ok (.ireturn, 1) := by decide +kernel
theorem dX5_readFunction_21 : decode cX5_readFunction 21 = .ok (.aload_n 0, 1) := by decide +kernel
theorem dX5_readFunction_22 : decode cX5_readFunction 22 = .ok (.invokevirtual 32, 3) := by decide +kernel
theorem dX5_readFunction_25 : decode cX5_readFunction 25 = .ok (.aload_n 0, 1) := by decide +kernel
theorem dX5_readFunction_26 : decode cX5_readFunction 26 = .ok (.invokevirtual 78, 3) := by decide +kernel
theorem dX5_readFunction_29 : decode cX5_readFunction 29 = .ok (.ifCond .ne 5, 3) := by decide +kernel
theorem dX5_readFunction_32 : decode cX5_readFunction 32 = .ok (.iconst 0, 1) := by decide +kernel
theorem dX5_readFunction_33 : decode cX5_readFunction 33 = .ok (.ireturn, 1) := by decide +kernel
theorem dX5_readFunction_34 : decode cX5_readFunction 34 = .ok (.aload_n 0, 1) := by decide +kernel
theorem dX5_readFunction_35 : decode cX5_readFunction 35 = .ok (.getfield 50, 3) := by decide +kernel
theorem dX5_readFunction_38 : decode cX5_readFunction 38 = .ok (.istore_n 1, 1) := by decide +kernel
theorem dX5_readFunction_39 : decode cX5_readFunction 39 = .ok (.aload_n 0, 1) := by decide +kernel
theorem dX5_readFunction_40 : decode cX5_readFunction 40 = .ok (.invokevirtual 32, 3) := by decide +kernel
theorem dX5_readFunction_43 : decode cX5_readFunction 43 = .ok (.aload_n 0, 1) := by decide +kernel
theorem dX5_readFunction_44 : decode cX5_readFunction 44 = .ok (.getfield 39, 3) := by decide +kernel
theorem dX5_readFunction_47 : decode cX5_readFunction 47 = .ok (.iconst 2, 1) := by decide +kernel
theorem dX5_readFunction_48 : decode cX5_readFunction 48 = .ok (.if_icmp .eq 9, 3) := by decide +kernel
theorem dX5_readFunction_51 : decode cX5_readFunction 51 = .ok (.aload_n 0, 1) := by decide +kernel
theorem dX5_readFunction_52 : decode cX5_readFunction 52 = .ok (.iconst 1, 1) := by decide +kernel
theorem dX5_readFunction_53 : decode cX5_readFunction 53 = .ok (.invokevirtual 46, 3) := by decide +kernel
theorem dX5_readFunction_56 : decode cX5_readFunction 56 = .ok (.ireturn, 1) := by decide +kernel
theorem dX5_readFunction_57 : decode cX5_readFunction 57 = .ok (.aload_n 0, 1) := by decide +kernel
theorem dX5_readFunction_58 : decode cX5_readFunction 58 = .ok (.getfield 50, 3) := by decide +kernel
theorem dX5_readFunction_61 : decode cX5_readFunction 61 = .ok (.iconst 3, 1) := by decide +kernel
theorem dX5_readFunction_62 : decode cX5_readFunction 62 = .ok (.if_icmp .le 9, 3) := by decide +kernel
theorem dX5_readFunction_65 : decode cX5_readFunction 65 = .ok (.aload_n 0, 1) := by decide +kernel
theorem dX5_readFunction_66 : decode cX5_readFunction 66 = .ok (.iconst 2, 1) := by decide +kernel
theorem dX5_readFunction_67 : decode cX5_readFunction 67 = .ok (.invokevirtual 46, 3) := by decide +kernel
theorem dX5_readFunction_70 : decode cX5_readFunction 70 = .ok (.ireturn, 1) := by decide +kernel
theorem dX5_readFunction_71 : decode cX5_readFunction 71 = .ok (.aload_n 0, 1) := by decide +kernel
theorem dX5_readFunction_72 : decode cX5_readFunction 72 = .ok (.getfield 23, 3) := by decide +kernel
theorem dX5_readFunction_75 : decode cX5_readFunction 75 = .ok (.getfield 69, 3) := by decide +kernel
theorem dX5_readFunction_78 : decode cX5_readFunction 78 = .ok (.iload_n 1, 1) := by decide +kernel
theorem dX5_readFunction_79 : decode cX5_readFunction 79 = .ok (.aload_n 0, 1) := by decide +kernel
theorem dX5_readFunction_80 : decode cX5_readFunction 80 = .ok (.getfield 50, 3) := by decide +kernel
theorem dX5_readFunction_83 : decode cX5_readFunction 83 = .ok (.invokevirtual 81, 3) := by decide +kernel
theorem dX5_readFunction_86 : decode cX5_readFunction 86 = .ok (.aload_n 0, 1) := by decide +kernel
theorem dX5_readFunction_87 : decode cX5_readFunction 87 = .ok (.invokevirtual 32, 3) := by decide +kernel
theorem dX5_readFunction_90 : decode cX5_readFunction 90 = .ok (.iconst 1, 1) := by decide +kernel
theorem dX5_readFunction_91 : decode cX5_readFunction 91 = .ok (.ireturn, 1) := by decide +kernel
theorem dX5_readTerm_0 : decode cX5_readTerm 0 = .ok (.aload_n 0, 1) := by decide +kernel
theorem dX5_readTerm_1 : decode cX5_readTerm 1 = .ok (.getfield 23, 3) := by decide +kernel
theorem dX5_readTerm_4 : decode cX5_readTerm 4 = .ok (.getfield 69, 3) := by decide +kernel
theorem dX5_readTerm_7 : decode cX5_readTerm 7 = .ok (.getfield 85, 3) := by decide +kernel
theorem dX5_readTerm_10 : decode cX5_readTerm 10 = .ok (.bipush 24, 2) := by decide +kernel
theorem dX5_readTerm_12 : decode cX5_readTerm 12 = .ok (.if_icmp .lt 9, 3) := by decide +kernel
theorem dX5_readTerm_15 : decode cX5_readTerm 15 = .ok (.aload_n 0, 1) := by decide +kernel
theorem dX5_readTerm_16 : decode cX5_readTerm 16 = .ok (.iconst 4, 1) := by decide +kernel
theorem dX5_readTerm_17 : decode cX5_readTerm 17 = .ok (.invokevirtual 46, 3) := by decide +kernel
theorem dX5_readTerm_20 : decode cX5_readTerm 20 = .ok (.ireturn, 1) := by decide +kernel
theorem dX5_readTerm_21 : decode cX5_readTerm 21 = .ok (.aload_n 0, 1) := by decide +kernel
theorem dX5_readTerm_22 : decode cX5_readTerm 22 = .ok (.invokevirtual 32, 3) := by decide +kernel
theorem dX5_readTerm_25 : decode cX5_readTerm 25 = .ok (.aload_n 0, 1) := by decide +kernel
theorem dX5_readTerm_26 : decode cX5_readTerm 26 = .ok (.invokevirtual 78, 3) := by decide +kernel
theorem dX5_readTerm_29 : decode cX5_readTerm 29 = .ok (.ifCond .ne 5, 3) := by decide +kernel
theorem dX5_readTerm_32 : decode cX5_readTerm 32 = .ok (.iconst 0, 1) := by decide +kernel
theorem dX5_readTerm_33 : decode cX5_readTerm 33 = .ok (.ireturn, 1) := by decide +kernel
theorem dX5_readTerm_34 : decode cX5_readTerm 34 = .ok (.aload_n 0, 1) := by decide +kernel
theorem dX5_readTerm_35 : decode cX5_readTerm 35 = .ok (.getfield 50, 3) := by decide +kernel
theorem dX5_readTerm_38 : decode cX5_readTerm 38 = .ok (.istore_n 1, 1) := by decide +kernel
theorem dX5_readTerm_39 : decode cX5_readTerm 39 = .ok (.aload_n 0, 1) := by decide +kernel
theorem dX5_readTerm_40 : decode cX5_readTerm 40 = .ok (.invokevirtual 32, 3) := by decide +kernel
theorem dX5_readTerm_43 : decode cX5_readTerm 43 = .ok (.aload_n 0, 1) := by decide +kernel
theorem dX5_readTerm_44 : decode cX5_readTerm 44 = .ok (.bipush 61, 2) := by decide +kernel
theorem dX5_readTerm_46 : decode cX5_readTerm 46 = .ok (.invokevirtual 42, 3) := by decide +kernel
theorem dX5_readTerm_49 : decode cX5_readTerm 49 = .ok (.ifCond .ne 9, 3) := by decide +kernel
theorem dX5_readTerm_52 : decode cX5_readTerm 52 = .ok (.aload_n 0, 1) := by decide +kernel
theorem dX5_readTerm_53 : decode cX5_readTerm 53 = .ok (.iconst 1, 1) := by decide +kernel
theorem dX5_readTerm_54 : decode cX5_readTerm 54 = .ok (.invokevirtual 46, 3) := by decide +kernel
theorem dX5_readTerm_57 : decode cX5_readTerm 57 = .ok (.ireturn, 1) := by decide +kernel
theorem dX5_readTerm_58 : decode cX5_readTerm 58 = .ok (.aload_n 0, 1) := by decide +kernel
theorem dX5_readTerm_59 : decode cX5_readTerm 59 = .ok (.invokevirtual 32, 3) := by decide +kernel
theorem dX5_readTerm_62 : decode cX5_readTerm 62 = .ok (.aload_n 0, 1) := by decide +kernel
theorem dX5_readTerm_63 : decode cX5_readTerm 63 = .ok (.invokevirtual 88, 3) := by decide +kernel
theorem dX5_readTerm_66 : decode cX5_readTerm 66 = .ok (.ifCond .ne 9, 3) := by decide +kernel
theorem dX5_readTerm_69 : decode cX5_readTerm 69 = .ok (.aload_n 0, 1) := by decide +kernel
theorem dX5_readTerm_70 : decode cX5_readTerm 70 = .ok (.iconst 1, 1) := by decide +kernel
theorem dX5_readTerm_71 : decode cX5_readTerm 71 = .ok (.invokevirtual 46, 3) := by decide +kernel
theorem dX5_readTerm_74 : decode cX5_readTerm 74 = .ok (.ireturn, 1) := by decide +kernel
theorem dX5_readTerm_75 : decode cX5_readTerm 75 = .ok (.aload_n 0, 1) := by decide +kernel
theorem dX5_readTerm_76 : decode cX5_readTerm 76 = .ok (.getfield 23, 3) := by decide +kernel
theorem dX5_readTerm_79 : decode cX5_readTerm 79 = .ok (.getfield 69, 3) := by decide +kernel
theorem dX5_readTerm_82 : decode cX5_readTerm 82 = .ok (.aload_n 0, 1) := by decide +kernel
theorem dX5_readTerm_83 : decode cX5_readTerm 83 = .ok (.getfield 50, 3) := by decide +kernel
theorem dX5_readTerm_86 : decode cX5_readTerm 86 = .ok (.invokevirtual 91, 3) := by decide +kernel
theorem dX5_readTerm_89 : decode cX5_readTerm 89 = .ok (.istore_n 2, 1) := by decide +kernel
theorem dX5_readTerm_90 : decode cX5_readTerm 90 = .ok (.iload_n 2, 1) := by decide +kernel
theorem dX5_readTerm_91 : decode cX5_readTerm 91 = .ok (.ifCond .ge 9, 3) := by decide +kernel
theorem dX5_readTerm_94 : decode cX5_readTerm 94 = .ok (.aload_n 0, 1) := by decide +kernel
theorem dX5_readTerm_95 : decode cX5_readTerm 95 = .ok (.iconst 3, 1) := by decide +kernel
theorem dX5_readTerm_96 : decode cX5_readTerm 96 = .ok (.invokevirtual 46, 3) := by decide +kernel
theorem dX5_readTerm_99 : decode cX5_readTerm 99 = .ok (.ireturn, 1) := by decide +kernel
theorem dX5_readTerm_100 : decode cX5_readTerm 100 = .ok (.aload_n 0, 1) := by decide +kernel
theorem dX5_readTerm_101 : decode cX5_readTerm 101 = .ok (.invokevirtual 32, 3) := by decide +kernel
theorem dX5_readTerm_104 : decode cX5_readTerm 104 = .ok (.aload_n 0, 1) := by decide +kernel
theorem dX5_readTerm_105 : decode cX5_readTerm 105 = .ok (.aload_n 0, 1) := by decide +kernel
theorem dX5_readTerm_106 : decode cX5_readTerm 106 = .ok (.getfield 23, 3) := by decide +kernel
theorem dX5_readTerm_109 : decode cX5_readTerm 109 = .ok (.getfield 69, 3) := by decide +kernel
theorem dX5_readTerm_112 : decode cX5_readTerm 112 = .ok (.getfield 95, 3) := by decide +kernel
theorem dX5_readTerm_115 : decode cX5_readTerm 115 = .ok (.iload_n 2, 1) := by decide +kernel
theorem dX5_readTerm_116 : decode cX5_readTerm 116 = .ok (.iaload, 1) := by decide +kernel
theorem dX5_readTerm_117 : decode cX5_readTerm 117 = .ok (.invokevirtual 98, 3) := by decide +kernel
theorem dX5_readTerm_120 : decode cX5_readTerm 120 = .ok (.ifCond .ne 5, 3) := by decide +kernel
theorem dX5_readTerm_123 : decode cX5_readTerm 123 = .ok (.iconst 0, 1) := by decide +kernel
theorem dX5_readTerm_124 : decode cX5_readTerm 124 = .ok (.ireturn, 1) := by decide +kernel
theorem dX5_readTerm_125 : decode cX5_readTerm 125 = .ok (.aload_n 0, 1) := by decide +kernel
theorem dX5_readTerm_126 : decode cX5_readTerm 126 = .ok (.getfield 23, 3) := by decide +kernel
theorem dX5_readTerm_129 : decode cX5_readTerm 129 = .ok (.iload_n 1, 1) := by decide +kernel
theorem dX5_readTerm_130 : decode cX5_readTerm 130 = .ok (.iload_n 2, 1) := by decide +kernel
theorem dX5_readTerm_131 : decode cX5_readTerm 131 = .ok (.aload_n 0, 1) := by decide +kernel
theorem dX5_readTerm_132 : decode cX5_readTerm 132 = .ok (.getfield 9, 3) := by decide +kernel
theorem dX5_readTerm_135 : decode cX5_readTerm 135 = .ok (.iconst 0, 1) := by decide +kernel
theorem dX5_readTerm_136 : decode cX5_readTerm 136 = .ok (.iaload, 1) := by decide +kernel
theorem dX5_readTerm_137 : decode cX5_readTerm 137 = .ok (.aload_n 0, 1) := by decide +kernel
theorem dX5_readTerm_138 : decode cX5_readTerm 138 = .ok (.getfield 9, 3) := by decide +kernel
theorem dX5_readTerm_141 : decode cX5_readTerm 141 = .ok (.iconst 1, 1) := by decide +kernel
theorem dX5_readTerm_142 : decode cX5_readTerm 142 = .ok (.iaload, 1) := by decide +kernel
theorem dX5_readTerm_143 : decode cX5_readTerm 143 = .ok (.aload_n 0, 1) := by decide +kernel
theorem dX5_readTerm_144 : decode cX5_readTerm 144 = .ok (.getfield 9, 3) := by decide +kernel
theorem dX5_readTerm_147 : decode cX5_readTerm 147 = .ok (.iconst 2, 1) := by decide +kernel
theorem dX5_readTerm_148 : decode cX5_readTerm 148 = .ok (.iaload, 1) := by decide +kernel
theorem dX5_readTerm_149 : decode cX5_readTerm 149 = .ok (.invokevirtual 101, 3) := by decide +kernel
theorem dX5_readTerm_152 : decode cX5_readTerm 152 = .ok (.iconst 1, 1) := by decide +kernel
theorem dX5_readTerm_153 : decode cX5_readTerm 153 = .ok (.ireturn, 1) := by decide +kernel
theorem dX5_readParts_0 : decode cX5_readParts 0 = .ok (.aload_n 0, 1) := by decide +kernel
theorem dX5_readParts_1 : decode cX5_readParts 1 = .ok (.bipush 40, 2) := by decide +kernel
theorem dX5_readParts_3 : decode cX5_readParts 3 = .ok (.invokevirtual 42, 3) := by decide +kernel
theorem dX5_readParts_6 : decode cX5_readParts 6 = .ok (.ifCond .ne 55, 3) := by decide +kernel
theorem dX5_readParts_9 : decode cX5_readParts 9 = .ok (.aload_n 0, 1) := by decide +kernel
theorem dX5_readParts_10 : decode cX5_readParts 10 = .ok (.getfield 39, 3) := by decide +kernel
theorem dX5_readParts_13 : decode cX5_readParts 13 = .ok (.ifCond .eq 12, 3) := by decide +kernel
theorem dX5_readParts_16 : decode cX5_readParts 16 = .ok (.aload_n 0, 1) := by decide +kernel
theorem dX5_readParts_17 : decode cX5_readParts 17 = .ok (.bipush 59, 2) := by decide +kernel
theorem dX5_readParts_19 : decode cX5_readParts 19 = .ok (.invokevirtual 42, 3) := by decide +kernel
theorem dX5_readParts_22 : decode cX5_readParts 22 = .ok (.ifCond .eq 7, 3) := by decide +kernel
theorem dX5_readParts_25 : decode cX5_readParts 25 = .ok (.iconst 1, 1) := by decide +kernel
theorem dX5_readParts_26 : decode cX5_readParts 26 = .ok (.goto 4, 3) := by decide +kernel
theorem dX5_readParts_29 : decode cX5_readParts 29 = .ok (.iconst 0, 1) := by decide +kernel
theorem dX5_readParts_30 : decode cX5_readParts 30 = .ok (.istore_n 2, 1) := by decide +kernel
theorem dX5_readParts_31 : decode cX5_readParts 31 = .ok (.iload_n 2, 1) := by decide +kernel
theorem dX5_readParts_32 : decode cX5_readParts 32 = .ok (.ifCond .eq 7, 3) := by decide +kernel
theorem dX5_readParts_35 : decode cX5_readParts 35 = .ok (.iload_n 1, 1) := by decide +kernel
theorem dX5_readParts_36 : decode cX5_readParts 36 = .ok (.ifCond .eq 19, 3) := by decide +kernel
theorem dX5_readParts_39 : decode cX5_readParts 39 = .ok (.aload_n 0, 1) := by decide +kernel
theorem dX5_readParts_40 : decode cX5_readParts 40 = .ok (.iload_n 2, 1) := by decide +kernel
theorem dX5_readParts_41 : decode cX5_readParts 41 = .ok (.ifCond .eq 7, 3) := by decide +kernel
theorem dX5_readParts_44 : decode cX5_readParts 44 = .ok (.iconst 5, 1) := by decide +kernel
theorem dX5_readParts_45 : decode cX5_readParts 45 = .ok (.goto 4, 3) := by decide +kernel
theorem dX5_readParts_48 : decode cX5_readParts 48 = .ok (.iconst 1, 1) := by decide +kernel
theorem dX5_readParts_49 : decode cX5_readParts 49 = .ok (.invokevirtual 46, 3) := by decide +kernel
theorem dX5_readParts_52 : decode cX5_readParts 52 = .ok (.ifCond .eq 7, 3) := by decide +kernel
theorem dX5_readParts_55 : decode cX5_readParts 55 = .ok (.iconst 1, 1) := by decide +kernel
theorem dX5_readParts_56 : decode cX5_readParts 56 = .ok (.goto 4, 3) := by decide +kernel
theorem dX5_readParts_59 : decode cX5_readParts 59 = .ok (.iconst 0, 1) := by decide +kernel
theorem dX5_readParts_60 : decode cX5_readParts 60 = .ok (.ireturn, 1) := by decide +kernel
theorem dX5_readParts_61 : decode cX5_readParts 61 = .ok (.iconst 0, 1) := by decide +kernel
theorem dX5_readParts_62 : decode cX5_readParts 62 = .ok (.istore_n 2, 1) := by decide +kernel
theorem dX5_readParts_63 : decode cX5_readParts 63 = .ok (.iload_n 2, 1) := by decide +kernel
theorem dX5_readParts_64 : decode cX5_readParts 64 = .ok (.iload_n 1, 1) := by decide +kernel
theorem dX5_readParts_65 : decode cX5_readParts 65 = .ok (.if_icmp .ge 94, 3) := by decide +kernel
theorem dX5_readParts_68 : decode cX5_readParts 68 = .ok (.iload_n 2, 1) := by decide +kernel
theorem dX5_readParts_69 : decode cX5_readParts 69 = .ok (.iconst 3, 1) := by decide +kernel
theorem dX5_readParts_70 : decode cX5_readParts 70 = .ok (.if_icmp .ge 89, 3) := by decide +kernel
theorem dX5_readParts_73 : decode cX5_readParts 73 = .ok (.aload_n 0, 1) := by decide +kernel
theorem dX5_readParts_74 : decode cX5_readParts 74 = .ok (.invokevirtual 32, 3) := by decide +kernel
theorem dX5_readParts_77 : decode cX5_readParts 77 = .ok (.aload_n 0, 1) := by decide +kernel
theorem dX5_readParts_78 : decode cX5_readParts 78 = .ok (.invokevirtual 105, 3) := by decide +kernel
theorem dX5_readParts_81 : decode cX5_readParts 81 = .ok (.ifCond .ne 5, 3) := by decide +kernel
theorem dX5_readParts_84 : decode cX5_readParts 84 = .ok (.iconst 0, 1) := by decide +kernel
theorem dX5_readParts_85 : decode cX5_readParts 85 = .ok (.ireturn, 1) := by decide +kernel
theorem dX5_readParts_86 : decode cX5_readParts 86 = .ok (.aload_n 0, 1) := by decide +kernel
theorem dX5_readParts_87 : decode cX5_readParts 87 = .ok (.getfield 9, 3) := by decide +kernel
theorem dX5_readParts_90 : decode cX5_readParts 90 = .ok (.iload_n 2, 1) := by decide +kernel
theorem dX5_readParts_91 : decode cX5_readParts 91 = .ok (.aload_n 0, 1) := by decide +kernel
theorem dX5_readParts_92 : decode cX5_readParts 92 = .ok (.getfield 23, 3) := by decide +kernel
theorem dX5_readParts_95 : decode cX5_readParts 95 = .ok (.getfield 69, 3) := by decide +kernel
theorem dX5_readParts_98 : decode cX5_readParts 98 = .ok (.aload_n 0, 1) := by decide +kernel
theorem dX5_readParts_99 : decode cX5_readParts 99 = .ok (.getfield 50, 3) := by decide +kernel
theorem dX5_readParts_102 : decode cX5_readParts 102 = .ok (.invokevirtual 108, 3) := by decide +kernel
theorem dX5_readParts_105 : decode cX5_readParts 105 = .ok (.iastore, 1) := by decide +kernel
theorem dX5_readParts_106 : decode cX5_readParts 106 = .ok (.aload_n 0, 1) := by decide +kernel
theorem dX5_readParts_107 : decode cX5_readParts 107 = .ok (.invokevirtual 32, 3) := by decide +kernel
theorem dX5_readParts_110 : decode cX5_readParts 110 = .ok (.aload_n 0, 1) := by decide +kernel
theorem dX5_readParts_111 : decode cX5_readParts 111 = .ok (.bipush 41, 2) := by decide +kernel
theorem dX5_readParts_113 : decode cX5_readParts 113 = .ok (.invokevirtual 42, 3) := by decide +kernel
theorem dX5_readParts_116 : decode cX5_readParts 116 = .ok (.ifCond .eq 22, 3) := by decide +kernel
theorem dX5_readParts_119 : decode cX5_readParts 119 = .ok (.iload_n 2, 1) := by decide +kernel
theorem dX5_readParts_120 : decode cX5_readParts 120 = .ok (.iconst 1, 1) := by decide +kernel
theorem dX5_readParts_121 : decode cX5_readParts 121 = .ok (.iadd, 1) := by decide +kernel
theorem dX5_readParts_122 : decode cX5_readParts 122 = .ok (.iload_n 1, 1) := by decide +kernel
theorem dX5_readParts_123 : decode cX5_readParts 123 = .ok (.if_icmp .ge 9, 3) := by decide +kernel
theorem dX5_readParts_126 : decode cX5_readParts 126 = .ok (.aload_n 0, 1) := by decide +kernel
theorem dX5_readParts_127 : decode cX5_readParts 127 = .ok (.iconst 5, 1) := by decide +kernel
theorem dX5_readParts_128 : decode cX5_readParts 128 = .ok (.invokevirtual 46, 3) := by decide +kernel
theorem dX5_readParts_131 : decode cX5_readParts 131 = .ok (.ireturn, 1) := by decide +kernel
theorem dX5_readParts_132 : decode cX5_readParts 132 = .ok (.aload_n 0, 1) := by decide +kernel
theorem dX5_readParts_133 : decode cX5_readParts 133 = .ok (.invokevirtual 32, 3) := by decide +kernel
theorem dX5_readParts_136 : decode cX5_readParts 136 = .ok (.iconst 1, 1) := by decide +kernel
theorem dX5_readParts_137 : decode cX5_readParts 137 = .ok (.ireturn, 1) := by decide +kernel
theorem dX5_readParts_138 : decode cX5_readParts 138 = .ok (.aload_n 0, 1) := by decide +kernel
theorem dX5_readParts_139 : decode cX5_readParts 139 = .ok (.bipush 44, 2) := by decide +kernel
theorem dX5_readParts_141 : decode cX5_readParts 141 = .ok (.invokevirtual 42, 3) := by decide +kernel
theorem dX5_readParts_144 : decode cX5_readParts 144 = .ok (.ifCond .ne 9, 3) := by decide +kernel
theorem dX5_readParts_147 : decode cX5_readParts 147 = .ok (.aload_n 0, 1) := by decide +kernel
theorem dX5_readParts_148 : decode cX5_readParts 148 = .ok (.iconst 1, 1) := by decide +kernel
theorem dX5_readParts_149 : decode cX5_readParts 149 = .ok (.invokevirtual 46, 3) := by decide +kernel
theorem dX5_readParts_152 : decode cX5_readParts 152 = .ok (.ireturn, 1) := by decide +kernel
theorem dX5_readParts_153 : decode cX5_readParts 153 = .ok (.iinc 2 1, 3) := by decide +kernel
theorem dX5_readParts_156 : decode cX5_readParts 156 = .ok (.goto (-93), 3) := by decide +kernel
theorem dX5_readParts_159 : decode cX5_readParts 159 = .ok (.aload_n 0, 1) := by decide +kernel
theorem dX5_readParts_160 : decode cX5_readParts 160 = .ok (.iconst 5, 1) := by decide +kernel
theorem dX5_readParts_161 : decode cX5_readParts 161 = .ok (.invokevirtual 46, 3) := by decide +kernel
theorem dX5_readParts_164 : decode cX5_readParts 164 = .ok (.ireturn, 1) := by decide +kernel
theorem dX5_readTwo_0 : decode cX5_readTwo 0 = .ok (.aload_n 0, 1) := by decide +kernel
theorem dX5_readTwo_1 : decode cX5_readTwo 1 = .ok (.invokevirtual 32, 3) := by decide +kernel
theorem dX5_readTwo_4 : decode cX5_readTwo 4 = .ok (.aload_n 0, 1) := by decide +kernel
theorem dX5_readTwo_5 : decode cX5_readTwo 5 = .ok (.invokevirtual 105, 3) := by decide +kernel
theorem dX5_readTwo_8 : decode cX5_readTwo 8 = .ok (.ifCond .ne 5, 3) := by decide +kernel
theorem dX5_readTwo_11 : decode cX5_readTwo 11 = .ok (.iconst 0, 1) := by decide +kernel
theorem dX5_readTwo_12 : decode cX5_readTwo 12 = .ok (.ireturn, 1) := by decide +kernel
theorem dX5_readTwo_13 : decode cX5_readTwo 13 = .ok (.aload_n 0, 1) := by decide +kernel
theorem dX5_readTwo_14 : decode cX5_readTwo 14 = .ok (.getfield 23, 3) := by decide +kernel
theorem dX5_readTwo_17 : decode cX5_readTwo 17 = .ok (.getfield 69, 3) := by decide +kernel
theorem dX5_readTwo_20 : decode cX5_readTwo 20 = .ok (.aload_n 0, 1) := by decide +kernel
theorem dX5_readTwo_21 : decode cX5_readTwo 21 = .ok (.getfield 50, 3) := by decide +kernel
theorem dX5_readTwo_24 : decode cX5_readTwo 24 = .ok (.invokevirtual 108, 3) := by decide +kernel
theorem dX5_readTwo_27 : decode cX5_readTwo 27 = .ok (.istore_n 2, 1) := by decide +kernel
theorem dX5_readTwo_28 : decode cX5_readTwo 28 = .ok (.aload_n 0, 1) := by decide +kernel
theorem dX5_readTwo_29 : decode cX5_readTwo 29 = .ok (.invokevirtual 32, 3) := by decide +kernel
theorem dX5_readTwo_32 : decode cX5_readTwo 32 = .ok (.aload_n 0, 1) := by decide +kernel
theorem dX5_readTwo_33 : decode cX5_readTwo 33 = .ok (.invokevirtual 105, 3) := by decide +kernel
theorem dX5_readTwo_36 : decode cX5_readTwo 36 = .ok (.ifCond .ne 5, 3) := by decide +kernel
theorem dX5_readTwo_39 : decode cX5_readTwo 39 = .ok (.iconst 0, 1) := by decide +kernel
theorem dX5_readTwo_40 : decode cX5_readTwo 40 = .ok (.ireturn, 1) := by decide +kernel
theorem dX5_readTwo_41 : decode cX5_readTwo 41 = .ok (.aload_n 0, 1) := by decide +kernel
theorem dX5_readTwo_42 : decode cX5_readTwo 42 = .ok (.getfield 23, 3) := by decide +kernel
theorem dX5_readTwo_45 : decode cX5_readTwo 45 = .ok (.getfield 69, 3) := by decide +kernel
theorem dX5_readTwo_48 : decode cX5_readTwo 48 = .ok (.aload_n 0, 1) := by decide +kernel
theorem dX5_readTwo_49 : decode cX5_readTwo 49 = .ok (.getfield 50, 3) := by decide +kernel
theorem dX5_readTwo_52 : decode cX5_readTwo 52 = .ok (.invokevirtual 108, 3) := by decide +kernel
theorem dX5_readTwo_55 : decode cX5_readTwo 55 = .ok (.istore_n 3, 1) := by decide +kernel
theorem dX5_readTwo_56 : decode cX5_readTwo 56 = .ok (.iload_n 1, 1) := by decide +kernel
theorem dX5_readTwo_57 : decode cX5_readTwo 57 = .ok (.ifCond .eq 15, 3) := by decide +kernel
theorem dX5_readTwo_60 : decode cX5_readTwo 60 = .ok (.aload_n 0, 1) := by decide +kernel
theorem dX5_readTwo_61 : decode cX5_readTwo 61 = .ok (.getfield 23, 3) := by decide +kernel
theorem dX5_readTwo_64 : decode cX5_readTwo 64 = .ok (.iload_n 2, 1) := by decide +kernel
theorem dX5_readTwo_65 : decode cX5_readTwo 65 = .ok (.iload_n 3, 1) := by decide +kernel
theorem dX5_readTwo_66 : decode cX5_readTwo 66 = .ok (.invokevirtual 111, 3) := by decide +kernel
theorem dX5_readTwo_69 : decode cX5_readTwo 69 = .ok (.goto 12, 3) := by decide +kernel
theorem dX5_readTwo_72 : decode cX5_readTwo 72 = .ok (.aload_n 0, 1) := by decide +kernel
theorem dX5_readTwo_73 : decode cX5_readTwo 73 = .ok (.getfield 23, 3) := by decide +kernel
theorem dX5_readTwo_76 : decode cX5_readTwo 76 = .ok (.iload_n 2, 1) := by decide +kernel
theorem dX5_readTwo_77 : decode cX5_readTwo 77 = .ok (.iload_n 3, 1) := by decide +kernel
theorem dX5_readTwo_78 : decode cX5_readTwo 78 = .ok (.invokevirtual 114, 3) := by decide +kernel
theorem dX5_readTwo_81 : decode cX5_readTwo 81 = .ok (.aload_n 0, 1) := by decide +kernel
theorem dX5_readTwo_82 : decode cX5_readTwo 82 = .ok (.invokevirtual 32, 3) := by decide +kernel
theorem dX5_readTwo_85 : decode cX5_readTwo 85 = .ok (.iconst 1, 1) := by decide +kernel
theorem dX5_readTwo_86 : decode cX5_readTwo 86 = .ok (.ireturn, 1) := by decide +kernel
theorem dX5_isName_0 : decode cX5_isName 0 = .ok (.aload_n 0, 1) := by decide +kernel
theorem dX5_isName_1 : decode cX5_isName 1 = .ok (.getfield 39, 3) := by decide +kernel
theorem dX5_isName_4 : decode cX5_isName 4 = .ok (.iconst 1, 1) := by decide +kernel
theorem dX5_isName_5 : decode cX5_isName 5 = .ok (.if_icmp .ne 44, 3) := by decide +kernel
theorem dX5_isName_8 : decode cX5_isName 8 = .ok (.aload_n 0, 1) := by decide +kernel
theorem dX5_isName_9 : decode cX5_isName 9 = .ok (.getfield 50, 3) := by decide +kernel
theorem dX5_isName_12 : decode cX5_isName 12 = .ok (.sipush 4955, 3) := by decide +kernel
theorem dX5_isName_15 : decode cX5_isName 15 = .ok (.if_icmp .eq 34, 3) := by decide +kernel
theorem dX5_isName_18 : decode cX5_isName 18 = .ok (.aload_n 0, 1) := by decide +kernel
theorem dX5_isName_19 : decode cX5_isName 19 = .ok (.getfield 50, 3) := by decide +kernel
theorem dX5_isName_22 : decode cX5_isName 22 = .ok (.ldc 117, 2) := by decide +kernel
theorem dX5_isName_24 : decode cX5_isName 24 = .ok (.if_icmp .eq 25, 3) := by decide +kernel
theorem dX5_isName_27 : decode cX5_isName 27 = .ok (.aload_n 0, 1) := by decide +kernel
theorem dX5_isName_28 : decode cX5_isName 28 = .ok (.getfield 50, 3) := by decide +kernel
theorem dX5_isName_31 : decode cX5_isName 31 = .ok (.ldc 118, 2) := by decide +kernel
theorem dX5_isName_33 : decode cX5_isName 33 = .ok (.if_icmp .eq 16, 3) := by decide +kernel
theorem dX5_isName_36 : decode cX5_isName 36 = .ok (.aload_n 0, 1) := by decide +kernel
theorem dX5_isName_37 : decode cX5_isName 37 = .ok (.getfield 50, 3) := by decide +kernel
theorem dX5_isName_40 : decode cX5_isName 40 = .ok (.ldc 119, 2) := by decide +kernel
theorem dX5_isName_42 : decode cX5_isName 42 = .ok (.if_icmp .eq 7, 3) := by decide +kernel
theorem dX5_isName_45 : decode cX5_isName 45 = .ok (.iconst 1, 1) := by decide +kernel
theorem dX5_isName_46 : decode cX5_isName 46 = .ok (.goto 4, 3) := by decide +kernel
theorem dX5_isName_49 : decode cX5_isName 49 = .ok (.iconst 0, 1) := by decide +kernel
theorem dX5_isName_50 : decode cX5_isName 50 = .ok (.ireturn, 1) := by decide +kernel
theorem dX5_isNewName_0 : decode cX5_isNewName 0 = .ok (.aload_n 0, 1) := by decide +kernel
theorem dX5_isNewName_1 : decode cX5_isNewName 1 = .ok (.invokevirtual 88, 3) := by decide +kernel
theorem dX5_isNewName_4 : decode cX5_isNewName 4 = .ok (.ifCond .ne 9, 3) := by decide +kernel
theorem dX5_isNewName_7 : decode cX5_isNewName 7 = .ok (.aload_n 0, 1) := by decide +kernel
theorem dX5_isNewName_8 : decode cX5_isNewName 8 = .ok (.iconst 1, 1) := by decide +kernel
theorem dX5_isNewName_9 : decode cX5_isNewName 9 = .ok (.invokevirtual 46, 3) := by decide +kernel
theorem dX5_isNewName_12 : decode cX5_isNewName 12 = .ok (.ireturn, 1) := by decide +kernel
theorem dX5_isNewName_13 : decode cX5_isNewName 13 = .ok (.aload_n 0, 1) := by decide +kernel
theorem dX5_isNewName_14 : decode cX5_isNewName 14 = .ok (.getfield 23, 3) := by decide +kernel
theorem dX5_isNewName_17 : decode cX5_isNewName 17 = .ok (.getfield 69, 3) := by decide +kernel
theorem dX5_isNewName_20 : decode cX5_isNewName 20 = .ok (.aload_n 0, 1) := by decide +kernel
theorem dX5_isNewName_21 : decode cX5_isNewName 21 = .ok (.getfield 50, 3) := by decide +kernel
theorem dX5_isNewName_24 : decode cX5_isNewName 24 = .ok (.invokevirtual 91, 3) := by decide +kernel
theorem dX5_isNewName_27 : decode cX5_isNewName 27 = .ok (.ifCond .ge 20, 3) := by decide +kernel
theorem dX5_isNewName_30 : decode cX5_isNewName 30 = .ok (.aload_n 0, 1) := by decide +kernel
theorem dX5_isNewName_31 : decode cX5_isNewName 31 = .ok (.getfield 23, 3) := by decide +kernel
theorem dX5_isNewName_34 : decode cX5_isNewName 34 = .ok (.getfield 69, 3) := by decide +kernel
theorem dX5_isNewName_37 : decode cX5_isNewName 37 = .ok (.aload_n 0, 1) := by decide +kernel
theorem dX5_isNewName_38 : decode cX5_isNewName 38 = .ok (.getfield 50, 3) := by decide +kernel
theorem dX5_isNewName_41 : decode cX5_isNewName 41 = .ok (.invokevirtual 108, 3) := by decide +kernel
theorem dX5_isNewName_44 : decode cX5_isNewName 44 = .ok (.ifCond .lt 7, 3) := by decide +kernel
theorem dX5_isNewName_47 : decode cX5_isNewName 47 = .ok (.iconst 1, 1) := by decide +kernel
theorem dX5_isNewName_48 : decode cX5_isNewName 48 = .ok (.goto 4, 3) := by decide +kernel
theorem dX5_isNewName_51 : decode cX5_isNewName 51 = .ok (.iconst 0, 1) := by decide +kernel
theorem dX5_isNewName_52 : decode cX5_isNewName 52 = .ok (.istore_n 1, 1) := by decide +kernel
theorem dX5_isNewName_53 : decode cX5_isNewName 53 = .ok (.iload_n 1, 1) := by decide +kernel
theorem dX5_isNewName_54 : decode cX5_isNewName 54 = .ok (.ifCond .eq 11, 3) := by decide +kernel
theorem dX5_isNewName_57 : decode cX5_isNewName 57 = .ok (.aload_n 0, 1) := by decide +kernel
theorem dX5_isNewName_58 : decode cX5_isNewName 58 = .ok (.iconst 3, 1) := by decide +kernel
theorem dX5_isNewName_59 : decode cX5_isNewName 59 = .ok (.invokevirtual 46, 3) := by decide +kernel
theorem dX5_isNewName_62 : decode cX5_isNewName 62 = .ok (.ifCond .eq 7, 3) := by decide +kernel
theorem dX5_isNewName_65 : decode cX5_isNewName 65 = .ok (.iconst 1, 1) := by decide +kernel
theorem dX5_isNewName_66 : decode cX5_isNewName 66 = .ok (.goto 4, 3) := by decide +kernel
theorem dX5_isNewName_69 : decode cX5_isNewName 69 = .ok (.iconst 0, 1) := by decide +kernel
theorem dX5_isNewName_70 : decode cX5_isNewName 70 = .ok (.ireturn, 1) := by decide +kernel
theorem dX5_isToldTerm_0 : decode cX5_isToldTerm 0 = .ok (.aload_n 0, 1) := by decide +kernel
theorem dX5_isToldTerm_1 : decode cX5_isToldTerm 1 = .ok (.invokevirtual 88, 3) := by decide +kernel
theorem dX5_isToldTerm_4 : decode cX5_isToldTerm 4 = .ok (.ifCond .ne 9, 3) := by decide +kernel
theorem dX5_isToldTerm_7 : decode cX5_isToldTerm 7 = .ok (.aload_n 0, 1) := by decide +kernel
theorem dX5_isToldTerm_8 : decode cX5_isToldTerm 8 = .ok (.iconst 1, 1) := by decide +kernel
theorem dX5_isToldTerm_9 : decode cX5_isToldTerm 9 = .ok (.invokevirtual 46, 3) := by decide +kernel
theorem dX5_isToldTerm_12 : decode cX5_isToldTerm 12 = .ok (.ireturn, 1) := by decide +kernel
theorem dX5_isToldTerm_13 : decode cX5_isToldTerm 13 = .ok (.aload_n 0, 1) := by decide +kernel
theorem dX5_isToldTerm_14 : decode cX5_isToldTerm 14 = .ok (.getfield 23, 3) := by decide +kernel
theorem dX5_isToldTerm_17 : decode cX5_isToldTerm 17 = .ok (.getfield 69, 3) := by decide +kernel
theorem dX5_isToldTerm_20 : decode cX5_isToldTerm 20 = .ok (.aload_n 0, 1) := by decide +kernel
theorem dX5_isToldTerm_21 : decode cX5_isToldTerm 21 = .ok (.getfield 50, 3) := by decide +kernel
theorem dX5_isToldTerm_24 : decode cX5_isToldTerm 24 = .ok (.invokevirtual 108, 3) := by decide +kernel
theorem dX5_isToldTerm_27 : decode cX5_isToldTerm 27 = .ok (.ifCond .ge 11, 3) := by decide +kernel
theorem dX5_isToldTerm_30 : decode cX5_isToldTerm 30 = .ok (.aload_n 0, 1) := by decide +kernel
theorem dX5_isToldTerm_31 : decode cX5_isToldTerm 31 = .ok (.iconst 3, 1) := by decide +kernel
theorem dX5_isToldTerm_32 : decode cX5_isToldTerm 32 = .ok (.invokevirtual 46, 3) := by decide +kernel
theorem dX5_isToldTerm_35 : decode cX5_isToldTerm 35 = .ok (.ifCond .eq 7, 3) := by decide +kernel
theorem dX5_isToldTerm_38 : decode cX5_isToldTerm 38 = .ok (.iconst 1, 1) := by decide +kernel
theorem dX5_isToldTerm_39 : decode cX5_isToldTerm 39 = .ok (.goto 4, 3) := by decide +kernel
theorem dX5_isToldTerm_42 : decode cX5_isToldTerm 42 = .ok (.iconst 0, 1) := by decide +kernel
theorem dX5_isToldTerm_43 : decode cX5_isToldTerm 43 = .ok (.ireturn, 1) := by decide +kernel
theorem dX5_isSign_0 : decode cX5_isSign 0 = .ok (.aload_n 0, 1) := by decide +kernel
theorem dX5_isSign_1 : decode cX5_isSign 1 = .ok (.getfield 39, 3) := by decide +kernel
theorem dX5_isSign_4 : decode cX5_isSign 4 = .ok (.iconst 3, 1) := by decide +kernel
theorem dX5_isSign_5 : decode cX5_isSign 5 = .ok (.if_icmp .ne 15, 3) := by decide +kernel
theorem dX5_isSign_8 : decode cX5_isSign 8 = .ok (.aload_n 0, 1) := by decide +kernel
theorem dX5_isSign_9 : decode cX5_isSign 9 = .ok (.getfield 50, 3) := by decide +kernel
theorem dX5_isSign_12 : decode cX5_isSign 12 = .ok (.iload_n 1, 1) := by decide +kernel
theorem dX5_isSign_13 : decode cX5_isSign 13 = .ok (.if_icmp .ne 7, 3) := by decide +kernel
theorem dX5_isSign_16 : decode cX5_isSign 16 = .ok (.iconst 1, 1) := by decide +kernel
theorem dX5_isSign_17 : decode cX5_isSign 17 = .ok (.goto 4, 3) := by decide +kernel
theorem dX5_isSign_20 : decode cX5_isSign 20 = .ok (.iconst 0, 1) := by decide +kernel
theorem dX5_isSign_21 : decode cX5_isSign 21 = .ok (.ireturn, 1) := by decide +kernel
theorem dX5_fail_0 : decode cX5_fail 0 = .ok (.aload_n 0, 1) := by decide +kernel
theorem dX5_fail_1 : decode cX5_fail 1 = .ok (.iload_n 1, 1) := by decide +kernel
theorem dX5_fail_2 : decode cX5_fail 2 = .ok (.putfield 120, 3) := by decide +kernel
theorem dX5_fail_5 : decode cX5_fail 5 = .ok (.iconst 0, 1) := by decide +kernel
theorem dX5_fail_6 : decode cX5_fail 6 = .ok (.ireturn, 1) := by decide +kernel
theorem dX5_advance_0 : decode cX5_advance 0 = .ok (.aload_n 0, 1) := by decide +kernel
theorem dX5_advance_1 : decode cX5_advance 1 = .ok (.aload_n 0, 1) := by decide +kernel
theorem dX5_advance_2 : decode cX5_advance 2 = .ok (.getfield 15, 3) := by decide +kernel
theorem dX5_advance_5 : decode cX5_advance 5 = .ok (.aload_n 0, 1) := by decide +kernel
theorem dX5_advance_6 : decode cX5_advance 6 = .ok (.getfield 123, 3) := by decide +kernel
theorem dX5_advance_9 : decode cX5_advance 9 = .ok (.aload_n 0, 1) := by decide +kernel
theorem dX5_advance_10 : decode cX5_advance 10 = .ok (.getfield 19, 3) := by decide +kernel
theorem dX5_advance_13 : decode cX5_advance 13 = .ok (.invokevirtual 126, 3) := by decide +kernel
theorem dX5_advance_16 : decode cX5_advance 16 = .ok (.putfield 132, 3) := by decide +kernel
theorem dX5_advance_19 : decode cX5_advance 19 = .ok (.aload_n 0, 1) := by decide +kernel
theorem dX5_advance_20 : decode cX5_advance 20 = .ok (.getfield 132, 3) := by decide +kernel
theorem dX5_advance_23 : decode cX5_advance 23 = .ok (.aload_n 0, 1) := by decide +kernel
theorem dX5_advance_24 : decode cX5_advance 24 = .ok (.getfield 19, 3) := by decide +kernel
theorem dX5_advance_27 : decode cX5_advance 27 = .ok (.if_icmp .lt 16, 3) := by decide +kernel
theorem dX5_advance_30 : decode cX5_advance 30 = .ok (.aload_n 0, 1) := by decide +kernel
theorem dX5_advance_31 : decode cX5_advance 31 = .ok (.iconst 0, 1) := by decide +kernel
theorem dX5_advance_32 : decode cX5_advance 32 = .ok (.iconst 0, 1) := by decide +kernel
theorem dX5_advance_33 : decode cX5_advance 33 = .ok (.aload_n 0, 1) := by decide +kernel
theorem dX5_advance_34 : decode cX5_advance 34 = .ok (.getfield 132, 3) := by decide +kernel
theorem dX5_advance_37 : decode cX5_advance 37 = .ok (.invokevirtual 135, 3) := by decide +kernel
theorem dX5_advance_40 : decode cX5_advance 40 = .ok (.goto 219, 3) := by decide +kernel
theorem dX5_advance_43 : decode cX5_advance 43 = .ok (.aload_n 0, 1) := by decide +kernel
theorem dX5_advance_44 : decode cX5_advance 44 = .ok (.getfield 15, 3) := by decide +kernel
theorem dX5_advance_47 : decode cX5_advance 47 = .ok (.aload_n 0, 1) := by decide +kernel
theorem dX5_advance_48 : decode cX5_advance 48 = .ok (.getfield 132, 3) := by decide +kernel
theorem dX5_advance_51 : decode cX5_advance 51 = .ok (.invokevirtual 139, 3) := by decide +kernel
theorem dX5_advance_54 : decode cX5_advance 54 = .ok (.ifCond .eq 50, 3) := by decide +kernel
theorem dX5_advance_57 : decode cX5_advance 57 = .ok (.aload_n 0, 1) := by decide +kernel
theorem dX5_advance_58 : decode cX5_advance 58 = .ok (.getfield 15, 3) := by decide +kernel
theorem dX5_advance_61 : decode cX5_advance 61 = .ok (.aload_n 0, 1) := by decide +kernel
theorem dX5_advance_62 : decode cX5_advance 62 = .ok (.getfield 132, 3) := by decide +kernel
theorem dX5_advance_65 : decode cX5_advance 65 = .ok (.aload_n 0, 1) := by decide +kernel
theorem dX5_advance_66 : decode cX5_advance 66 = .ok (.getfield 19, 3) := by decide +kernel
theorem dX5_advance_69 : decode cX5_advance 69 = .ok (.invokevirtual 142, 3) := by decide +kernel
theorem dX5_advance_72 : decode cX5_advance 72 = .ok (.istore_n 1, 1) := by decide +kernel
theorem dX5_advance_73 : decode cX5_advance 73 = .ok (.aload_n 0, 1) := by decide +kernel
theorem dX5_advance_74 : decode cX5_advance 74 = .ok (.getfield 15, 3) := by decide +kernel
theorem dX5_advance_77 : decode cX5_advance 77 = .ok (.aload_n 0, 1) := by decide +kernel
theorem dX5_advance_78 : decode cX5_advance 78 = .ok (.getfield 132, 3) := by decide +kernel
theorem dX5_advance_81 : decode cX5_advance 81 = .ok (.iload_n 1, 1) := by decide +kernel
theorem dX5_advance_82 : decode cX5_advance 82 = .ok (.invokevirtual 145, 3) := by decide +kernel
theorem dX5_advance_85 : decode cX5_advance 85 = .ok (.istore_n 2, 1) := by decide +kernel
theorem dX5_advance_86 : decode cX5_advance 86 = .ok (.aload_n 0, 1) := by decide +kernel
theorem dX5_advance_87 : decode cX5_advance 87 = .ok (.iload_n 2, 1) := by decide +kernel
theorem dX5_advance_88 : decode cX5_advance 88 = .ok (.ifCond .ne 7, 3) := by decide +kernel
theorem dX5_advance_91 : decode cX5_advance 91 = .ok (.iconst 4, 1) := by decide +kernel
theorem dX5_advance_92 : decode cX5_advance 92 = .ok (.goto 4, 3) := by decide +kernel
theorem dX5_advance_95 : decode cX5_advance 95 = .ok (.iconst 1, 1) := by decide +kernel
theorem dX5_advance_96 : decode cX5_advance 96 = .ok (.iload_n 2, 1) := by decide +kernel
theorem dX5_advance_97 : decode cX5_advance 97 = .ok (.iload_n 1, 1) := by decide +kernel
theorem dX5_advance_98 : decode cX5_advance 98 = .ok (.invokevirtual 135, 3) := by decide +kernel
theorem dX5_advance_101 : decode cX5_advance 101 = .ok (.goto 158, 3) := by decide +kernel
theorem dX5_advance_104 : decode cX5_advance 104 = .ok (.aload_n 0, 1) := by decide +kernel
theorem dX5_advance_105 : decode cX5_advance 105 = .ok (.getfield 15, 3) := by decide +kernel
theorem dX5_advance_108 : decode cX5_advance 108 = .ok (.aload_n 0, 1) := by decide +kernel
theorem dX5_advance_109 : decode cX5_advance 109 = .ok (.getfield 132, 3) := by decide +kernel
theorem dX5_advance_112 : decode cX5_advance 112 = .ok (.invokevirtual 148, 3) := by decide +kernel
theorem dX5_advance_115 : decode cX5_advance 115 = .ok (.ifCond .eq 75, 3) := by decide +kernel
theorem dX5_advance_118 : decode cX5_advance 118 = .ok (.aload_n 0, 1) := by decide +kernel
theorem dX5_advance_119 : decode cX5_advance 119 = .ok (.getfield 132, 3) := by decide +kernel
theorem dX5_advance_122 : decode cX5_advance 122 = .ok (.iconst 1, 1) := by decide +kernel
theorem dX5_advance_123 : decode cX5_advance 123 = .ok (.iadd, 1) := by decide +kernel
theorem dX5_advance_124 : decode cX5_advance 124 = .ok (.aload_n 0, 1) := by decide +kernel
theorem dX5_advance_125 : decode cX5_advance 125 = .ok (.getfield 19, 3) := by decide +kernel
theorem dX5_advance_128 : decode cX5_advance 128 = .ok (.if_icmp .ge 23, 3) := by decide +kernel
theorem dX5_advance_131 : decode cX5_advance 131 = .ok (.aload_n 0, 1) := by decide +kernel
theorem dX5_advance_132 : decode cX5_advance 132 = .ok (.getfield 15, 3) := by decide +kernel
theorem dX5_advance_135 : decode cX5_advance 135 = .ok (.aload_n 0, 1) := by decide +kernel
theorem dX5_advance_136 : decode cX5_advance 136 = .ok (.getfield 132, 3) := by decide +kernel
theorem dX5_advance_139 : decode cX5_advance 139 = .ok (.iconst 1, 1) := by decide +kernel
theorem dX5_advance_140 : decode cX5_advance 140 = .ok (.iadd, 1) := by decide +kernel
theorem dX5_advance_141 : decode cX5_advance 141 = .ok (.invokevirtual 148, 3) := by decide +kernel
theorem dX5_advance_144 : decode cX5_advance 144 = .ok (.ifCond .eq 7, 3) := by decide +kernel
theorem dX5_advance_147 : decode cX5_advance 147 = .ok (.iconst 1, 1) := by decide +kernel
theorem dX5_advance_148 : decode cX5_advance 148 = .ok (.goto 4, 3) := by decide +kernel
theorem dX5_advance_151 : decode cX5_advance 151 = .ok (.iconst 0, 1) := by decide +kernel
theorem dX5_advance_152 : decode cX5_advance 152 = .ok (.istore_n 1, 1) := by decide +kernel
theorem dX5_advance_153 : decode cX5_advance 153 = .ok (.aload_n 0, 1) := by decide +kernel
theorem dX5_advance_154 : decode cX5_advance 154 = .ok (.iload_n 1, 1) := by decide +kernel
theorem dX5_advance_155 : decode cX5_advance 155 = .ok (.ifCond .eq 7, 3) := by decide +kernel
theorem dX5_advance_158 : decode cX5_advance 158 = .ok (.iconst 4, 1) := by decide +kernel
theorem dX5_advance_159 : decode cX5_advance 159 = .ok (.goto 4, 3) := by decide +kernel
theorem dX5_advance_162 : decode cX5_advance 162 = .ok (.iconst 2, 1) := by decide +kernel
theorem dX5_advance_163 : decode cX5_advance 163 = .ok (.aload_n 0, 1) := by decide +kernel
theorem dX5_advance_164 : decode cX5_advance 164 = .ok (.getfield 15, 3) := by decide +kernel
theorem dX5_advance_167 : decode cX5_advance 167 = .ok (.getfield 151, 3) := by decide +kernel
theorem dX5_advance_170 : decode cX5_advance 170 = .ok (.aload_n 0, 1) := by decide +kernel
theorem dX5_advance_171 : decode cX5_advance 171 = .ok (.getfield 132, 3) := by decide +kernel
theorem dX5_advance_174 : decode cX5_advance 174 = .ok (.baload, 1) := by decide +kernel
theorem dX5_advance_175 : decode cX5_advance 175 = .ok (.bipush 48, 2) := by decide +kernel
theorem dX5_advance_177 : decode cX5_advance 177 = .ok (.isub, 1) := by decide +kernel
theorem dX5_advance_178 : decode cX5_advance 178 = .ok (.aload_n 0, 1) := by decide +kernel
theorem dX5_advance_179 : decode cX5_advance 179 = .ok (.getfield 132, 3) := by decide +kernel
theorem dX5_advance_182 : decode cX5_advance 182 = .ok (.iconst 1, 1) := by decide +kernel
theorem dX5_advance_183 : decode cX5_advance 183 = .ok (.iadd, 1) := by decide +kernel
theorem dX5_advance_184 : decode cX5_advance 184 = .ok (.invokevirtual 135, 3) := by decide +kernel
theorem dX5_advance_187 : decode cX5_advance 187 = .ok (.goto 72, 3) := by decide +kernel
theorem dX5_advance_190 : decode cX5_advance 190 = .ok (.aload_n 0, 1) := by decide +kernel
theorem dX5_advance_191 : decode cX5_advance 191 = .ok (.getfield 15, 3) := by decide +kernel
theorem dX5_advance_194 : decode cX5_advance 194 = .ok (.getfield 151, 3) := by decide +kernel
theorem dX5_advance_197 : decode cX5_advance 197 = .ok (.aload_n 0, 1) := by decide +kernel
theorem dX5_advance_198 : decode cX5_advance 198 = .ok (.getfield 132, 3) := by decide +kernel
theorem dX5_advance_201 : decode cX5_advance 201 = .ok (.baload, 1) := by decide +kernel
theorem dX5_advance_202 : decode cX5_advance 202 = .ok (.istore_n 1, 1) := by decide +kernel
theorem dX5_advance_203 : decode cX5_advance 203 = .ok (.iload_n 1, 1) := by decide +kernel
theorem dX5_advance_204 : decode cX5_advance 204 = .ok (.bipush 59, 2) := by decide +kernel
theorem dX5_advance_206 : decode cX5_advance 206 = .ok (.if_icmp .eq 27, 3) := by decide +kernel
theorem dX5_advance_209 : decode cX5_advance 209 = .ok (.iload_n 1, 1) := by decide +kernel
theorem dX5_advance_210 : decode cX5_advance 210 = .ok (.bipush 44, 2) := by decide +kernel
theorem dX5_advance_212 : decode cX5_advance 212 = .ok (.if_icmp .eq 21, 3) := by decide +kernel
theorem dX5_advance_215 : decode cX5_advance 215 = .ok (.iload_n 1, 1) := by decide +kernel
theorem dX5_advance_216 : decode cX5_advance 216 = .ok (.bipush 61, 2) := by decide +kernel
theorem dX5_advance_218 : decode cX5_advance 218 = .ok (.if_icmp .eq 15, 3) := by decide +kernel
theorem dX5_advance_221 : decode cX5_advance 221 = .ok (.iload_n 1, 1) := by decide +kernel
theorem dX5_advance_222 : decode cX5_advance 222 = .ok (.bipush 40, 2) := by decide +kernel
theorem dX5_advance_224 : decode cX5_advance 224 = .ok (.if_icmp .eq 9, 3) := by decide +kernel
theorem dX5_advance_227 : decode cX5_advance 227 = .ok (.iload_n 1, 1) := by decide +kernel
theorem dX5_advance_228 : decode cX5_advance 228 = .ok (.bipush 41, 2) := by decide +kernel
theorem dX5_advance_230 : decode cX5_advance 230 = .ok (.if_icmp .ne 7, 3) := by decide +kernel
theorem dX5_advance_233 : decode cX5_advance 233 = .ok (.iconst 1, 1) := by decide +kernel
theorem dX5_advance_234 : decode cX5_advance 234 = .ok (.goto 4, 3) := by decide +kernel
theorem dX5_advance_237 : decode cX5_advance 237 = .ok (.iconst 0, 1) := by decide +kernel
theorem dX5_advance_238 : decode cX5_advance 238 = .ok (.istore_n 2, 1) := by decide +kernel
theorem dX5_advance_239 : decode cX5_advance 239 = .ok (.aload_n 0, 1) := by decide +kernel
theorem dX5_advance_240 : decode cX5_advance 240 = .ok (.iload_n 2, 1) := by decide +kernel
theorem dX5_advance_241 : decode cX5_advance 241 = .ok (.ifCond .eq 7, 3) := by decide +kernel
theorem dX5_advance_244 : decode cX5_advance 244 = .ok (.iconst 3, 1) := by decide +kernel
theorem dX5_advance_245 : decode cX5_advance 245 = .ok (.goto 4, 3) := by decide +kernel
theorem dX5_advance_248 : decode cX5_advance 248 = .ok (.iconst 4, 1) := by decide +kernel
theorem dX5_advance_249 : decode cX5_advance 249 = .ok (.iload_n 1, 1) := by decide +kernel
theorem dX5_advance_250 : decode cX5_advance 250 = .ok (.aload_n 0, 1) := by decide +kernel
theorem dX5_advance_251 : decode cX5_advance 251 = .ok (.getfield 132, 3) := by decide +kernel
theorem dX5_advance_254 : decode cX5_advance 254 = .ok (.iconst 1, 1) := by decide +kernel
theorem dX5_advance_255 : decode cX5_advance 255 = .ok (.iadd, 1) := by decide +kernel
theorem dX5_advance_256 : decode cX5_advance 256 = .ok (.invokevirtual 135, 3) := by decide +kernel
theorem dX5_advance_259 : decode cX5_advance 259 = .ok (.return_, 1) := by decide +kernel
theorem dX5_see_0 : decode cX5_see 0 = .ok (.aload_n 0, 1) := by decide +kernel
theorem dX5_see_1 : decode cX5_see 1 = .ok (.iload_n 1, 1) := by decide +kernel
theorem dX5_see_2 : decode cX5_see 2 = .ok (.putfield 39, 3) := by decide +kernel
theorem dX5_see_5 : decode cX5_see 5 = .ok (.aload_n 0, 1) := by decide +kernel
theorem dX5_see_6 : decode cX5_see 6 = .ok (.iload_n 2, 1) := by decide +kernel
theorem dX5_see_7 : decode cX5_see 7 = .ok (.putfield 50, 3) := by decide +kernel
theorem dX5_see_10 : decode cX5_see 10 = .ok (.aload_n 0, 1) := by decide +kernel
theorem dX5_see_11 : decode cX5_see 11 = .ok (.iload_n 3, 1) := by decide +kernel
theorem dX5_see_12 : decode cX5_see 12 = .ok (.putfield 123, 3) := by decide +kernel
theorem dX5_see_15 : decode cX5_see 15 = .ok (.return_, 1) := by decide +kernel
theorem dX6_init_0 : decode cX6_init 0 = .ok (.aload_n 0, 1) := by decide +kernel
theorem dX6_init_1 : decode cX6_init 1 = .ok (.invokespecial 3, 3) := by decide +kernel
theorem dX6_init_4 : decode cX6_init 4 = .ok (.aload_n 0, 1) := by decide +kernel
theorem dX6_init_5 : decode cX6_init 5 = .ok (.sipush 500, 3) := by decide +kernel
theorem dX6_init_8 : decode cX6_init 8 = .ok (.newarray .byte, 2) := by decide +kernel
theorem dX6_init_10 : decode cX6_init 10 = .ok (.putfield 9, 3) := by decide +kernel
theorem dX6_init_13 : decode cX6_init 13 = .ok (.return_, 1) := by decide +kernel
theorem dX6_append_0 : decode cX6_append 0 = .ok (.aload_n 0, 1) := by decide +kernel
theorem dX6_append_1 : decode cX6_append 1 = .ok (.getfield 15, 3) := by decide +kernel
theorem dX6_append_4 : decode cX6_append 4 = .ok (.iconst 4, 1) := by decide +kernel
theorem dX6_append_5 : decode cX6_append 5 = .ok (.iadd, 1) := by decide +kernel
theorem dX6_append_6 : decode cX6_append 6 = .ok (.sipush 500, 3) := by decide +kernel
theorem dX6_append_9 : decode cX6_append 9 = .ok (.if_icmp .le 4, 3) := by decide +kernel
theorem dX6_append_12 : decode cX6_append 12 = .ok (.return_, 1) := by decide +kernel
theorem dX6_append_13 : decode cX6_append 13 = .ok (.aload_n 0, 1) := by decide +kernel
theorem dX6_append_14 : decode cX6_append 14 = .ok (.getfield 9, 3) := by decide +kernel
theorem dX6_append_17 : decode cX6_append 17 = .ok (.aload_n 0, 1) := by decide +kernel
theorem dX6_append_18 : decode cX6_append 18 = .ok (.getfield 15, 3) := by decide +kernel
theorem dX6_append_21 : decode cX6_append 21 = .ok (.iload_n 1, 1) := by decide +kernel
theorem dX6_append_22 : decode cX6_append 22 = .ok (.bipush 24, 2) := by decide +kernel
theorem dX6_append_24 : decode cX6_append 24 = .ok (.iushr, 1) := by decide +kernel
theorem dX6_append_25 : decode cX6_append 25 = .ok (.i2b, 1) := by decide +kernel
theorem dX6_append_26 : decode cX6_append 26 = .ok (.bastore, 1) := by decide +kernel
theorem dX6_append_27 : decode cX6_append 27 = .ok (.aload_n 0, 1) := by decide +kernel
theorem dX6_append_28 : decode cX6_append 28 = .ok (.getfield 9, 3) := by decide +kernel
theorem dX6_append_31 : decode cX6_append 31 = .ok (.aload_n 0, 1) := by decide +kernel
theorem dX6_append_32 : decode cX6_append 32 = .ok (.getfield 15, 3) := by decide +kernel
theorem dX6_append_35 : decode cX6_append 35 = .ok (.iconst 1, 1) := by decide +kernel
theorem dX6_append_36 : decode cX6_append 36 = .ok (.iadd, 1) := by decide +kernel
theorem dX6_append_37 : decode cX6_append 37 = .ok (.iload_n 1, 1) := by decide +kernel
theorem dX6_append_38 : decode cX6_append 38 = .ok (.bipush 16, 2) := by decide +kernel
theorem dX6_append_40 : decode cX6_append 40 = .ok (.iushr, 1) := by decide +kernel
theorem dX6_append_41 : decode cX6_append 41 = .ok (.i2b, 1) := by decide +kernel
theorem dX6_append_42 : decode cX6_append 42 = .ok (.bastore, 1) := by decide +kernel
theorem dX6_append_43 : decode cX6_append 43 = .ok (.aload_n 0, 1) := by decide +kernel
theorem dX6_append_44 : decode cX6_append 44 = .ok (.getfield 9, 3) := by decide +kernel
theorem dX6_append_47 : decode cX6_append 47 = .ok (.aload_n 0, 1) := by decide +kernel
theorem dX6_append_48 : decode cX6_append 48 = .ok (.getfield 15, 3) := by decide +kernel
theorem dX6_append_51 : decode cX6_append 51 = .ok (.iconst 2, 1) := by decide +kernel
theorem dX6_append_52 : decode cX6_append 52 = .ok (.iadd, 1) := by decide +kernel
theorem dX6_append_53 : decode cX6_append 53 = .ok (.iload_n 1, 1) := by decide +kernel
theorem dX6_append_54 : decode cX6_append 54 = .ok (.bipush 8, 2) := by decide +kernel
theorem dX6_append_56 : decode cX6_append 56 = .ok (.iushr, 1) := by decide +kernel
theorem dX6_append_57 : decode cX6_append 57 = .ok (.i2b, 1) := by decide +kernel
theorem dX6_append_58 : decode cX6_append 58 = .ok (.bastore, 1) := by decide +kernel
theorem dX6_append_59 : decode cX6_append 59 = .ok (.aload_n 0, 1) := by decide +kernel
theorem dX6_append_60 : decode cX6_append 60 = .ok (.getfield 9, 3) := by decide +kernel
theorem dX6_append_63 : decode cX6_append 63 = .ok (.aload_n 0, 1) := by decide +kernel
theorem dX6_append_64 : decode cX6_append 64 = .ok (.getfield 15, 3) := by decide +kernel
theorem dX6_append_67 : decode cX6_append 67 = .ok (.iconst 3, 1) := by decide +kernel
theorem dX6_append_68 : decode cX6_append 68 = .ok (.iadd, 1) := by decide +kernel
theorem dX6_append_69 : decode cX6_append 69 = .ok (.iload_n 1, 1) := by decide +kernel
theorem dX6_append_70 : decode cX6_append 70 = .ok (.i2b, 1) := by decide +kernel
theorem dX6_append_71 : decode cX6_append 71 = .ok (.bastore, 1) := by decide +kernel
theorem dX6_append_72 : decode cX6_append 72 = .ok (.aload_n 0, 1) := by decide +kernel
theorem dX6_append_73 : decode cX6_append 73 = .ok (.dup, 1) := by decide +kernel
theorem dX6_append_74 : decode cX6_append 74 = .ok (.getfield 15, 3) := by decide +kernel
theorem dX6_append_77 : decode cX6_append 77 = .ok (.iconst 4, 1) := by decide +kernel
theorem dX6_append_78 : decode cX6_append 78 = .ok (.iadd, 1) := by decide +kernel
theorem dX6_append_79 : decode cX6_append 79 = .ok (.putfield 15, 3) := by decide +kernel
theorem dX6_append_82 : decode cX6_append 82 = .ok (.return_, 1) := by decide +kernel
theorem dX6_isLetter_0 : decode cX6_isLetter 0 = .ok (.aload_n 0, 1) := by decide +kernel
theorem dX6_isLetter_1 : decode cX6_isLetter 1 = .ok (.getfield 9, 3) := by decide +kernel
theorem dX6_isLetter_4 : decode cX6_isLetter 4 = .ok (.iload_n 1, 1) := by decide +kernel
theorem dX6_isLetter_5 : decode cX6_isLetter 5 = .ok (.baload, 1) := by decide +kernel
theorem dX6_isLetter_6 : decode cX6_isLetter 6 = .ok (.bipush 97, 2) := by decide +kernel
theorem dX6_isLetter_8 : decode cX6_isLetter 8 = .ok (.if_icmp .lt 18, 3) := by decide +kernel
theorem dX6_isLetter_11 : decode cX6_isLetter 11 = .ok (.aload_n 0, 1) := by decide +kernel
theorem dX6_isLetter_12 : decode cX6_isLetter 12 = .ok (.getfield 9, 3) := by decide +kernel
theorem dX6_isLetter_15 : decode cX6_isLetter 15 = .ok (.iload_n 1, 1) := by decide +kernel
theorem dX6_isLetter_16 : decode cX6_isLetter 16 = .ok (.baload, 1) := by decide +kernel
theorem dX6_isLetter_17 : decode cX6_isLetter 17 = .ok (.bipush 122, 2) := by decide +kernel
theorem dX6_isLetter_19 : decode cX6_isLetter 19 = .ok (.if_icmp .gt 7, 3) := by decide +kernel
theorem dX6_isLetter_22 : decode cX6_isLetter 22 = .ok (.iconst 1, 1) := by decide +kernel
theorem dX6_isLetter_23 : decode cX6_isLetter 23 = .ok (.goto 4, 3) := by decide +kernel
theorem dX6_isLetter_26 : decode cX6_isLetter 26 = .ok (.iconst 0, 1) := by decide +kernel
theorem dX6_isLetter_27 : decode cX6_isLetter 27 = .ok (.ireturn, 1) := by decide +kernel
theorem dX6_isDigit_0 : decode cX6_isDigit 0 = .ok (.aload_n 0, 1) := by decide +kernel
theorem dX6_isDigit_1 : decode cX6_isDigit 1 = .ok (.getfield 9, 3) := by decide +kernel
theorem dX6_isDigit_4 : decode cX6_isDigit 4 = .ok (.iload_n 1, 1) := by decide +kernel
theorem dX6_isDigit_5 : decode cX6_isDigit 5 = .ok (.baload, 1) := by decide +kernel
theorem dX6_isDigit_6 : decode cX6_isDigit 6 = .ok (.bipush 48, 2) := by decide +kernel
theorem dX6_isDigit_8 : decode cX6_isDigit 8 = .ok (.if_icmp .lt 18, 3) := by decide +kernel
theorem dX6_isDigit_11 : decode cX6_isDigit 11 = .ok (.aload_n 0, 1) := by decide +kernel
theorem dX6_isDigit_12 : decode cX6_isDigit 12 = .ok (.getfield 9, 3) := by decide +kernel
theorem dX6_isDigit_15 : decode cX6_isDigit 15 = .ok (.iload_n 1, 1) := by decide +kernel
theorem dX6_isDigit_16 : decode cX6_isDigit 16 = .ok (.baload, 1) := by decide +kernel
theorem dX6_isDigit_17 : decode cX6_isDigit 17 = .ok (.bipush 57, 2) := by decide +kernel
theorem dX6_isDigit_19 : decode cX6_isDigit 19 = .ok (.if_icmp .gt 7, 3) := by decide +kernel
theorem dX6_isDigit_22 : decode cX6_isDigit 22 = .ok (.iconst 1, 1) := by decide +kernel
theorem dX6_isDigit_23 : decode cX6_isDigit 23 = .ok (.goto 4, 3) := by decide +kernel
theorem dX6_isDigit_26 : decode cX6_isDigit 26 = .ok (.iconst 0, 1) := by decide +kernel
theorem dX6_isDigit_27 : decode cX6_isDigit 27 = .ok (.ireturn, 1) := by decide +kernel
theorem dX6_behindLetters_0 : decode cX6_behindLetters 0 = .ok (.iload_n 1, 1) := by decide +kernel
theorem dX6_behindLetters_1 : decode cX6_behindLetters 1 = .ok (.istore_n 3, 1) := by decide +kernel
theorem dX6_behindLetters_2 : decode cX6_behindLetters 2 = .ok (.iload_n 3, 1) := by decide +kernel
theorem dX6_behindLetters_3 : decode cX6_behindLetters 3 = .ok (.iload_n 2, 1) := by decide +kernel
theorem dX6_behindLetters_4 : decode cX6_behindLetters 4 = .ok (.if_icmp .ge 20, 3) := by decide +kernel
theorem dX6_behindLetters_7 : decode cX6_behindLetters 7 = .ok (.aload_n 0, 1) := by decide +kernel
theorem dX6_behindLetters_8 : decode cX6_behindLetters 8 = .ok (.iload_n 3, 1) := by decide +kernel
theorem dX6_behindLetters_9 : decode cX6_behindLetters 9 = .ok (.invokevirtual 19, 3) := by decide +kernel
theorem dX6_behindLetters_12 : decode cX6_behindLetters 12 = .ok (.ifCond .ne 6, 3) := by decide +kernel
theorem dX6_behindLetters_15 : decode cX6_behindLetters 15 = .ok (.goto 9, 3) := by decide +kernel
theorem dX6_behindLetters_18 : decode cX6_behindLetters 18 = .ok (.iinc 3 1, 3) := by decide +kernel
theorem dX6_behindLetters_21 : decode cX6_behindLetters 21 = .ok (.goto (-19), 3) := by decide +kernel
theorem dX6_behindLetters_24 : decode cX6_behindLetters 24 = .ok (.iload_n 3, 1) := by decide +kernel
theorem dX6_behindLetters_25 : decode cX6_behindLetters 25 = .ok (.ireturn, 1) := by decide +kernel
theorem dX6_behindBlanks_0 : decode cX6_behindBlanks 0 = .ok (.iload_n 1, 1) := by decide +kernel
theorem dX6_behindBlanks_1 : decode cX6_behindBlanks 1 = .ok (.istore_n 3, 1) := by decide +kernel
theorem dX6_behindBlanks_2 : decode cX6_behindBlanks 2 = .ok (.iload_n 3, 1) := by decide +kernel
theorem dX6_behindBlanks_3 : decode cX6_behindBlanks 3 = .ok (.iload_n 2, 1) := by decide +kernel
theorem dX6_behindBlanks_4 : decode cX6_behindBlanks 4 = .ok (.if_icmp .ge 23, 3) := by decide +kernel
theorem dX6_behindBlanks_7 : decode cX6_behindBlanks 7 = .ok (.aload_n 0, 1) := by decide +kernel
theorem dX6_behindBlanks_8 : decode cX6_behindBlanks 8 = .ok (.getfield 9, 3) := by decide +kernel
theorem dX6_behindBlanks_11 : decode cX6_behindBlanks 11 = .ok (.iload_n 3, 1) := by decide +kernel
theorem dX6_behindBlanks_12 : decode cX6_behindBlanks 12 = .ok (.baload, 1) := by decide +kernel
theorem dX6_behindBlanks_13 : decode cX6_behindBlanks 13 = .ok (.bipush 32, 2) := by decide +kernel
theorem dX6_behindBlanks_15 : decode cX6_behindBlanks 15 = .ok (.if_icmp .eq 6, 3) := by decide +kernel
theorem dX6_behindBlanks_18 : decode cX6_behindBlanks 18 = .ok (.goto 9, 3) := by decide +kernel
theorem dX6_behindBlanks_21 : decode cX6_behindBlanks 21 = .ok (.iinc 3 1, 3) := by decide +kernel
theorem dX6_behindBlanks_24 : decode cX6_behindBlanks 24 = .ok (.goto (-22), 3) := by decide +kernel
theorem dX6_behindBlanks_27 : decode cX6_behindBlanks 27 = .ok (.iload_n 3, 1) := by decide +kernel
theorem dX6_behindBlanks_28 : decode cX6_behindBlanks 28 = .ok (.ireturn, 1) := by decide +kernel
theorem dX6_wordNumber_0 : decode cX6_wordNumber 0 = .ok (.iload_n 2, 1) := by decide +kernel
theorem dX6_wordNumber_1 : decode cX6_wordNumber 1 = .ok (.iload_n 1, 1) := by decide +kernel
theorem dX6_wordNumber_2 : decode cX6_wordNumber 2 = .ok (.isub, 1) := by decide +kernel
theorem dX6_wordNumber_3 : decode cX6_wordNumber 3 = .ok (.bipush 6, 2) := by decide +kernel
theorem dX6_wordNumber_5 : decode cX6_wordNumber 5 = .ok (.if_icmp .le 5, 3) := by decide +kernel
theorem dX6_wordNumber_8 : decode cX6_wordNumber 8 = .ok (.iconst 0, 1) := by decide +kernel
theorem dX6_wordNumber_9 : decode cX6_wordNumber 9 = .ok (.ireturn, 1) := by decide +kernel
theorem dX6_wordNumber_10 : decode cX6_wordNumber 10 = .ok (.iconst 0, 1) := by decide +kernel
theorem dX6_wordNumber_11 : decode cX6_wordNumber 11 = .ok (.istore_n 3, 1) := by decide +kernel
theorem dX6_wordNumber_12 : decode cX6_wordNumber 12 = .ok (.iload_n 1, 1) := by decide +kernel
theorem dX6_wordNumber_13 : decode cX6_wordNumber 13 = .ok (.istore 4, 2) := by decide +kernel
theorem dX6_wordNumber_15 : decode cX6_wordNumber 15 = .ok (.iload 4, 2) := by decide +kernel
theorem dX6_wordNumber_17 : decode cX6_wordNumber 17 = .ok (.iload_n 2, 1) := by decide +kernel
theorem dX6_wordNumber_18 : decode cX6_wordNumber 18 = .ok (.if_icmp .ge 27, 3) := by decide +kernel
theorem dX6_wordNumber_21 : decode cX6_wordNumber 21 = .ok (.iload_n 3, 1) := by decide +kernel
theorem dX6_wordNumber_22 : decode cX6_wordNumber 22 = .ok (.bipush 27, 2) := by decide +kernel
theorem dX6_wordNumber_24 : decode cX6_wordNumber 24 = .ok (.imul, 1) := by decide +kernel
theorem dX6_wordNumber_25 : decode cX6_wordNumber 25 = .ok (.aload_n 0, 1) := by decide +kernel
theorem dX6_wordNumber_26 : decode cX6_wordNumber 26 = .ok (.getfield 9, 3) := by decide +kernel
theorem dX6_wordNumber_29 : decode cX6_wordNumber 29 = .ok (.iload 4, 2) := by decide +kernel
theorem dX6_wordNumber_31 : decode cX6_wordNumber 31 = .ok (.baload, 1) := by decide +kernel
theorem dX6_wordNumber_32 : decode cX6_wordNumber 32 = .ok (.bipush 97, 2) := by decide +kernel
theorem dX6_wordNumber_34 : decode cX6_wordNumber 34 = .ok (.isub, 1) := by decide +kernel
theorem dX6_wordNumber_35 : decode cX6_wordNumber 35 = .ok (.iconst 1, 1) := by decide +kernel
theorem dX6_wordNumber_36 : decode cX6_wordNumber 36 = .ok (.iadd, 1) := by decide +kernel
theorem dX6_wordNumber_37 : decode cX6_wordNumber 37 = .ok (.iadd, 1) := by decide +kernel
theorem dX6_wordNumber_38 : decode cX6_wordNumber 38 = .ok (.istore_n 3, 1) := by decide +kernel
theorem dX6_wordNumber_39 : decode cX6_wordNumber 39 = .ok (.iinc 4 1, 3) := by decide +kernel
theorem dX6_wordNumber_42 : decode cX6_wordNumber 42 = .ok (.goto (-27), 3) := by decide +kernel
theorem dX6_wordNumber_45 : decode cX6_wordNumber 45 = .ok (.iload_n 3, 1) := by decide +kernel
theorem dX6_wordNumber_46 : decode cX6_wordNumber 46 = .ok (.ireturn, 1) := by decide +kernel
theorem dX6_onlyWord_0 : decode cX6_onlyWord 0 = .ok (.aload_n 0, 1) := by decide +kernel
theorem dX6_onlyWord_1 : decode cX6_onlyWord 1 = .ok (.iconst 0, 1) := by decide +kernel
theorem dX6_onlyWord_2 : decode cX6_onlyWord 2 = .ok (.iload_n 1, 1) := by decide +kernel
theorem dX6_onlyWord_3 : decode cX6_onlyWord 3 = .ok (.invokevirtual 23, 3) := by decide +kernel
theorem dX6_onlyWord_6 : decode cX6_onlyWord 6 = .ok (.istore_n 2, 1) := by decide +kernel
theorem dX6_onlyWord_7 : decode cX6_onlyWord 7 = .ok (.aload_n 0, 1) := by decide +kernel
theorem dX6_onlyWord_8 : decode cX6_onlyWord 8 = .ok (.iload_n 2, 1) := by decide +kernel
theorem dX6_onlyWord_9 : decode cX6_onlyWord 9 = .ok (.iload_n 1, 1) := by decide +kernel
theorem dX6_onlyWord_10 : decode cX6_onlyWord 10 = .ok (.invokevirtual 27, 3) := by decide +kernel
theorem dX6_onlyWord_13 : decode cX6_onlyWord 13 = .ok (.istore_n 3, 1) := by decide +kernel
theorem dX6_onlyWord_14 : decode cX6_onlyWord 14 = .ok (.aload_n 0, 1) := by decide +kernel
theorem dX6_onlyWord_15 : decode cX6_onlyWord 15 = .ok (.iload_n 3, 1) := by decide +kernel
theorem dX6_onlyWord_16 : decode cX6_onlyWord 16 = .ok (.iload_n 1, 1) := by decide +kernel
theorem dX6_onlyWord_17 : decode cX6_onlyWord 17 = .ok (.invokevirtual 23, 3) := by decide +kernel
theorem dX6_onlyWord_20 : decode cX6_onlyWord 20 = .ok (.iload_n 1, 1) := by decide +kernel
theorem dX6_onlyWord_21 : decode cX6_onlyWord 21 = .ok (.if_icmp .ne 12, 3) := by decide +kernel
theorem dX6_onlyWord_24 : decode cX6_onlyWord 24 = .ok (.aload_n 0, 1) := by decide +kernel
theorem dX6_onlyWord_25 : decode cX6_onlyWord 25 = .ok (.iload_n 2, 1) := by decide +kernel
theorem dX6_onlyWord_26 : decode cX6_onlyWord 26 = .ok (.iload_n 3, 1) := by decide +kernel
theorem dX6_onlyWord_27 : decode cX6_onlyWord 27 = .ok (.invokevirtual 30, 3) := by decide +kernel
theorem dX6_onlyWord_30 : decode cX6_onlyWord 30 = .ok (.goto 4, 3) := by decide +kernel
theorem dX6_onlyWord_33 : decode cX6_onlyWord 33 = .ok (.iconst 0, 1) := by decide +kernel
theorem dX6_onlyWord_34 : decode cX6_onlyWord 34 = .ok (.ireturn, 1) := by decide +kernel
theorem dX7_init_0 : decode cX7_init 0 = .ok (.aload_n 0, 1) := by decide +kernel
theorem dX7_init_1 : decode cX7_init 1 = .ok (.invokespecial 3, 3) := by decide +kernel
theorem dX7_init_4 : decode cX7_init 4 = .ok (.aload_n 0, 1) := by decide +kernel
theorem dX7_init_5 : decode cX7_init 5 = .ok (.bipush 8, 2) := by decide +kernel
theorem dX7_init_7 : decode cX7_init 7 = .ok (.newarray .int, 2) := by decide +kernel
theorem dX7_init_9 : decode cX7_init 9 = .ok (.putfield 9, 3) := by decide +kernel
theorem dX7_init_12 : decode cX7_init 12 = .ok (.aload_n 0, 1) := by decide +kernel
theorem dX7_init_13 : decode cX7_init 13 = .ok (.bipush 8, 2) := by decide +kernel
theorem dX7_init_15 : decode cX7_init 15 = .ok (.newarray .int, 2) := by decide +kernel
theorem dX7_init_17 : decode cX7_init 17 = .ok (.putfield 15, 3) := by decide +kernel
theorem dX7_init_20 : decode cX7_init 20 = .ok (.aload_n 0, 1) := by decide +kernel
theorem dX7_init_21 : decode cX7_init 21 = .ok (.bipush 24, 2) := by decide +kernel
theorem dX7_init_23 : decode cX7_init 23 = .ok (.newarray .int, 2) := by decide +kernel
theorem dX7_init_25 : decode cX7_init 25 = .ok (.putfield 18, 3) := by decide +kernel
theorem dX7_init_28 : decode cX7_init 28 = .ok (.aload_n 0, 1) := by decide +kernel
theorem dX7_init_29 : decode cX7_init 29 = .ok (.bipush 24, 2) := by decide +kernel
theorem dX7_init_31 : decode cX7_init 31 = .ok (.newarray .int, 2) := by decide +kernel
theorem dX7_init_33 : decode cX7_init 33 = .ok (.putfield 21, 3) := by decide +kernel
theorem dX7_init_36 : decode cX7_init 36 = .ok (.aload_n 0, 1) := by decide +kernel
theorem dX7_init_37 : decode cX7_init 37 = .ok (.bipush 24, 2) := by decide +kernel
theorem dX7_init_39 : decode cX7_init 39 = .ok (.newarray .int, 2) := by decide +kernel
theorem dX7_init_41 : decode cX7_init 41 = .ok (.putfield 24, 3) := by decide +kernel
theorem dX7_init_44 : decode cX7_init 44 = .ok (.aload_n 0, 1) := by decide +kernel
theorem dX7_init_45 : decode cX7_init 45 = .ok (.bipush 72, 2) := by decide +kernel
theorem dX7_init_47 : decode cX7_init 47 = .ok (.newarray .int, 2) := by decide +kernel
theorem dX7_init_49 : decode cX7_init 49 = .ok (.putfield 27, 3) := by decide +kernel
theorem dX7_init_52 : decode cX7_init 52 = .ok (.aload_n 0, 1) := by decide +kernel
theorem dX7_init_53 : decode cX7_init 53 = .ok (.bipush 24, 2) := by decide +kernel
theorem dX7_init_55 : decode cX7_init 55 = .ok (.newarray .int, 2) := by decide +kernel
theorem dX7_init_57 : decode cX7_init 57 = .ok (.putfield 30, 3) := by decide +kernel
theorem dX7_init_60 : decode cX7_init 60 = .ok (.aload_n 0, 1) := by decide +kernel
theorem dX7_init_61 : decode cX7_init 61 = .ok (.sipush 276, 3) := by decide +kernel
theorem dX7_init_64 : decode cX7_init 64 = .ok (.newarray .int, 2) := by decide +kernel
theorem dX7_init_66 : decode cX7_init 66 = .ok (.putfield 33, 3) := by decide +kernel
theorem dX7_init_69 : decode cX7_init 69 = .ok (.aload_n 0, 1) := by decide +kernel
theorem dX7_init_70 : decode cX7_init 70 = .ok (.sipush 276, 3) := by decide +kernel
theorem dX7_init_73 : decode cX7_init 73 = .ok (.newarray .int, 2) := by decide +kernel
theorem dX7_init_75 : decode cX7_init 75 = .ok (.putfield 36, 3) := by decide +kernel
theorem dX7_init_78 : decode cX7_init 78 = .ok (.return_, 1) := by decide +kernel
theorem dX7_clear_0 : decode cX7_clear 0 = .ok (.aload_n 0, 1) := by decide +kernel
theorem dX7_clear_1 : decode cX7_clear 1 = .ok (.iconst 0, 1) := by decide +kernel
theorem dX7_clear_2 : decode cX7_clear 2 = .ok (.putfield 39, 3) := by decide +kernel
theorem dX7_clear_5 : decode cX7_clear 5 = .ok (.aload_n 0, 1) := by decide +kernel
theorem dX7_clear_6 : decode cX7_clear 6 = .ok (.iconst 0, 1) := by decide +kernel
theorem dX7_clear_7 : decode cX7_clear 7 = .ok (.putfield 43, 3) := by decide +kernel
theorem dX7_clear_10 : decode cX7_clear 10 = .ok (.aload_n 0, 1) := by decide +kernel
theorem dX7_clear_11 : decode cX7_clear 11 = .ok (.iconst 0, 1) := by decide +kernel
theorem dX7_clear_12 : decode cX7_clear 12 = .ok (.putfield 46, 3) := by decide +kernel
theorem dX7_clear_15 : decode cX7_clear 15 = .ok (.return_, 1) := by decide +kernel
theorem dX7_addFunction_0 : decode cX7_addFunction 0 = .ok (.aload_n 0, 1) := by decide +kernel
theorem dX7_addFunction_1 : decode cX7_addFunction 1 = .ok (.getfield 39, 3) := by decide +kernel
theorem dX7_addFunction_4 : decode cX7_addFunction 4 = .ok (.bipush 8, 2) := by decide +kernel
theorem dX7_addFunction_6 : decode cX7_addFunction 6 = .ok (.if_icmp .ge 33, 3) := by decide +kernel
theorem dX7_addFunction_9 : decode cX7_addFunction 9 = .ok (.aload_n 0, 1) := by decide +kernel
theorem dX7_addFunction_10 : decode cX7_addFunction 10 = .ok (.getfield 15, 3) := by decide +kernel
theorem dX7_addFunction_13 : decode cX7_addFunction 13 = .ok (.aload_n 0, 1) := by decide +kernel
theorem dX7_addFunction_14 : decode cX7_addFunction 14 = .ok (.getfield 39, 3) := by decide +kernel
theorem dX7_addFunction_17 : decode cX7_addFunction 17 = .ok (.iload_n 1, 1) := by decide +kernel
theorem dX7_addFunction_18 : decode cX7_addFunction 18 = .ok (.iastore, 1) := by decide +kernel
theorem dX7_addFunction_19 : decode cX7_addFunction 19 = .ok (.aload_n 0, 1) := by decide +kernel
theorem dX7_addFunction_20 : decode cX7_addFunction 20 = .ok (.getfield 9, 3) := by decide +kernel
theorem dX7_addFunction_23 : decode cX7_addFunction 23 = .ok (.aload_n 0, 1) := by decide +kernel
theorem dX7_addFunction_24 : decode cX7_addFunction 24 = .ok (.getfield 39, 3) := by decide +kernel
theorem dX7_addFunction_27 : decode cX7_addFunction 27 = .ok (.iload_n 2, 1) := by decide +kernel
theorem dX7_addFunction_28 : decode cX7_addFunction 28 = .ok (.iastore, 1) := by decide +kernel
theorem dX7_addFunction_29 : decode cX7_addFunction 29 = .ok (.aload_n 0, 1) := by decide +kernel
theorem dX7_addFunction_30 : decode cX7_addFunction 30 = .ok (.dup, 1) := by decide +kernel
theorem dX7_addFunction_31 : decode cX7_addFunction 31 = .ok (.getfield 39, 3) := by decide +kernel
theorem dX7_addFunction_34 : decode cX7_addFunction 34 = .ok (.iconst 1, 1) := by decide +kernel
theorem dX7_addFunction_35 : decode cX7_addFunction 35 = .ok (.iadd, 1) := by decide +kernel
theorem dX7_addFunction_36 : decode cX7_addFunction 36 = .ok (.putfield 39, 3) := by decide +kernel
theorem dX7_addFunction_39 : decode cX7_addFunction 39 = .ok (.return_, 1) := by decide +kernel
theorem dX7_addTerm_0 : decode cX7_addTerm 0 = .ok (.aload_n 0, 1) := by decide +kernel
theorem dX7_addTerm_1 : decode cX7_addTerm 1 = .ok (.getfield 43, 3) := by decide +kernel
theorem dX7_addTerm_4 : decode cX7_addTerm 4 = .ok (.bipush 24, 2) := by decide +kernel
theorem dX7_addTerm_6 : decode cX7_addTerm 6 = .ok (.if_icmp .lt 4, 3) := by decide +kernel
theorem dX7_addTerm_9 : decode cX7_addTerm 9 = .ok (.return_, 1) := by decide +kernel
theorem dX7_addTerm_10 : decode cX7_addTerm 10 = .ok (.aload_n 0, 1) := by decide +kernel
theorem dX7_addTerm_11 : decode cX7_addTerm 11 = .ok (.getfield 43, 3) := by decide +kernel
theorem dX7_addTerm_14 : decode cX7_addTerm 14 = .ok (.iconst 3, 1) := by decide +kernel
theorem dX7_addTerm_15 : decode cX7_addTerm 15 = .ok (.imul, 1) := by decide +kernel
theorem dX7_addTerm_16 : decode cX7_addTerm 16 = .ok (.istore 6, 2) := by decide +kernel
theorem dX7_addTerm_18 : decode cX7_addTerm 18 = .ok (.aload_n 0, 1) := by decide +kernel
theorem dX7_addTerm_19 : decode cX7_addTerm 19 = .ok (.getfield 27, 3) := by decide +kernel
theorem dX7_addTerm_22 : decode cX7_addTerm 22 = .ok (.iload 6, 2) := by decide +kernel
theorem dX7_addTerm_24 : decode cX7_addTerm 24 = .ok (.iload_n 3, 1) := by decide +kernel
theorem dX7_addTerm_25 : decode cX7_addTerm 25 = .ok (.iastore, 1) := by decide +kernel
theorem dX7_addTerm_26 : decode cX7_addTerm 26 = .ok (.aload_n 0, 1) := by decide +kernel
theorem dX7_addTerm_27 : decode cX7_addTerm 27 = .ok (.getfield 27, 3) := by decide +kernel
theorem dX7_addTerm_30 : decode cX7_addTerm 30 = .ok (.iload 6, 2) := by decide +kernel
theorem dX7_addTerm_32 : decode cX7_addTerm 32 = .ok (.iconst 1, 1) := by decide +kernel
theorem dX7_addTerm_33 : decode cX7_addTerm 33 = .ok (.iadd, 1) := by decide +kernel
theorem dX7_addTerm_34 : decode cX7_addTerm 34 = .ok (.iload 4, 2) := by decide +kernel
theorem dX7_addTerm_36 : decode cX7_addTerm 36 = .ok (.iastore, 1) := by decide +kernel
theorem dX7_addTerm_37 : decode cX7_addTerm 37 = .ok (.aload_n 0, 1) := by decide +kernel
theorem dX7_addTerm_38 : decode cX7_addTerm 38 = .ok (.getfield 27, 3) := by decide +kernel
theorem dX7_addTerm_41 : decode cX7_addTerm 41 = .ok (.iload 6, 2) := by decide +kernel
theorem dX7_addTerm_43 : decode cX7_addTerm 43 = .ok (.iconst 2, 1) := by decide +kernel
theorem dX7_addTerm_44 : decode cX7_addTerm 44 = .ok (.iadd, 1) := by decide +kernel
theorem dX7_addTerm_45 : decode cX7_addTerm 45 = .ok (.iload 5, 2) := by decide +kernel
theorem dX7_addTerm_47 : decode cX7_addTerm 47 = .ok (.iastore, 1) := by decide +kernel
theorem dX7_addTerm_48 : decode cX7_addTerm 48 = .ok (.aload_n 0, 1) := by decide +kernel
theorem dX7_addTerm_49 : decode cX7_addTerm 49 = .ok (.getfield 21, 3) := by decide +kernel
theorem dX7_addTerm_52 : decode cX7_addTerm 52 = .ok (.aload_n 0, 1) := by decide +kernel
theorem dX7_addTerm_53 : decode cX7_addTerm 53 = .ok (.getfield 43, 3) := by decide +kernel
theorem dX7_addTerm_56 : decode cX7_addTerm 56 = .ok (.iload_n 1, 1) := by decide +kernel
theorem dX7_addTerm_57 : decode cX7_addTerm 57 = .ok (.iastore, 1) := by decide +kernel
theorem dX7_addTerm_58 : decode cX7_addTerm 58 = .ok (.aload_n 0, 1) := by decide +kernel
theorem dX7_addTerm_59 : decode cX7_addTerm 59 = .ok (.getfield 18, 3) := by decide +kernel
theorem dX7_addTerm_62 : decode cX7_addTerm 62 = .ok (.aload_n 0, 1) := by decide +kernel
theorem dX7_addTerm_63 : decode cX7_addTerm 63 = .ok (.getfield 43, 3) := by decide +kernel
theorem dX7_addTerm_66 : decode cX7_addTerm 66 = .ok (.iload_n 2, 1) := by decide +kernel
theorem dX7_addTerm_67 : decode cX7_addTerm 67 = .ok (.iastore, 1) := by decide +kernel
theorem dX7_addTerm_68 : decode cX7_addTerm 68 = .ok (.iconst 0, 1) := by decide +kernel
theorem dX7_addTerm_69 : decode cX7_addTerm 69 = .ok (.istore 7, 2) := by decide +kernel
theorem dX7_addTerm_71 : decode cX7_addTerm 71 = .ok (.iconst 0, 1) := by decide +kernel
theorem dX7_addTerm_72 : decode cX7_addTerm 72 = .ok (.istore 8, 2) := by decide +kernel
theorem dX7_addTerm_74 : decode cX7_addTerm 74 = .ok (.iload 8, 2) := by decide +kernel
theorem dX7_addTerm_76 : decode cX7_addTerm 76 = .ok (.aload_n 0, 1) := by decide +kernel
theorem dX7_addTerm_77 : decode cX7_addTerm 77 = .ok (.getfield 9, 3) := by decide +kernel
theorem dX7_addTerm_80 : decode cX7_addTerm 80 = .ok (.iload_n 2, 1) := by decide +kernel
theorem dX7_addTerm_81 : decode cX7_addTerm 81 = .ok (.iaload, 1) := by decide +kernel
theorem dX7_addTerm_82 : decode cX7_addTerm 82 = .ok (.if_icmp .ge 33, 3) := by decide +kernel
theorem dX7_addTerm_85 : decode cX7_addTerm 85 = .ok (.iload 7, 2) := by decide +kernel
theorem dX7_addTerm_87 : decode cX7_addTerm 87 = .ok (.iconst 1, 1) := by decide +kernel
theorem dX7_addTerm_88 : decode cX7_addTerm 88 = .ok (.aload_n 0, 1) := by decide +kernel
theorem dX7_addTerm_89 : decode cX7_addTerm 89 = .ok (.getfield 24, 3) := by decide +kernel
theorem dX7_addTerm_92 : decode cX7_addTerm 92 = .ok (.aload_n 0, 1) := by decide +kernel
theorem dX7_addTerm_93 : decode cX7_addTerm 93 = .ok (.getfield 27, 3) := by decide +kernel
theorem dX7_addTerm_96 : decode cX7_addTerm 96 = .ok (.iload 6, 2) := by decide +kernel
theorem dX7_addTerm_98 : decode cX7_addTerm 98 = .ok (.iload 8, 2) := by decide +kernel
theorem dX7_addTerm_100 : decode cX7_addTerm 100 = .ok (.iadd, 1) := by decide +kernel
theorem dX7_addTerm_101 : decode cX7_addTerm 101 = .ok (.iaload, 1) := by decide +kernel
theorem dX7_addTerm_102 : decode cX7_addTerm 102 = .ok (.iaload, 1) := by decide +kernel
theorem dX7_addTerm_103 : decode cX7_addTerm 103 = .ok (.iadd, 1) := by decide +kernel
theorem dX7_addTerm_104 : decode cX7_addTerm 104 = .ok (.invokestatic 49, 3) := by decide +kernel
theorem dX7_addTerm_107 : decode cX7_addTerm 107 = .ok (.istore 7, 2) := by decide +kernel
theorem dX7_addTerm_109 : decode cX7_addTerm 109 = .ok (.iinc 8 1, 3) := by decide +kernel
theorem dX7_addTerm_112 : decode cX7_addTerm 112 = .ok (.goto (-38), 3) := by decide +kernel
theorem dX7_addTerm_115 : decode cX7_addTerm 115 = .ok (.aload_n 0, 1) := by decide +kernel
theorem dX7_addTerm_116 : decode cX7_addTerm 116 = .ok (.getfield 24, 3) := by decide +kernel
theorem dX7_addTerm_119 : decode cX7_addTerm 119 = .ok (.aload_n 0, 1) := by decide +kernel
theorem dX7_addTerm_120 : decode cX7_addTerm 120 = .ok (.getfield 43, 3) := by decide +kernel
theorem dX7_addTerm_123 : decode cX7_addTerm 123 = .ok (.iload 7, 2) := by decide +kernel
theorem dX7_addTerm_125 : decode cX7_addTerm 125 = .ok (.iastore, 1) := by decide +kernel
theorem dX7_addTerm_126 : decode cX7_addTerm 126 = .ok (.aload_n 0, 1) := by decide +kernel
theorem dX7_addTerm_127 : decode cX7_addTerm 127 = .ok (.dup, 1) := by decide +kernel
theorem dX7_addTerm_128 : decode cX7_addTerm 128 = .ok (.getfield 43, 3) := by decide +kernel
theorem dX7_addTerm_131 : decode cX7_addTerm 131 = .ok (.iconst 1, 1) := by decide +kernel
theorem dX7_addTerm_132 : decode cX7_addTerm 132 = .ok (.iadd, 1) := by decide +kernel
theorem dX7_addTerm_133 : decode cX7_addTerm 133 = .ok (.putfield 43, 3) := by decide +kernel
theorem dX7_addTerm_136 : decode cX7_addTerm 136 = .ok (.aload_n 0, 1) := by decide +kernel
theorem dX7_addTerm_137 : decode cX7_addTerm 137 = .ok (.invokevirtual 55, 3) := by decide +kernel
theorem dX7_addTerm_140 : decode cX7_addTerm 140 = .ok (.return_, 1) := by decide +kernel
theorem dX7_dropTerm_0 : decode cX7_dropTerm 0 = .ok (.aload_n 0, 1) := by decide +kernel
theorem dX7_dropTerm_1 : decode cX7_dropTerm 1 = .ok (.getfield 43, 3) := by decide +kernel
theorem dX7_dropTerm_4 : decode cX7_dropTerm 4 = .ok (.ifCond .le 17, 3) := by decide +kernel
theorem dX7_dropTerm_7 : decode cX7_dropTerm 7 = .ok (.aload_n 0, 1) := by decide +kernel
theorem dX7_dropTerm_8 : decode cX7_dropTerm 8 = .ok (.dup, 1) := by decide +kernel
theorem dX7_dropTerm_9 : decode cX7_dropTerm 9 = .ok (.getfield 43, 3) := by decide +kernel
theorem dX7_dropTerm_12 : decode cX7_dropTerm 12 = .ok (.iconst 1, 1) := by decide +kernel
theorem dX7_dropTerm_13 : decode cX7_dropTerm 13 = .ok (.isub, 1) := by decide +kernel
theorem dX7_dropTerm_14 : decode cX7_dropTerm 14 = .ok (.putfield 43, 3) := by decide +kernel
theorem dX7_dropTerm_17 : decode cX7_dropTerm 17 = .ok (.aload_n 0, 1) := by decide +kernel
theorem dX7_dropTerm_18 : decode cX7_dropTerm 18 = .ok (.invokevirtual 55, 3) := by decide +kernel
theorem dX7_dropTerm_21 : decode cX7_dropTerm 21 = .ok (.return_, 1) := by decide +kernel
theorem dX7_listPairs_0 : decode cX7_listPairs 0 = .ok (.aload_n 0, 1) := by decide +kernel
theorem dX7_listPairs_1 : decode cX7_listPairs 1 = .ok (.iconst 0, 1) := by decide +kernel
theorem dX7_listPairs_2 : decode cX7_listPairs 2 = .ok (.putfield 46, 3) := by decide +kernel
theorem dX7_listPairs_5 : decode cX7_listPairs 5 = .ok (.iconst 0, 1) := by decide +kernel
theorem dX7_listPairs_6 : decode cX7_listPairs 6 = .ok (.istore_n 1, 1) := by decide +kernel
theorem dX7_listPairs_7 : decode cX7_listPairs 7 = .ok (.iload_n 1, 1) := by decide +kernel
theorem dX7_listPairs_8 : decode cX7_listPairs 8 = .ok (.aload_n 0, 1) := by decide +kernel
theorem dX7_listPairs_9 : decode cX7_listPairs 9 = .ok (.getfield 43, 3) := by decide +kernel
theorem dX7_listPairs_12 : decode cX7_listPairs 12 = .ok (.if_icmp .ge 72, 3) := by decide +kernel
theorem dX7_listPairs_15 : decode cX7_listPairs 15 = .ok (.iload_n 1, 1) := by decide +kernel
theorem dX7_listPairs_16 : decode cX7_listPairs 16 = .ok (.iconst 1, 1) := by decide +kernel
theorem dX7_listPairs_17 : decode cX7_listPairs 17 = .ok (.iadd, 1) := by decide +kernel
theorem dX7_listPairs_18 : decode cX7_listPairs 18 = .ok (.istore_n 2, 1) := by decide +kernel
theorem dX7_listPairs_19 : decode cX7_listPairs 19 = .ok (.iload_n 2, 1) := by decide +kernel
theorem dX7_listPairs_20 : decode cX7_listPairs 20 = .ok (.aload_n 0, 1) := by decide +kernel
theorem dX7_listPairs_21 : decode cX7_listPairs 21 = .ok (.getfield 43, 3) := by decide +kernel
theorem dX7_listPairs_24 : decode cX7_listPairs 24 = .ok (.if_icmp .ge 54, 3) := by decide +kernel
theorem dX7_listPairs_27 : decode cX7_listPairs 27 = .ok (.aload_n 0, 1) := by decide +kernel
theorem dX7_listPairs_28 : decode cX7_listPairs 28 = .ok (.getfield 18, 3) := by decide +kernel
theorem dX7_listPairs_31 : decode cX7_listPairs 31 = .ok (.iload_n 1, 1) := by decide +kernel
theorem dX7_listPairs_32 : decode cX7_listPairs 32 = .ok (.iaload, 1) := by decide +kernel
theorem dX7_listPairs_33 : decode cX7_listPairs 33 = .ok (.aload_n 0, 1) := by decide +kernel
theorem dX7_listPairs_34 : decode cX7_listPairs 34 = .ok (.getfield 18, 3) := by decide +kernel
theorem dX7_listPairs_37 : decode cX7_listPairs 37 = .ok (.iload_n 2, 1) := by decide +kernel
theorem dX7_listPairs_38 : decode cX7_listPairs 38 = .ok (.iaload, 1) := by decide +kernel
theorem dX7_listPairs_39 : decode cX7_listPairs 39 = .ok (.if_icmp .ne 33, 3) := by decide +kernel
theorem dX7_listPairs_42 : decode cX7_listPairs 42 = .ok (.aload_n 0, 1) := by decide +kernel
theorem dX7_listPairs_43 : decode cX7_listPairs 43 = .ok (.getfield 33, 3) := by decide +kernel
theorem dX7_listPairs_46 : decode cX7_listPairs 46 = .ok (.aload_n 0, 1) := by decide +kernel
theorem dX7_listPairs_47 : decode cX7_listPairs 47 = .ok (.getfield 46, 3) := by decide +kernel
theorem dX7_listPairs_50 : decode cX7_listPairs 50 = .ok (.iload_n 1, 1) := by decide +kernel
theorem dX7_listPairs_51 : decode cX7_listPairs 51 = .ok (.iastore, 1) := by decide +kernel
theorem dX7_listPairs_52 : decode cX7_listPairs 52 = .ok (.aload_n 0, 1) := by decide +kernel
theorem dX7_listPairs_53 : decode cX7_listPairs 53 = .ok (.getfield 36, 3) := by decide +kernel
theorem dX7_listPairs_56 : decode cX7_listPairs 56 = .ok (.aload_n 0, 1) := by decide +kernel
theorem dX7_listPairs_57 : decode cX7_listPairs 57 = .ok (.getfield 46, 3) := by decide +kernel
theorem dX7_listPairs_60 : decode cX7_listPairs 60 = .ok (.iload_n 2, 1) := by decide +kernel
theorem dX7_listPairs_61 : decode cX7_listPairs 61 = .ok (.iastore, 1) := by decide +kernel
theorem dX7_listPairs_62 : decode cX7_listPairs 62 = .ok (.aload_n 0, 1) := by decide +kernel
theorem dX7_listPairs_63 : decode cX7_listPairs 63 = .ok (.dup, 1) := by decide +kernel
theorem dX7_listPairs_64 : decode cX7_listPairs 64 = .ok (.getfield 46, 3) := by decide +kernel
theorem dX7_listPairs_67 : decode cX7_listPairs 67 = .ok (.iconst 1, 1) := by decide +kernel
theorem dX7_listPairs_68 : decode cX7_listPairs 68 = .ok (.iadd, 1) := by decide +kernel
theorem dX7_listPairs_69 : decode cX7_listPairs 69 = .ok (.putfield 46, 3) := by decide +kernel
theorem dX7_listPairs_72 : decode cX7_listPairs 72 = .ok (.iinc 2 1, 3) := by decide +kernel
theorem dX7_listPairs_75 : decode cX7_listPairs 75 = .ok (.goto (-56), 3) := by decide +kernel
theorem dX7_listPairs_78 : decode cX7_listPairs 78 = .ok (.iinc 1 1, 3) := by decide +kernel
theorem dX7_listPairs_81 : decode cX7_listPairs 81 = .ok (.goto (-74), 3) := by decide +kernel
theorem dX7_listPairs_84 : decode cX7_listPairs 84 = .ok (.return_, 1) := by decide +kernel
theorem dX7_functionNamed_0 : decode cX7_functionNamed 0 = .ok (.iconst 0, 1) := by decide +kernel
theorem dX7_functionNamed_1 : decode cX7_functionNamed 1 = .ok (.istore_n 2, 1) := by decide +kernel
theorem dX7_functionNamed_2 : decode cX7_functionNamed 2 = .ok (.iload_n 2, 1) := by decide +kernel
theorem dX7_functionNamed_3 : decode cX7_functionNamed 3 = .ok (.aload_n 0, 1) := by decide +kernel
theorem dX7_functionNamed_4 : decode cX7_functionNamed 4 = .ok (.getfield 39, 3) := by decide +kernel
theorem dX7_functionNamed_7 : decode cX7_functionNamed 7 = .ok (.if_icmp .ge 21, 3) := by decide +kernel
theorem dX7_functionNamed_10 : decode cX7_functionNamed 10 = .ok (.aload_n 0, 1) := by decide +kernel
theorem dX7_functionNamed_11 : decode cX7_functionNamed 11 = .ok (.getfield 15, 3) := by decide +kernel
theorem dX7_functionNamed_14 : decode cX7_functionNamed 14 = .ok (.iload_n 2, 1) := by decide +kernel
theorem dX7_functionNamed_15 : decode cX7_functionNamed 15 = .ok (.iaload, 1) := by decide +kernel
theorem dX7_functionNamed_16 : decode cX7_functionNamed 16 = .ok (.iload_n 1, 1) := by decide +kernel
theorem dX7_functionNamed_17 : decode cX7_functionNamed 17 = .ok (.if_icmp .ne 5, 3) := by decide +kernel
theorem dX7_functionNamed_20 : decode cX7_functionNamed 20 = .ok (.iload_n 2, 1) := by decide +kernel
theorem dX7_functionNamed_21 : decode cX7_functionNamed 21 = .ok (.ireturn, 1) := by decide +kernel
theorem dX7_functionNamed_22 : decode cX7_functionNamed 22 = .ok (.iinc 2 1, 3) := by decide +kernel
theorem dX7_functionNamed_25 : decode cX7_functionNamed 25 = .ok (.goto (-23), 3) := by decide +kernel
theorem dX7_functionNamed_28 : decode cX7_functionNamed 28 = .ok (.iconst (-1), 1) := by decide +kernel
theorem dX7_functionNamed_29 : decode cX7_functionNamed 29 = .ok (.ireturn, 1) := by decide +kernel
theorem dX7_termNamed_0 : decode cX7_termNamed 0 = .ok (.iconst 0, 1) := by decide +kernel
theorem dX7_termNamed_1 : decode cX7_termNamed 1 = .ok (.istore_n 2, 1) := by decide +kernel
theorem dX7_termNamed_2 : decode cX7_termNamed 2 = .ok (.iload_n 2, 1) := by decide +kernel
theorem dX7_termNamed_3 : decode cX7_termNamed 3 = .ok (.aload_n 0, 1) := by decide +kernel
theorem dX7_termNamed_4 : decode cX7_termNamed 4 = .ok (.getfield 43, 3) := by decide +kernel
theorem dX7_termNamed_7 : decode cX7_termNamed 7 = .ok (.if_icmp .ge 25, 3) := by decide +kernel
theorem dX7_termNamed_10 : decode cX7_termNamed 10 = .ok (.iload_n 1, 1) := by decide +kernel
theorem dX7_termNamed_11 : decode cX7_termNamed 11 = .ok (.ifCond .le 21, 3) := by decide +kernel
theorem dX7_termNamed_14 : decode cX7_termNamed 14 = .ok (.aload_n 0, 1) := by decide +kernel
theorem dX7_termNamed_15 : decode cX7_termNamed 15 = .ok (.getfield 21, 3) := by decide +kernel
theorem dX7_termNamed_18 : decode cX7_termNamed 18 = .ok (.iload_n 2, 1) := by decide +kernel
theorem dX7_termNamed_19 : decode cX7_termNamed 19 = .ok (.iaload, 1) := by decide +kernel
theorem dX7_termNamed_20 : decode cX7_termNamed 20 = .ok (.iload_n 1, 1) := by decide +kernel
theorem dX7_termNamed_21 : decode cX7_termNamed 21 = .ok (.if_icmp .ne 5, 3) := by decide +kernel
theorem dX7_termNamed_24 : decode cX7_termNamed 24 = .ok (.iload_n 2, 1) := by decide +kernel
theorem dX7_termNamed_25 : decode cX7_termNamed 25 = .ok (.ireturn, 1) := by decide +kernel
theorem dX7_termNamed_26 : decode cX7_termNamed 26 = .ok (.iinc 2 1, 3) := by decide +kernel
theorem dX7_termNamed_29 : decode cX7_termNamed 29 = .ok (.goto (-27), 3) := by decide +kernel
theorem dX7_termNamed_32 : decode cX7_termNamed 32 = .ok (.iconst (-1), 1) := by decide +kernel
theorem dX7_termNamed_33 : decode cX7_termNamed 33 = .ok (.ireturn, 1) := by decide +kernel
theorem dX7_partsOf_0 : decode cX7_partsOf 0 = .ok (.aload_n 0, 1) := by decide +kernel
theorem dX7_partsOf_1 : decode cX7_partsOf 1 = .ok (.getfield 9, 3) := by decide +kernel
theorem dX7_partsOf_4 : decode cX7_partsOf 4 = .ok (.aload_n 0, 1) := by decide +kernel
theorem dX7_partsOf_5 : decode cX7_partsOf 5 = .ok (.getfield 18, 3) := by decide +kernel
theorem dX7_partsOf_8 : decode cX7_partsOf 8 = .ok (.iload_n 1, 1) := by decide +kernel
theorem dX7_partsOf_9 : decode cX7_partsOf 9 = .ok (.iaload, 1) := by decide +kernel
theorem dX7_partsOf_10 : decode cX7_partsOf 10 = .ok (.iaload, 1) := by decide +kernel
theorem dX7_partsOf_11 : decode cX7_partsOf 11 = .ok (.ireturn, 1) := by decide +kernel
theorem dX7_partAt_0 : decode cX7_partAt 0 = .ok (.aload_n 0, 1) := by decide +kernel
theorem dX7_partAt_1 : decode cX7_partAt 1 = .ok (.getfield 27, 3) := by decide +kernel
theorem dX7_partAt_4 : decode cX7_partAt 4 = .ok (.iload_n 1, 1) := by decide +kernel
theorem dX7_partAt_5 : decode cX7_partAt 5 = .ok (.iconst 3, 1) := by decide +kernel
theorem dX7_partAt_6 : decode cX7_partAt 6 = .ok (.imul, 1) := by decide +kernel
theorem dX7_partAt_7 : decode cX7_partAt 7 = .ok (.iload_n 2, 1) := by decide +kernel
theorem dX7_partAt_8 : decode cX7_partAt 8 = .ok (.iadd, 1) := by decide +kernel
theorem dX7_partAt_9 : decode cX7_partAt 9 = .ok (.iaload, 1) := by decide +kernel
theorem dX7_partAt_10 : decode cX7_partAt 10 = .ok (.ireturn, 1) := by decide +kernel
theorem dX7_termsOf_0 : decode cX7_termsOf 0 = .ok (.iconst 0, 1) := by decide +kernel
theorem dX7_termsOf_1 : decode cX7_termsOf 1 = .ok (.istore_n 2, 1) := by decide +kernel
theorem dX7_termsOf_2 : decode cX7_termsOf 2 = .ok (.iconst 0, 1) := by decide +kernel
theorem dX7_termsOf_3 : decode cX7_termsOf 3 = .ok (.istore_n 3, 1) := by decide +kernel
theorem dX7_termsOf_4 : decode cX7_termsOf 4 = .ok (.iload_n 3, 1) := by decide +kernel
theorem dX7_termsOf_5 : decode cX7_termsOf 5 = .ok (.aload_n 0, 1) := by decide +kernel
theorem dX7_termsOf_6 : decode cX7_termsOf 6 = .ok (.getfield 43, 3) := by decide +kernel
theorem dX7_termsOf_9 : decode cX7_termsOf 9 = .ok (.if_icmp .ge 22, 3) := by decide +kernel
theorem dX7_termsOf_12 : decode cX7_termsOf 12 = .ok (.aload_n 0, 1) := by decide +kernel
theorem dX7_termsOf_13 : decode cX7_termsOf 13 = .ok (.getfield 18, 3) := by decide +kernel
theorem dX7_termsOf_16 : decode cX7_termsOf 16 = .ok (.iload_n 3, 1) := by decide +kernel
theorem dX7_termsOf_17 : decode cX7_termsOf 17 = .ok (.iaload, 1) := by decide +kernel
theorem dX7_termsOf_18 : decode cX7_termsOf 18 = .ok (.iload_n 1, 1) := by decide +kernel
theorem dX7_termsOf_19 : decode cX7_termsOf 19 = .ok (.if_icmp .ne 6, 3) := by decide +kernel
theorem dX7_termsOf_22 : decode cX7_termsOf 22 = .ok (.iinc 2 1, 3) := by decide +kernel
theorem dX7_termsOf_25 : decode cX7_termsOf 25 = .ok (.iinc 3 1, 3) := by decide +kernel
theorem dX7_termsOf_28 : decode cX7_termsOf 28 = .ok (.goto (-24), 3) := by decide +kernel
theorem dX7_termsOf_31 : decode cX7_termsOf 31 = .ok (.iload_n 2, 1) := by decide +kernel
theorem dX7_termsOf_32 : decode cX7_termsOf 32 = .ok (.ireturn, 1) := by decide +kernel
theorem dX7_groupsWith_0 : decode cX7_groupsWith 0 = .ok (.iconst 0, 1) := by decide +kernel
theorem dX7_groupsWith_1 : decode cX7_groupsWith 1 = .ok (.istore_n 3, 1) := by decide +kernel
theorem dX7_groupsWith_2 : decode cX7_groupsWith 2 = .ok (.iconst 0, 1) := by decide +kernel
theorem dX7_groupsWith_3 : decode cX7_groupsWith 3 = .ok (.istore 4, 2) := by decide +kernel
theorem dX7_groupsWith_5 : decode cX7_groupsWith 5 = .ok (.iload 4, 2) := by decide +kernel
theorem dX7_groupsWith_7 : decode cX7_groupsWith 7 = .ok (.aload_n 0, 1) := by decide +kernel
theorem dX7_groupsWith_8 : decode cX7_groupsWith 8 = .ok (.getfield 43, 3) := by decide +kernel
theorem dX7_groupsWith_11 : decode cX7_groupsWith 11 = .ok (.if_icmp .ge 32, 3) := by decide +kernel
theorem dX7_groupsWith_14 : decode cX7_groupsWith 14 = .ok (.aload_n 0, 1) := by decide +kernel
theorem dX7_groupsWith_15 : decode cX7_groupsWith 15 = .ok (.getfield 18, 3) := by decide +kernel
theorem dX7_groupsWith_18 : decode cX7_groupsWith 18 = .ok (.iload 4, 2) := by decide +kernel
theorem dX7_groupsWith_20 : decode cX7_groupsWith 20 = .ok (.iaload, 1) := by decide +kernel
theorem dX7_groupsWith_21 : decode cX7_groupsWith 21 = .ok (.iload_n 1, 1) := by decide +kernel
theorem dX7_groupsWith_22 : decode cX7_groupsWith 22 = .ok (.if_icmp .ne 15, 3) := by decide +kernel
theorem dX7_groupsWith_25 : decode cX7_groupsWith 25 = .ok (.iload_n 3, 1) := by decide +kernel
theorem dX7_groupsWith_26 : decode cX7_groupsWith 26 = .ok (.iconst 1, 1) := by decide +kernel
theorem dX7_groupsWith_27 : decode cX7_groupsWith 27 = .ok (.aload_n 2, 1) := by decide +kernel
theorem dX7_groupsWith_28 : decode cX7_groupsWith 28 = .ok (.getfield 58, 3) := by decide +kernel
theorem dX7_groupsWith_31 : decode cX7_groupsWith 31 = .ok (.iload 4, 2) := by decide +kernel
theorem dX7_groupsWith_33 : decode cX7_groupsWith 33 = .ok (.iaload, 1) := by decide +kernel
theorem dX7_groupsWith_34 : decode cX7_groupsWith 34 = .ok (.ishl, 1) := by decide +kernel
theorem dX7_groupsWith_35 : decode cX7_groupsWith 35 = .ok (.ior, 1) := by decide +kernel
theorem dX7_groupsWith_36 : decode cX7_groupsWith 36 = .ok (.istore_n 3, 1) := by decide +kernel
theorem dX7_groupsWith_37 : decode cX7_groupsWith 37 = .ok (.iinc 4 1, 3) := by decide +kernel
theorem dX7_groupsWith_40 : decode cX7_groupsWith 40 = .ok (.goto (-35), 3) := by decide +kernel
theorem dX7_groupsWith_43 : decode cX7_groupsWith 43 = .ok (.iload_n 3, 1) := by decide +kernel
theorem dX7_groupsWith_44 : decode cX7_groupsWith 44 = .ok (.invokestatic 63, 3) := by decide +kernel
theorem dX7_groupsWith_47 : decode cX7_groupsWith 47 = .ok (.ireturn, 1) := by decide +kernel
theorem dX7_termsAbove_0 : decode cX7_termsAbove 0 = .ok (.iconst 0, 1) := by decide +kernel
theorem dX7_termsAbove_1 : decode cX7_termsAbove 1 = .ok (.istore_n 3, 1) := by decide +kernel
theorem dX7_termsAbove_2 : decode cX7_termsAbove 2 = .ok (.iconst 0, 1) := by decide +kernel
theorem dX7_termsAbove_3 : decode cX7_termsAbove 3 = .ok (.istore 4, 2) := by decide +kernel
theorem dX7_termsAbove_5 : decode cX7_termsAbove 5 = .ok (.iload 4, 2) := by decide +kernel
theorem dX7_termsAbove_7 : decode cX7_termsAbove 7 = .ok (.aload_n 0, 1) := by decide +kernel
theorem dX7_termsAbove_8 : decode cX7_termsAbove 8 = .ok (.getfield 43, 3) := by decide +kernel
theorem dX7_termsAbove_11 : decode cX7_termsAbove 11 = .ok (.if_icmp .ge 31, 3) := by decide +kernel
theorem dX7_termsAbove_14 : decode cX7_termsAbove 14 = .ok (.aload_n 0, 1) := by decide +kernel
theorem dX7_termsAbove_15 : decode cX7_termsAbove 15 = .ok (.iload 4, 2) := by decide +kernel
theorem dX7_termsAbove_17 : decode cX7_termsAbove 17 = .ok (.aload_n 2, 1) := by decide +kernel
theorem dX7_termsAbove_18 : decode cX7_termsAbove 18 = .ok (.invokevirtual 69, 3) := by decide +kernel
theorem dX7_termsAbove_21 : decode cX7_termsAbove 21 = .ok (.aload_n 2, 1) := by decide +kernel
theorem dX7_termsAbove_22 : decode cX7_termsAbove 22 = .ok (.getfield 58, 3) := by decide +kernel
theorem dX7_termsAbove_25 : decode cX7_termsAbove 25 = .ok (.iload_n 1, 1) := by decide +kernel
theorem dX7_termsAbove_26 : decode cX7_termsAbove 26 = .ok (.iaload, 1) := by decide +kernel
theorem dX7_termsAbove_27 : decode cX7_termsAbove 27 = .ok (.iushr, 1) := by decide +kernel
theorem dX7_termsAbove_28 : decode cX7_termsAbove 28 = .ok (.iconst 1, 1) := by decide +kernel
theorem dX7_termsAbove_29 : decode cX7_termsAbove 29 = .ok (.iand, 1) := by decide +kernel
theorem dX7_termsAbove_30 : decode cX7_termsAbove 30 = .ok (.ifCond .eq 6, 3) := by decide +kernel
theorem dX7_termsAbove_33 : decode cX7_termsAbove 33 = .ok (.iinc 3 1, 3) := by decide +kernel
theorem dX7_termsAbove_36 : decode cX7_termsAbove 36 = .ok (.iinc 4 1, 3) := by decide +kernel
theorem dX7_termsAbove_39 : decode cX7_termsAbove 39 = .ok (.goto (-34), 3) := by decide +kernel
theorem dX7_termsAbove_42 : decode cX7_termsAbove 42 = .ok (.iload_n 3, 1) := by decide +kernel
theorem dX7_termsAbove_43 : decode cX7_termsAbove 43 = .ok (.ireturn, 1) := by decide +kernel
theorem dX7_partLeads_0 : decode cX7_partLeads 0 = .ok (.iconst 0, 1) := by decide +kernel
theorem dX7_partLeads_1 : decode cX7_partLeads 1 = .ok (.istore_n 3, 1) := by decide +kernel
theorem dX7_partLeads_2 : decode cX7_partLeads 2 = .ok (.iconst 0, 1) := by decide +kernel
theorem dX7_partLeads_3 : decode cX7_partLeads 3 = .ok (.istore 4, 2) := by decide +kernel
theorem dX7_partLeads_5 : decode cX7_partLeads 5 = .ok (.iload 4, 2) := by decide +kernel
theorem dX7_partLeads_7 : decode cX7_partLeads 7 = .ok (.aload_n 0, 1) := by decide +kernel
theorem dX7_partLeads_8 : decode cX7_partLeads 8 = .ok (.iload_n 1, 1) := by decide +kernel
theorem dX7_partLeads_9 : decode cX7_partLeads 9 = .ok (.invokevirtual 73, 3) := by decide +kernel
theorem dX7_partLeads_12 : decode cX7_partLeads 12 = .ok (.if_icmp .ge 26, 3) := by decide +kernel
theorem dX7_partLeads_15 : decode cX7_partLeads 15 = .ok (.iload_n 3, 1) := by decide +kernel
theorem dX7_partLeads_16 : decode cX7_partLeads 16 = .ok (.iconst 1, 1) := by decide +kernel
theorem dX7_partLeads_17 : decode cX7_partLeads 17 = .ok (.aload_n 2, 1) := by decide +kernel
theorem dX7_partLeads_18 : decode cX7_partLeads 18 = .ok (.getfield 58, 3) := by decide +kernel
theorem dX7_partLeads_21 : decode cX7_partLeads 21 = .ok (.aload_n 0, 1) := by decide +kernel
theorem dX7_partLeads_22 : decode cX7_partLeads 22 = .ok (.iload_n 1, 1) := by decide +kernel
theorem dX7_partLeads_23 : decode cX7_partLeads 23 = .ok (.iload 4, 2) := by decide +kernel
theorem dX7_partLeads_25 : decode cX7_partLeads 25 = .ok (.invokevirtual 76, 3) := by decide +kernel
theorem dX7_partLeads_28 : decode cX7_partLeads 28 = .ok (.iaload, 1) := by decide +kernel
theorem dX7_partLeads_29 : decode cX7_partLeads 29 = .ok (.ishl, 1) := by decide +kernel
theorem dX7_partLeads_30 : decode cX7_partLeads 30 = .ok (.ior, 1) := by decide +kernel
theorem dX7_partLeads_31 : decode cX7_partLeads 31 = .ok (.istore_n 3, 1) := by decide +kernel
theorem dX7_partLeads_32 : decode cX7_partLeads 32 = .ok (.iinc 4 1, 3) := by decide +kernel
theorem dX7_partLeads_35 : decode cX7_partLeads 35 = .ok (.goto (-30), 3) := by decide +kernel
theorem dX7_partLeads_38 : decode cX7_partLeads 38 = .ok (.iload_n 3, 1) := by decide +kernel
theorem dX7_partLeads_39 : decode cX7_partLeads 39 = .ok (.ireturn, 1) := by decide +kernel
theorem dX7_alike_0 : decode cX7_alike 0 = .ok (.aload_n 0, 1) := by decide +kernel
theorem dX7_alike_1 : decode cX7_alike 1 = .ok (.getfield 33, 3) := by decide +kernel
theorem dX7_alike_4 : decode cX7_alike 4 = .ok (.iload_n 1, 1) := by decide +kernel
theorem dX7_alike_5 : decode cX7_alike 5 = .ok (.iaload, 1) := by decide +kernel
theorem dX7_alike_6 : decode cX7_alike 6 = .ok (.iconst 3, 1) := by decide +kernel
theorem dX7_alike_7 : decode cX7_alike 7 = .ok (.imul, 1) := by decide +kernel
theorem dX7_alike_8 : decode cX7_alike 8 = .ok (.istore_n 3, 1) := by decide +kernel
theorem dX7_alike_9 : decode cX7_alike 9 = .ok (.aload_n 0, 1) := by decide +kernel
theorem dX7_alike_10 : decode cX7_alike 10 = .ok (.getfield 36, 3) := by decide +kernel
theorem dX7_alike_13 : decode cX7_alike 13 = .ok (.iload_n 1, 1) := by decide +kernel
theorem dX7_alike_14 : decode cX7_alike 14 = .ok (.iaload, 1) := by decide +kernel
theorem dX7_alike_15 : decode cX7_alike 15 = .ok (.iconst 3, 1) := by decide +kernel
theorem dX7_alike_16 : decode cX7_alike 16 = .ok (.imul, 1) := by decide +kernel
theorem dX7_alike_17 : decode cX7_alike 17 = .ok (.istore 4, 2) := by decide +kernel
theorem dX7_alike_19 : decode cX7_alike 19 = .ok (.aload_n 0, 1) := by decide +kernel
theorem dX7_alike_20 : decode cX7_alike 20 = .ok (.getfield 9, 3) := by decide +kernel
theorem dX7_alike_23 : decode cX7_alike 23 = .ok (.aload_n 0, 1) := by decide +kernel
theorem dX7_alike_24 : decode cX7_alike 24 = .ok (.getfield 18, 3) := by decide +kernel
theorem dX7_alike_27 : decode cX7_alike 27 = .ok (.aload_n 0, 1) := by decide +kernel
theorem dX7_alike_28 : decode cX7_alike 28 = .ok (.getfield 33, 3) := by decide +kernel
theorem dX7_alike_31 : decode cX7_alike 31 = .ok (.iload_n 1, 1) := by decide +kernel
theorem dX7_alike_32 : decode cX7_alike 32 = .ok (.iaload, 1) := by decide +kernel
theorem dX7_alike_33 : decode cX7_alike 33 = .ok (.iaload, 1) := by decide +kernel
theorem dX7_alike_34 : decode cX7_alike 34 = .ok (.iaload, 1) := by decide +kernel
theorem dX7_alike_35 : decode cX7_alike 35 = .ok (.istore 5, 2) := by decide +kernel
theorem dX7_alike_37 : decode cX7_alike 37 = .ok (.iconst 0, 1) := by decide +kernel
theorem dX7_alike_38 : decode cX7_alike 38 = .ok (.istore 6, 2) := by decide +kernel
theorem dX7_alike_40 : decode cX7_alike 40 = .ok (.iload 6, 2) := by decide +kernel
theorem dX7_alike_42 : decode cX7_alike 42 = .ok (.iload 5, 2) := by decide +kernel
theorem dX7_alike_44 : decode cX7_alike 44 = .ok (.if_icmp .ge 43, 3) := by decide +kernel
theorem dX7_alike_47 : decode cX7_alike 47 = .ok (.aload_n 2, 1) := by decide +kernel
theorem dX7_alike_48 : decode cX7_alike 48 = .ok (.getfield 58, 3) := by decide +kernel
theorem dX7_alike_51 : decode cX7_alike 51 = .ok (.aload_n 0, 1) := by decide +kernel
theorem dX7_alike_52 : decode cX7_alike 52 = .ok (.getfield 27, 3) := by decide +kernel
theorem dX7_alike_55 : decode cX7_alike 55 = .ok (.iload_n 3, 1) := by decide +kernel
theorem dX7_alike_56 : decode cX7_alike 56 = .ok (.iload 6, 2) := by decide +kernel
theorem dX7_alike_58 : decode cX7_alike 58 = .ok (.iadd, 1) := by decide +kernel
theorem dX7_alike_59 : decode cX7_alike 59 = .ok (.iaload, 1) := by decide +kernel
theorem dX7_alike_60 : decode cX7_alike 60 = .ok (.iaload, 1) := by decide +kernel
theorem dX7_alike_61 : decode cX7_alike 61 = .ok (.aload_n 2, 1) := by decide +kernel
theorem dX7_alike_62 : decode cX7_alike 62 = .ok (.getfield 58, 3) := by decide +kernel
theorem dX7_alike_65 : decode cX7_alike 65 = .ok (.aload_n 0, 1) := by decide +kernel
theorem dX7_alike_66 : decode cX7_alike 66 = .ok (.getfield 27, 3) := by decide +kernel
theorem dX7_alike_69 : decode cX7_alike 69 = .ok (.iload 4, 2) := by decide +kernel
theorem dX7_alike_71 : decode cX7_alike 71 = .ok (.iload 6, 2) := by decide +kernel
theorem dX7_alike_73 : decode cX7_alike 73 = .ok (.iadd, 1) := by decide +kernel
theorem dX7_alike_74 : decode cX7_alike 74 = .ok (.iaload, 1) := by decide +kernel
theorem dX7_alike_75 : decode cX7_alike 75 = .ok (.iaload, 1) := by decide +kernel
theorem dX7_alike_76 : decode cX7_alike 76 = .ok (.if_icmp .eq 5, 3) := by decide +kernel
theorem dX7_alike_79 : decode cX7_alike 79 = .ok (.iconst 0, 1) := by decide +kernel
theorem dX7_alike_80 : decode cX7_alike 80 = .ok (.ireturn, 1) := by decide +kernel
theorem dX7_alike_81 : decode cX7_alike 81 = .ok (.iinc 6 1, 3) := by decide +kernel
theorem dX7_alike_84 : decode cX7_alike 84 = .ok (.goto (-44), 3) := by decide +kernel
theorem dX7_alike_87 : decode cX7_alike 87 = .ok (.iconst 1, 1) := by decide +kernel
theorem dX7_alike_88 : decode cX7_alike 88 = .ok (.ireturn, 1) := by decide +kernel
theorem dX7_nextPair_0 : decode cX7_nextPair 0 = .ok (.iconst 0, 1) := by decide +kernel
theorem dX7_nextPair_1 : decode cX7_nextPair 1 = .ok (.istore_n 2, 1) := by decide +kernel
theorem dX7_nextPair_2 : decode cX7_nextPair 2 = .ok (.iload_n 2, 1) := by decide +kernel
theorem dX7_nextPair_3 : decode cX7_nextPair 3 = .ok (.aload_n 0, 1) := by decide +kernel
theorem dX7_nextPair_4 : decode cX7_nextPair 4 = .ok (.getfield 46, 3) := by decide +kernel
theorem dX7_nextPair_7 : decode cX7_nextPair 7 = .ok (.if_icmp .ge 39, 3) := by decide +kernel
theorem dX7_nextPair_10 : decode cX7_nextPair 10 = .ok (.aload_n 1, 1) := by decide +kernel
theorem dX7_nextPair_11 : decode cX7_nextPair 11 = .ok (.aload_n 0, 1) := by decide +kernel
theorem dX7_nextPair_12 : decode cX7_nextPair 12 = .ok (.getfield 33, 3) := by decide +kernel
theorem dX7_nextPair_15 : decode cX7_nextPair 15 = .ok (.iload_n 2, 1) := by decide +kernel
theorem dX7_nextPair_16 : decode cX7_nextPair 16 = .ok (.iaload, 1) := by decide +kernel
theorem dX7_nextPair_17 : decode cX7_nextPair 17 = .ok (.aload_n 0, 1) := by decide +kernel
theorem dX7_nextPair_18 : decode cX7_nextPair 18 = .ok (.getfield 36, 3) := by decide +kernel
theorem dX7_nextPair_21 : decode cX7_nextPair 21 = .ok (.iload_n 2, 1) := by decide +kernel
theorem dX7_nextPair_22 : decode cX7_nextPair 22 = .ok (.iaload, 1) := by decide +kernel
theorem dX7_nextPair_23 : decode cX7_nextPair 23 = .ok (.invokevirtual 79, 3) := by decide +kernel
theorem dX7_nextPair_26 : decode cX7_nextPair 26 = .ok (.ifCond .ne 14, 3) := by decide +kernel
theorem dX7_nextPair_29 : decode cX7_nextPair 29 = .ok (.aload_n 0, 1) := by decide +kernel
theorem dX7_nextPair_30 : decode cX7_nextPair 30 = .ok (.iload_n 2, 1) := by decide +kernel
theorem dX7_nextPair_31 : decode cX7_nextPair 31 = .ok (.aload_n 1, 1) := by decide +kernel
theorem dX7_nextPair_32 : decode cX7_nextPair 32 = .ok (.invokevirtual 83, 3) := by decide +kernel
theorem dX7_nextPair_35 : decode cX7_nextPair 35 = .ok (.ifCond .eq 5, 3) := by decide +kernel
theorem dX7_nextPair_38 : decode cX7_nextPair 38 = .ok (.iload_n 2, 1) := by decide +kernel
theorem dX7_nextPair_39 : decode cX7_nextPair 39 = .ok (.ireturn, 1) := by decide +kernel
theorem dX7_nextPair_40 : decode cX7_nextPair 40 = .ok (.iinc 2 1, 3) := by decide +kernel
theorem dX7_nextPair_43 : decode cX7_nextPair 43 = .ok (.goto (-41), 3) := by decide +kernel
theorem dX7_nextPair_46 : decode cX7_nextPair 46 = .ok (.iconst (-1), 1) := by decide +kernel
theorem dX7_nextPair_47 : decode cX7_nextPair 47 = .ok (.ireturn, 1) := by decide +kernel
theorem dX7_close_0 : decode cX7_close 0 = .ok (.iconst 1, 1) := by decide +kernel
theorem dX7_close_1 : decode cX7_close 1 = .ok (.istore_n 2, 1) := by decide +kernel
theorem dX7_close_2 : decode cX7_close 2 = .ok (.iconst 0, 1) := by decide +kernel
theorem dX7_close_3 : decode cX7_close 3 = .ok (.istore_n 3, 1) := by decide +kernel
theorem dX7_close_4 : decode cX7_close 4 = .ok (.iload_n 2, 1) := by decide +kernel
theorem dX7_close_5 : decode cX7_close 5 = .ok (.ifCond .eq 42, 3) := by decide +kernel
theorem dX7_close_8 : decode cX7_close 8 = .ok (.iload_n 3, 1) := by decide +kernel
theorem dX7_close_9 : decode cX7_close 9 = .ok (.bipush 24, 2) := by decide +kernel
theorem dX7_close_11 : decode cX7_close 11 = .ok (.if_icmp .gt 36, 3) := by decide +kernel
theorem dX7_close_14 : decode cX7_close 14 = .ok (.aload_n 1, 1) := by decide +kernel
theorem dX7_close_15 : decode cX7_close 15 = .ok (.getfield 87, 3) := by decide +kernel
theorem dX7_close_18 : decode cX7_close 18 = .ok (.istore 4, 2) := by decide +kernel
theorem dX7_close_20 : decode cX7_close 20 = .ok (.aload_n 0, 1) := by decide +kernel
theorem dX7_close_21 : decode cX7_close 21 = .ok (.aload_n 1, 1) := by decide +kernel
theorem dX7_close_22 : decode cX7_close 22 = .ok (.aload_n 1, 1) := by decide +kernel
theorem dX7_close_23 : decode cX7_close 23 = .ok (.invokevirtual 90, 3) := by decide +kernel
theorem dX7_close_26 : decode cX7_close 26 = .ok (.aload_n 1, 1) := by decide +kernel
theorem dX7_close_27 : decode cX7_close 27 = .ok (.getfield 87, 3) := by decide +kernel
theorem dX7_close_30 : decode cX7_close 30 = .ok (.iload 4, 2) := by decide +kernel
theorem dX7_close_32 : decode cX7_close 32 = .ok (.if_icmp .ge 7, 3) := by decide +kernel
theorem dX7_close_35 : decode cX7_close 35 = .ok (.iconst 1, 1) := by decide +kernel
theorem dX7_close_36 : decode cX7_close 36 = .ok (.goto 4, 3) := by decide +kernel
theorem dX7_close_39 : decode cX7_close 39 = .ok (.iconst 0, 1) := by decide +kernel
theorem dX7_close_40 : decode cX7_close 40 = .ok (.istore_n 2, 1) := by decide +kernel
theorem dX7_close_41 : decode cX7_close 41 = .ok (.iinc 3 1, 3) := by decide +kernel
theorem dX7_close_44 : decode cX7_close 44 = .ok (.goto (-40), 3) := by decide +kernel
theorem dX7_close_47 : decode cX7_close 47 = .ok (.return_, 1) := by decide +kernel
theorem dX7_climb_0 : decode cX7_climb 0 = .ok (.iconst 0, 1) := by decide +kernel
theorem dX7_climb_1 : decode cX7_climb 1 = .ok (.istore_n 3, 1) := by decide +kernel
theorem dX7_climb_2 : decode cX7_climb 2 = .ok (.iload_n 3, 1) := by decide +kernel
theorem dX7_climb_3 : decode cX7_climb 3 = .ok (.aload_n 0, 1) := by decide +kernel
theorem dX7_climb_4 : decode cX7_climb 4 = .ok (.getfield 43, 3) := by decide +kernel
theorem dX7_climb_7 : decode cX7_climb 7 = .ok (.if_icmp .ge 21, 3) := by decide +kernel
theorem dX7_climb_10 : decode cX7_climb 10 = .ok (.aload_n 0, 1) := by decide +kernel
theorem dX7_climb_11 : decode cX7_climb 11 = .ok (.getfield 30, 3) := by decide +kernel
theorem dX7_climb_14 : decode cX7_climb 14 = .ok (.iload_n 3, 1) := by decide +kernel
theorem dX7_climb_15 : decode cX7_climb 15 = .ok (.aload_n 0, 1) := by decide +kernel
theorem dX7_climb_16 : decode cX7_climb 16 = .ok (.iload_n 3, 1) := by decide +kernel
theorem dX7_climb_17 : decode cX7_climb 17 = .ok (.aload_n 1, 1) := by decide +kernel
theorem dX7_climb_18 : decode cX7_climb 18 = .ok (.invokevirtual 94, 3) := by decide +kernel
theorem dX7_climb_21 : decode cX7_climb 21 = .ok (.iastore, 1) := by decide +kernel
theorem dX7_climb_22 : decode cX7_climb 22 = .ok (.iinc 3 1, 3) := by decide +kernel
theorem dX7_climb_25 : decode cX7_climb 25 = .ok (.goto (-23), 3) := by decide +kernel
theorem dX7_climb_28 : decode cX7_climb 28 = .ok (.iconst 0, 1) := by decide +kernel
theorem dX7_climb_29 : decode cX7_climb 29 = .ok (.istore_n 3, 1) := by decide +kernel
theorem dX7_climb_30 : decode cX7_climb 30 = .ok (.iload_n 3, 1) := by decide +kernel
theorem dX7_climb_31 : decode cX7_climb 31 = .ok (.aload_n 0, 1) := by decide +kernel
theorem dX7_climb_32 : decode cX7_climb 32 = .ok (.getfield 46, 3) := by decide +kernel
theorem dX7_climb_35 : decode cX7_climb 35 = .ok (.if_icmp .ge 50, 3) := by decide +kernel
theorem dX7_climb_38 : decode cX7_climb 38 = .ok (.aload_n 0, 1) := by decide +kernel
theorem dX7_climb_39 : decode cX7_climb 39 = .ok (.getfield 30, 3) := by decide +kernel
theorem dX7_climb_42 : decode cX7_climb 42 = .ok (.aload_n 0, 1) := by decide +kernel
theorem dX7_climb_43 : decode cX7_climb 43 = .ok (.getfield 33, 3) := by decide +kernel
theorem dX7_climb_46 : decode cX7_climb 46 = .ok (.iload_n 3, 1) := by decide +kernel
theorem dX7_climb_47 : decode cX7_climb 47 = .ok (.iaload, 1) := by decide +kernel
theorem dX7_climb_48 : decode cX7_climb 48 = .ok (.iaload, 1) := by decide +kernel
theorem dX7_climb_49 : decode cX7_climb 49 = .ok (.aload_n 0, 1) := by decide +kernel
theorem dX7_climb_50 : decode cX7_climb 50 = .ok (.getfield 30, 3) := by decide +kernel
theorem dX7_climb_53 : decode cX7_climb 53 = .ok (.aload_n 0, 1) := by decide +kernel
theorem dX7_climb_54 : decode cX7_climb 54 = .ok (.getfield 36, 3) := by decide +kernel
theorem dX7_climb_57 : decode cX7_climb 57 = .ok (.iload_n 3, 1) := by decide +kernel
theorem dX7_climb_58 : decode cX7_climb 58 = .ok (.iaload, 1) := by decide +kernel
theorem dX7_climb_59 : decode cX7_climb 59 = .ok (.iaload, 1) := by decide +kernel
theorem dX7_climb_60 : decode cX7_climb 60 = .ok (.if_icmp .ne 19, 3) := by decide +kernel
theorem dX7_climb_63 : decode cX7_climb 63 = .ok (.aload_n 2, 1) := by decide +kernel
theorem dX7_climb_64 : decode cX7_climb 64 = .ok (.aload_n 0, 1) := by decide +kernel
theorem dX7_climb_65 : decode cX7_climb 65 = .ok (.getfield 33, 3) := by decide +kernel
theorem dX7_climb_68 : decode cX7_climb 68 = .ok (.iload_n 3, 1) := by decide +kernel
theorem dX7_climb_69 : decode cX7_climb 69 = .ok (.iaload, 1) := by decide +kernel
theorem dX7_climb_70 : decode cX7_climb 70 = .ok (.aload_n 0, 1) := by decide +kernel
theorem dX7_climb_71 : decode cX7_climb 71 = .ok (.getfield 36, 3) := by decide +kernel
theorem dX7_climb_74 : decode cX7_climb 74 = .ok (.iload_n 3, 1) := by decide +kernel
theorem dX7_climb_75 : decode cX7_climb 75 = .ok (.iaload, 1) := by decide +kernel
theorem dX7_climb_76 : decode cX7_climb 76 = .ok (.invokevirtual 97, 3) := by decide +kernel
theorem dX7_climb_79 : decode cX7_climb 79 = .ok (.iinc 3 1, 3) := by decide +kernel
theorem dX7_climb_82 : decode cX7_climb 82 = .ok (.goto (-52), 3) := by decide +kernel
theorem dX7_climb_85 : decode cX7_climb 85 = .ok (.return_, 1) := by decide +kernel
theorem dX7_madeOf_0 : decode cX7_madeOf 0 = .ok (.iconst 0, 1) := by decide +kernel
theorem dX7_madeOf_1 : decode cX7_madeOf 1 = .ok (.istore_n 3, 1) := by decide +kernel
theorem dX7_madeOf_2 : decode cX7_madeOf 2 = .ok (.iconst 0, 1) := by decide +kernel
theorem dX7_madeOf_3 : decode cX7_madeOf 3 = .ok (.istore 4, 2) := by decide +kernel
theorem dX7_madeOf_5 : decode cX7_madeOf 5 = .ok (.iload 4, 2) := by decide +kernel
theorem dX7_madeOf_7 : decode cX7_madeOf 7 = .ok (.aload_n 0, 1) := by decide +kernel
theorem dX7_madeOf_8 : decode cX7_madeOf 8 = .ok (.getfield 9, 3) := by decide +kernel
theorem dX7_madeOf_11 : decode cX7_madeOf 11 = .ok (.aload_n 0, 1) := by decide +kernel
theorem dX7_madeOf_12 : decode cX7_madeOf 12 = .ok (.getfield 18, 3) := by decide +kernel
theorem dX7_madeOf_15 : decode cX7_madeOf 15 = .ok (.iload_n 1, 1) := by decide +kernel
theorem dX7_madeOf_16 : decode cX7_madeOf 16 = .ok (.iaload, 1) := by decide +kernel
theorem dX7_madeOf_17 : decode cX7_madeOf 17 = .ok (.iaload, 1) := by decide +kernel
theorem dX7_madeOf_18 : decode cX7_madeOf 18 = .ok (.if_icmp .ge 31, 3) := by decide +kernel
theorem dX7_madeOf_21 : decode cX7_madeOf 21 = .ok (.iload_n 3, 1) := by decide +kernel
theorem dX7_madeOf_22 : decode cX7_madeOf 22 = .ok (.bipush 24, 2) := by decide +kernel
theorem dX7_madeOf_24 : decode cX7_madeOf 24 = .ok (.imul, 1) := by decide +kernel
theorem dX7_madeOf_25 : decode cX7_madeOf 25 = .ok (.aload_n 2, 1) := by decide +kernel
theorem dX7_madeOf_26 : decode cX7_madeOf 26 = .ok (.getfield 58, 3) := by decide +kernel
theorem dX7_madeOf_29 : decode cX7_madeOf 29 = .ok (.aload_n 0, 1) := by decide +kernel
theorem dX7_madeOf_30 : decode cX7_madeOf 30 = .ok (.getfield 27, 3) := by decide +kernel
theorem dX7_madeOf_33 : decode cX7_madeOf 33 = .ok (.iload_n 1, 1) := by decide +kernel
theorem dX7_madeOf_34 : decode cX7_madeOf 34 = .ok (.iconst 3, 1) := by decide +kernel
theorem dX7_madeOf_35 : decode cX7_madeOf 35 = .ok (.imul, 1) := by decide +kernel
theorem dX7_madeOf_36 : decode cX7_madeOf 36 = .ok (.iload 4, 2) := by decide +kernel
theorem dX7_madeOf_38 : decode cX7_madeOf 38 = .ok (.iadd, 1) := by decide +kernel
theorem dX7_madeOf_39 : decode cX7_madeOf 39 = .ok (.iaload, 1) := by decide +kernel
theorem dX7_madeOf_40 : decode cX7_madeOf 40 = .ok (.iaload, 1) := by decide +kernel
theorem dX7_madeOf_41 : decode cX7_madeOf 41 = .ok (.iadd, 1) := by decide +kernel
theorem dX7_madeOf_42 : decode cX7_madeOf 42 = .ok (.istore_n 3, 1) := by decide +kernel
theorem dX7_madeOf_43 : decode cX7_madeOf 43 = .ok (.iinc 4 1, 3) := by decide +kernel
theorem dX7_madeOf_46 : decode cX7_madeOf 46 = .ok (.goto (-41), 3) := by decide +kernel
theorem dX7_madeOf_49 : decode cX7_madeOf 49 = .ok (.iload_n 3, 1) := by decide +kernel
theorem dX7_madeOf_50 : decode cX7_madeOf 50 = .ok (.ireturn, 1) := by decide +kernel
theorem dX8_init_0 : decode cX8_init 0 = .ok (.aload_n 0, 1) := by decide +kernel
theorem dX8_init_1 : decode cX8_init 1 = .ok (.invokespecial 3, 3) := by decide +kernel
theorem dX8_init_4 : decode cX8_init 4 = .ok (.aload_n 0, 1) := by decide +kernel
theorem dX8_init_5 : decode cX8_init 5 = .ok (.new 9, 3) := by decide +kernel
theorem dX8_init_8 : decode cX8_init 8 = .ok (.dup, 1) := by decide +kernel
theorem dX8_init_9 : decode cX8_init 9 = .ok (.invokespecial 11, 3) := by decide +kernel
theorem dX8_init_12 : decode cX8_init 12 = .ok (.putfield 12, 3) := by decide +kernel
theorem dX8_init_15 : decode cX8_init 15 = .ok (.aload_n 0, 1) := by decide +kernel
theorem dX8_init_16 : decode cX8_init 16 = .ok (.new 16, 3) := by decide +kernel
theorem dX8_init_19 : decode cX8_init 19 = .ok (.dup, 1) := by decide +kernel
theorem dX8_init_20 : decode cX8_init 20 = .ok (.invokespecial 18, 3) := by decide +kernel
theorem dX8_init_23 : decode cX8_init 23 = .ok (.putfield 19, 3) := by decide +kernel
theorem dX8_init_26 : decode cX8_init 26 = .ok (.aload_n 0, 1) := by decide +kernel
theorem dX8_init_27 : decode cX8_init 27 = .ok (.new 23, 3) := by decide +kernel
theorem dX8_init_30 : decode cX8_init 30 = .ok (.dup, 1) := by decide +kernel
theorem dX8_init_31 : decode cX8_init 31 = .ok (.invokespecial 25, 3) := by decide +kernel
theorem dX8_init_34 : decode cX8_init 34 = .ok (.putfield 26, 3) := by decide +kernel
theorem dX8_init_37 : decode cX8_init 37 = .ok (.aload_n 0, 1) := by decide +kernel
theorem dX8_init_38 : decode cX8_init 38 = .ok (.new 30, 3) := by decide +kernel
theorem dX8_init_41 : decode cX8_init 41 = .ok (.dup, 1) := by decide +kernel
theorem dX8_init_42 : decode cX8_init 42 = .ok (.invokespecial 32, 3) := by decide +kernel
theorem dX8_init_45 : decode cX8_init 45 = .ok (.putfield 33, 3) := by decide +kernel
theorem dX8_init_48 : decode cX8_init 48 = .ok (.aload_n 0, 1) := by decide +kernel
theorem dX8_init_49 : decode cX8_init 49 = .ok (.new 30, 3) := by decide +kernel
theorem dX8_init_52 : decode cX8_init 52 = .ok (.dup, 1) := by decide +kernel
theorem dX8_init_53 : decode cX8_init 53 = .ok (.invokespecial 32, 3) := by decide +kernel
theorem dX8_init_56 : decode cX8_init 56 = .ok (.putfield 37, 3) := by decide +kernel
theorem dX8_init_59 : decode cX8_init 59 = .ok (.aload_n 0, 1) := by decide +kernel
theorem dX8_init_60 : decode cX8_init 60 = .ok (.new 40, 3) := by decide +kernel
theorem dX8_init_63 : decode cX8_init 63 = .ok (.dup, 1) := by decide +kernel
theorem dX8_init_64 : decode cX8_init 64 = .ok (.invokespecial 42, 3) := by decide +kernel
theorem dX8_init_67 : decode cX8_init 67 = .ok (.putfield 43, 3) := by decide +kernel
theorem dX8_init_70 : decode cX8_init 70 = .ok (.aload_n 0, 1) := by decide +kernel
theorem dX8_init_71 : decode cX8_init 71 = .ok (.new 40, 3) := by decide +kernel
theorem dX8_init_74 : decode cX8_init 74 = .ok (.dup, 1) := by decide +kernel
theorem dX8_init_75 : decode cX8_init 75 = .ok (.invokespecial 42, 3) := by decide +kernel
theorem dX8_init_78 : decode cX8_init 78 = .ok (.putfield 47, 3) := by decide +kernel
theorem dX8_init_81 : decode cX8_init 81 = .ok (.aload_n 0, 1) := by decide +kernel
theorem dX8_init_82 : decode cX8_init 82 = .ok (.iconst (-1), 1) := by decide +kernel
theorem dX8_init_83 : decode cX8_init 83 = .ok (.putfield 50, 3) := by decide +kernel
theorem dX8_init_86 : decode cX8_init 86 = .ok (.return_, 1) := by decide +kernel
theorem dX8_feed_0 : decode cX8_feed 0 = .ok (.aload_n 0, 1) := by decide +kernel
theorem dX8_feed_1 : decode cX8_feed 1 = .ok (.getfield 12, 3) := by decide +kernel
theorem dX8_feed_4 : decode cX8_feed 4 = .ok (.getfield 54, 3) := by decide +kernel
theorem dX8_feed_7 : decode cX8_feed 7 = .ok (.bipush 20, 2) := by decide +kernel
theorem dX8_feed_9 : decode cX8_feed 9 = .ok (.iadd, 1) := by decide +kernel
theorem dX8_feed_10 : decode cX8_feed 10 = .ok (.sipush 500, 3) := by decide +kernel
theorem dX8_feed_13 : decode cX8_feed 13 = .ok (.if_icmp .le 5, 3) := by decide +kernel
theorem dX8_feed_16 : decode cX8_feed 16 = .ok (.iconst (-1), 1) := by decide +kernel
theorem dX8_feed_17 : decode cX8_feed 17 = .ok (.ireturn, 1) := by decide +kernel
theorem dX8_feed_18 : decode cX8_feed 18 = .ok (.aload_n 0, 1) := by decide +kernel
theorem dX8_feed_19 : decode cX8_feed 19 = .ok (.getfield 12, 3) := by decide +kernel
theorem dX8_feed_22 : decode cX8_feed 22 = .ok (.iload_n 1, 1) := by decide +kernel
theorem dX8_feed_23 : decode cX8_feed 23 = .ok (.invokevirtual 57, 3) := by decide +kernel
theorem dX8_feed_26 : decode cX8_feed 26 = .ok (.aload_n 0, 1) := by decide +kernel
theorem dX8_feed_27 : decode cX8_feed 27 = .ok (.getfield 12, 3) := by decide +kernel
theorem dX8_feed_30 : decode cX8_feed 30 = .ok (.iload_n 2, 1) := by decide +kernel
theorem dX8_feed_31 : decode cX8_feed 31 = .ok (.invokevirtual 57, 3) := by decide +kernel
theorem dX8_feed_34 : decode cX8_feed 34 = .ok (.aload_n 0, 1) := by decide +kernel
theorem dX8_feed_35 : decode cX8_feed 35 = .ok (.getfield 12, 3) := by decide +kernel
theorem dX8_feed_38 : decode cX8_feed 38 = .ok (.iload_n 3, 1) := by decide +kernel
theorem dX8_feed_39 : decode cX8_feed 39 = .ok (.invokevirtual 57, 3) := by decide +kernel
theorem dX8_feed_42 : decode cX8_feed 42 = .ok (.aload_n 0, 1) := by decide +kernel
theorem dX8_feed_43 : decode cX8_feed 43 = .ok (.getfield 12, 3) := by decide +kernel
theorem dX8_feed_46 : decode cX8_feed 46 = .ok (.iload 4, 2) := by decide +kernel
theorem dX8_feed_48 : decode cX8_feed 48 = .ok (.invokevirtual 57, 3) := by decide +kernel
theorem dX8_feed_51 : decode cX8_feed 51 = .ok (.aload_n 0, 1) := by decide +kernel
theorem dX8_feed_52 : decode cX8_feed 52 = .ok (.getfield 12, 3) := by decide +kernel
theorem dX8_feed_55 : decode cX8_feed 55 = .ok (.iload 5, 2) := by decide +kernel
theorem dX8_feed_57 : decode cX8_feed 57 = .ok (.invokevirtual 57, 3) := by decide +kernel
theorem dX8_feed_60 : decode cX8_feed 60 = .ok (.aload_n 0, 1) := by decide +kernel
theorem dX8_feed_61 : decode cX8_feed 61 = .ok (.getfield 12, 3) := by decide +kernel
theorem dX8_feed_64 : decode cX8_feed 64 = .ok (.getfield 54, 3) := by decide +kernel
theorem dX8_feed_67 : decode cX8_feed 67 = .ok (.ireturn, 1) := by decide +kernel
theorem dX8_text_0 : decode cX8_text 0 = .ok (.iload_n 1, 1) := by decide +kernel
theorem dX8_text_1 : decode cX8_text 1 = .ok (.ifCond .lt 14, 3) := by decide +kernel
theorem dX8_text_4 : decode cX8_text 4 = .ok (.iload_n 1, 1) := by decide +kernel
theorem dX8_text_5 : decode cX8_text 5 = .ok (.aload_n 0, 1) := by decide +kernel
theorem dX8_text_6 : decode cX8_text 6 = .ok (.getfield 12, 3) := by decide +kernel
theorem dX8_text_9 : decode cX8_text 9 = .ok (.getfield 54, 3) := by decide +kernel
theorem dX8_text_12 : decode cX8_text 12 = .ok (.if_icmp .le 9, 3) := by decide +kernel
theorem dX8_text_15 : decode cX8_text 15 = .ok (.aload_n 0, 1) := by decide +kernel
theorem dX8_text_16 : decode cX8_text 16 = .ok (.iconst 2, 1) := by decide +kernel
theorem dX8_text_17 : decode cX8_text 17 = .ok (.invokevirtual 61, 3) := by decide +kernel
theorem dX8_text_20 : decode cX8_text 20 = .ok (.ireturn, 1) := by decide +kernel
theorem dX8_text_21 : decode cX8_text 21 = .ok (.new 65, 3) := by decide +kernel
theorem dX8_text_24 : decode cX8_text 24 = .ok (.dup, 1) := by decide +kernel
theorem dX8_text_25 : decode cX8_text 25 = .ok (.aload_n 0, 1) := by decide +kernel
theorem dX8_text_26 : decode cX8_text 26 = .ok (.getfield 12, 3) := by decide +kernel
theorem dX8_text_29 : decode cX8_text 29 = .ok (.iload_n 1, 1) := by decide +kernel
theorem dX8_text_30 : decode cX8_text 30 = .ok (.aload_n 0, 1) := by decide +kernel
theorem dX8_text_31 : decode cX8_text 31 = .ok (.getfield 47, 3) := by decide +kernel
theorem dX8_text_34 : decode cX8_text 34 = .ok (.invokespecial 67, 3) := by decide +kernel
theorem dX8_text_37 : decode cX8_text 37 = .ok (.astore_n 2, 1) := by decide +kernel
theorem dX8_text_38 : decode cX8_text 38 = .ok (.aload_n 2, 1) := by decide +kernel
theorem dX8_text_39 : decode cX8_text 39 = .ok (.invokevirtual 70, 3) := by decide +kernel
theorem dX8_text_42 : decode cX8_text 42 = .ok (.istore_n 3, 1) := by decide +kernel
theorem dX8_text_43 : decode cX8_text 43 = .ok (.aload_n 0, 1) := by decide +kernel
theorem dX8_text_44 : decode cX8_text 44 = .ok (.getfield 12, 3) := by decide +kernel
theorem dX8_text_47 : decode cX8_text 47 = .ok (.iconst 0, 1) := by decide +kernel
theorem dX8_text_48 : decode cX8_text 48 = .ok (.putfield 54, 3) := by decide +kernel
theorem dX8_text_51 : decode cX8_text 51 = .ok (.aload_n 0, 1) := by decide +kernel
theorem dX8_text_52 : decode cX8_text 52 = .ok (.aload_n 2, 1) := by decide +kernel
theorem dX8_text_53 : decode cX8_text 53 = .ok (.getfield 74, 3) := by decide +kernel
theorem dX8_text_56 : decode cX8_text 56 = .ok (.putfield 77, 3) := by decide +kernel
theorem dX8_text_59 : decode cX8_text 59 = .ok (.iload_n 3, 1) := by decide +kernel
theorem dX8_text_60 : decode cX8_text 60 = .ok (.ifCond .ne 19, 3) := by decide +kernel
theorem dX8_text_63 : decode cX8_text 63 = .ok (.aload_n 0, 1) := by decide +kernel
theorem dX8_text_64 : decode cX8_text 64 = .ok (.iconst 4, 1) := by decide +kernel
theorem dX8_text_65 : decode cX8_text 65 = .ok (.invokevirtual 61, 3) := by decide +kernel
theorem dX8_text_68 : decode cX8_text 68 = .ok (.pop, 1) := by decide +kernel
theorem dX8_text_69 : decode cX8_text 69 = .ok (.aload_n 0, 1) := by decide +kernel
theorem dX8_text_70 : decode cX8_text 70 = .ok (.aload_n 2, 1) := by decide +kernel
theorem dX8_text_71 : decode cX8_text 71 = .ok (.getfield 80, 3) := by decide +kernel
theorem dX8_text_74 : decode cX8_text 74 = .ok (.putfield 50, 3) := by decide +kernel
theorem dX8_text_77 : decode cX8_text 77 = .ok (.iconst (-1), 1) := by decide +kernel
theorem dX8_text_78 : decode cX8_text 78 = .ok (.ireturn, 1) := by decide +kernel
theorem dX8_text_79 : decode cX8_text 79 = .ok (.aload_n 0, 1) := by decide +kernel
theorem dX8_text_80 : decode cX8_text 80 = .ok (.getfield 43, 3) := by decide +kernel
theorem dX8_text_83 : decode cX8_text 83 = .ok (.astore 4, 2) := by decide +kernel
theorem dX8_text_85 : decode cX8_text 85 = .ok (.aload_n 0, 1) := by decide +kernel
theorem dX8_text_86 : decode cX8_text 86 = .ok (.aload_n 0, 1) := by decide +kernel
theorem dX8_text_87 : decode cX8_text 87 = .ok (.getfield 47, 3) := by decide +kernel
theorem dX8_text_90 : decode cX8_text 90 = .ok (.putfield 43, 3) := by decide +kernel
theorem dX8_text_93 : decode cX8_text 93 = .ok (.aload_n 0, 1) := by decide +kernel
theorem dX8_text_94 : decode cX8_text 94 = .ok (.aload 4, 2) := by decide +kernel
theorem dX8_text_96 : decode cX8_text 96 = .ok (.putfield 47, 3) := by decide +kernel
theorem dX8_text_99 : decode cX8_text 99 = .ok (.aload_n 0, 1) := by decide +kernel
theorem dX8_text_100 : decode cX8_text 100 = .ok (.getfield 19, 3) := by decide +kernel
theorem dX8_text_103 : decode cX8_text 103 = .ok (.iconst 0, 1) := by decide +kernel
theorem dX8_text_104 : decode cX8_text 104 = .ok (.putfield 83, 3) := by decide +kernel
theorem dX8_text_107 : decode cX8_text 107 = .ok (.aload_n 0, 1) := by decide +kernel
theorem dX8_text_108 : decode cX8_text 108 = .ok (.aload_n 0, 1) := by decide +kernel
theorem dX8_text_109 : decode cX8_text 109 = .ok (.getfield 43, 3) := by decide +kernel
theorem dX8_text_112 : decode cX8_text 112 = .ok (.getfield 87, 3) := by decide +kernel
theorem dX8_text_115 : decode cX8_text 115 = .ok (.getfield 91, 3) := by decide +kernel
theorem dX8_text_118 : decode cX8_text 118 = .ok (.invokevirtual 96, 3) := by decide +kernel
theorem dX8_text_121 : decode cX8_text 121 = .ok (.ireturn, 1) := by decide +kernel
theorem dX8_fault_0 : decode cX8_fault 0 = .ok (.aload_n 0, 1) := by decide +kernel
theorem dX8_fault_1 : decode cX8_fault 1 = .ok (.getfield 77, 3) := by decide +kernel
theorem dX8_fault_4 : decode cX8_fault 4 = .ok (.ireturn, 1) := by decide +kernel
theorem dX8_where_0 : decode cX8_where 0 = .ok (.aload_n 0, 1) := by decide +kernel
theorem dX8_where_1 : decode cX8_where 1 = .ok (.getfield 50, 3) := by decide +kernel
theorem dX8_where_4 : decode cX8_where 4 = .ok (.ireturn, 1) := by decide +kernel
theorem dX8_about_0 : decode cX8_about 0 = .ok (.iload_n 1, 1) := by decide +kernel
theorem dX8_about_1 : decode cX8_about 1 = .ok (.tableswitch 162 0 7 #[47, 62, 77, 89, 101, 116, 128, 143], 47) := by decide +kernel
theorem dX8_about_48 : decode cX8_about 48 = .ok (.aload_n 0, 1) := by decide +kernel
theorem dX8_about_49 : decode cX8_about 49 = .ok (.aload_n 0, 1) := by decide +kernel
theorem dX8_about_50 : decode cX8_about 50 = .ok (.getfield 43, 3) := by decide +kernel
theorem dX8_about_53 : decode cX8_about 53 = .ok (.getfield 87, 3) := by decide +kernel
theorem dX8_about_56 : decode cX8_about 56 = .ok (.getfield 99, 3) := by decide +kernel
theorem dX8_about_59 : decode cX8_about 59 = .ok (.invokevirtual 96, 3) := by decide +kernel
theorem dX8_about_62 : decode cX8_about 62 = .ok (.ireturn, 1) := by decide +kernel
theorem dX8_about_63 : decode cX8_about 63 = .ok (.aload_n 0, 1) := by decide +kernel
theorem dX8_about_64 : decode cX8_about 64 = .ok (.aload_n 0, 1) := by decide +kernel
theorem dX8_about_65 : decode cX8_about 65 = .ok (.getfield 43, 3) := by decide +kernel
theorem dX8_about_68 : decode cX8_about 68 = .ok (.getfield 87, 3) := by decide +kernel
theorem dX8_about_71 : decode cX8_about 71 = .ok (.getfield 91, 3) := by decide +kernel
theorem dX8_about_74 : decode cX8_about 74 = .ok (.invokevirtual 96, 3) := by decide +kernel
theorem dX8_about_77 : decode cX8_about 77 = .ok (.ireturn, 1) := by decide +kernel
theorem dX8_about_78 : decode cX8_about 78 = .ok (.aload_n 0, 1) := by decide +kernel
theorem dX8_about_79 : decode cX8_about 79 = .ok (.aload_n 0, 1) := by decide +kernel
theorem dX8_about_80 : decode cX8_about 80 = .ok (.getfield 43, 3) := by decide +kernel
theorem dX8_about_83 : decode cX8_about 83 = .ok (.getfield 102, 3) := by decide +kernel
theorem dX8_about_86 : decode cX8_about 86 = .ok (.invokevirtual 96, 3) := by decide +kernel
theorem dX8_about_89 : decode cX8_about 89 = .ok (.ireturn, 1) := by decide +kernel
theorem dX8_about_90 : decode cX8_about 90 = .ok (.aload_n 0, 1) := by decide +kernel
theorem dX8_about_91 : decode cX8_about 91 = .ok (.aload_n 0, 1) := by decide +kernel
theorem dX8_about_92 : decode cX8_about 92 = .ok (.getfield 43, 3) := by decide +kernel
theorem dX8_about_95 : decode cX8_about 95 = .ok (.getfield 105, 3) := by decide +kernel
theorem dX8_about_98 : decode cX8_about 98 = .ok (.invokevirtual 96, 3) := by decide +kernel
theorem dX8_about_101 : decode cX8_about 101 = .ok (.ireturn, 1) := by decide +kernel
theorem dX8_about_102 : decode cX8_about 102 = .ok (.aload_n 0, 1) := by decide +kernel
theorem dX8_about_103 : decode cX8_about 103 = .ok (.aload_n 0, 1) := by decide +kernel
theorem dX8_about_104 : decode cX8_about 104 = .ok (.getfield 43, 3) := by decide +kernel
theorem dX8_about_107 : decode cX8_about 107 = .ok (.getfield 108, 3) := by decide +kernel
theorem dX8_about_110 : decode cX8_about 110 = .ok (.getfield 111, 3) := by decide +kernel
theorem dX8_about_113 : decode cX8_about 113 = .ok (.invokevirtual 96, 3) := by decide +kernel
theorem dX8_about_116 : decode cX8_about 116 = .ok (.ireturn, 1) := by decide +kernel
theorem dX8_about_117 : decode cX8_about 117 = .ok (.aload_n 0, 1) := by decide +kernel
theorem dX8_about_118 : decode cX8_about 118 = .ok (.aload_n 0, 1) := by decide +kernel
theorem dX8_about_119 : decode cX8_about 119 = .ok (.getfield 43, 3) := by decide +kernel
theorem dX8_about_122 : decode cX8_about 122 = .ok (.getfield 113, 3) := by decide +kernel
theorem dX8_about_125 : decode cX8_about 125 = .ok (.invokevirtual 96, 3) := by decide +kernel
theorem dX8_about_128 : decode cX8_about 128 = .ok (.ireturn, 1) := by decide +kernel
theorem dX8_about_129 : decode cX8_about 129 = .ok (.aload_n 0, 1) := by decide +kernel
theorem dX8_about_130 : decode cX8_about 130 = .ok (.aload_n 0, 1) := by decide +kernel
theorem dX8_about_131 : decode cX8_about 131 = .ok (.getfield 43, 3) := by decide +kernel
theorem dX8_about_134 : decode cX8_about 134 = .ok (.getfield 116, 3) := by decide +kernel
theorem dX8_about_137 : decode cX8_about 137 = .ok (.getfield 120, 3) := by decide +kernel
theorem dX8_about_140 : decode cX8_about 140 = .ok (.invokevirtual 96, 3) := by decide +kernel
theorem dX8_about_143 : decode cX8_about 143 = .ok (.ireturn, 1) := by decide +kernel
theorem dX8_about_144 : decode cX8_about 144 = .ok (.aload_n 0, 1) := by decide +kernel
theorem dX8_about_145 : decode cX8_about 145 = .ok (.aload_n 0, 1) := by decide +kernel
theorem dX8_about_146 : decode cX8_about 146 = .ok (.getfield 43, 3) := by decide +kernel
theorem dX8_about_149 : decode cX8_about 149 = .ok (.aload_n 0, 1) := by decide +kernel
theorem dX8_about_150 : decode cX8_about 150 = .ok (.getfield 43, 3) := by decide +kernel
theorem dX8_about_153 : decode cX8_about 153 = .ok (.getfield 108, 3) := by decide +kernel
theorem dX8_about_156 : decode cX8_about 156 = .ok (.invokevirtual 125, 3) := by decide +kernel
theorem dX8_about_159 : decode cX8_about 159 = .ok (.invokevirtual 96, 3) := by decide +kernel
theorem dX8_about_162 : decode cX8_about 162 = .ok (.ireturn, 1) := by decide +kernel
theorem dX8_about_163 : decode cX8_about 163 = .ok (.aload_n 0, 1) := by decide +kernel
theorem dX8_about_164 : decode cX8_about 164 = .ok (.iconst 1, 1) := by decide +kernel
theorem dX8_about_165 : decode cX8_about 165 = .ok (.invokevirtual 61, 3) := by decide +kernel
theorem dX8_about_168 : decode cX8_about 168 = .ok (.ireturn, 1) := by decide +kernel
theorem dX8_function_0 : decode cX8_function 0 = .ok (.iload_n 1, 1) := by decide +kernel
theorem dX8_function_1 : decode cX8_function 1 = .ok (.ifCond .lt 17, 3) := by decide +kernel
theorem dX8_function_4 : decode cX8_function 4 = .ok (.iload_n 1, 1) := by decide +kernel
theorem dX8_function_5 : decode cX8_function 5 = .ok (.aload_n 0, 1) := by decide +kernel
theorem dX8_function_6 : decode cX8_function 6 = .ok (.getfield 43, 3) := by decide +kernel
theorem dX8_function_9 : decode cX8_function 9 = .ok (.getfield 87, 3) := by decide +kernel
theorem dX8_function_12 : decode cX8_function 12 = .ok (.getfield 99, 3) := by decide +kernel
theorem dX8_function_15 : decode cX8_function 15 = .ok (.if_icmp .lt 9, 3) := by decide +kernel
theorem dX8_function_18 : decode cX8_function 18 = .ok (.aload_n 0, 1) := by decide +kernel
theorem dX8_function_19 : decode cX8_function 19 = .ok (.iconst 1, 1) := by decide +kernel
theorem dX8_function_20 : decode cX8_function 20 = .ok (.invokevirtual 61, 3) := by decide +kernel
theorem dX8_function_23 : decode cX8_function 23 = .ok (.ireturn, 1) := by decide +kernel
theorem dX8_function_24 : decode cX8_function 24 = .ok (.iload_n 2, 1) := by decide +kernel
theorem dX8_function_25 : decode cX8_function 25 = .ok (.tableswitch 83 0 2 #[27, 44, 60], 27) := by decide +kernel
theorem dX8_function_52 : decode cX8_function 52 = .ok (.aload_n 0, 1) := by decide +kernel
theorem dX8_function_53 : decode cX8_function 53 = .ok (.aload_n 0, 1) := by decide +kernel
theorem dX8_function_54 : decode cX8_function 54 = .ok (.getfield 43, 3) := by decide +kernel
theorem dX8_function_57 : decode cX8_function 57 = .ok (.getfield 87, 3) := by decide +kernel
theorem dX8_function_60 : decode cX8_function 60 = .ok (.getfield 129, 3) := by decide +kernel
theorem dX8_function_63 : decode cX8_function 63 = .ok (.iload_n 1, 1) := by decide +kernel
theorem dX8_function_64 : decode cX8_function 64 = .ok (.iaload, 1) := by decide +kernel
theorem dX8_function_65 : decode cX8_function 65 = .ok (.invokevirtual 96, 3) := by decide +kernel
theorem dX8_function_68 : decode cX8_function 68 = .ok (.ireturn, 1) := by decide +kernel
theorem dX8_function_69 : decode cX8_function 69 = .ok (.aload_n 0, 1) := by decide +kernel
theorem dX8_function_70 : decode cX8_function 70 = .ok (.aload_n 0, 1) := by decide +kernel
theorem dX8_function_71 : decode cX8_function 71 = .ok (.getfield 43, 3) := by decide +kernel
theorem dX8_function_74 : decode cX8_function 74 = .ok (.getfield 87, 3) := by decide +kernel
theorem dX8_function_77 : decode cX8_function 77 = .ok (.iload_n 1, 1) := by decide +kernel
theorem dX8_function_78 : decode cX8_function 78 = .ok (.invokevirtual 133, 3) := by decide +kernel
theorem dX8_function_81 : decode cX8_function 81 = .ok (.invokevirtual 96, 3) := by decide +kernel
theorem dX8_function_84 : decode cX8_function 84 = .ok (.ireturn, 1) := by decide +kernel
theorem dX8_function_85 : decode cX8_function 85 = .ok (.aload_n 0, 1) := by decide +kernel
theorem dX8_function_86 : decode cX8_function 86 = .ok (.aload_n 0, 1) := by decide +kernel
theorem dX8_function_87 : decode cX8_function 87 = .ok (.getfield 43, 3) := by decide +kernel
theorem dX8_function_90 : decode cX8_function 90 = .ok (.getfield 87, 3) := by decide +kernel
theorem dX8_function_93 : decode cX8_function 93 = .ok (.iload_n 1, 1) := by decide +kernel
theorem dX8_function_94 : decode cX8_function 94 = .ok (.aload_n 0, 1) := by decide +kernel
theorem dX8_function_95 : decode cX8_function 95 = .ok (.getfield 43, 3) := by decide +kernel
theorem dX8_function_98 : decode cX8_function 98 = .ok (.getfield 108, 3) := by decide +kernel
theorem dX8_function_101 : decode cX8_function 101 = .ok (.invokevirtual 136, 3) := by decide +kernel
theorem dX8_function_104 : decode cX8_function 104 = .ok (.invokevirtual 96, 3) := by decide +kernel
theorem dX8_function_107 : decode cX8_function 107 = .ok (.ireturn, 1) := by decide +kernel
theorem dX8_function_108 : decode cX8_function 108 = .ok (.aload_n 0, 1) := by decide +kernel
theorem dX8_function_109 : decode cX8_function 109 = .ok (.iconst 1, 1) := by decide +kernel
theorem dX8_function_110 : decode cX8_function 110 = .ok (.invokevirtual 61, 3) := by decide +kernel
theorem dX8_function_113 : decode cX8_function 113 = .ok (.ireturn, 1) := by decide +kernel
theorem dX8_term_0 : decode cX8_term 0 = .ok (.aload_n 0, 1) := by decide +kernel
theorem dX8_term_1 : decode cX8_term 1 = .ok (.iload_n 1, 1) := by decide +kernel
theorem dX8_term_2 : decode cX8_term 2 = .ok (.invokevirtual 140, 3) := by decide +kernel
theorem dX8_term_5 : decode cX8_term 5 = .ok (.ifCond .ne 9, 3) := by decide +kernel
theorem dX8_term_8 : decode cX8_term 8 = .ok (.aload_n 0, 1) := by decide +kernel
theorem dX8_term_9 : decode cX8_term 9 = .ok (.iconst 1, 1) := by decide +kernel
theorem dX8_term_10 : decode cX8_term 10 = .ok (.invokevirtual 61, 3) := by decide +kernel
theorem dX8_term_13 : decode cX8_term 13 = .ok (.ireturn, 1) := by decide +kernel
theorem dX8_term_14 : decode cX8_term 14 = .ok (.iload_n 2, 1) := by decide +kernel
theorem dX8_term_15 : decode cX8_term 15 = .ok (.tableswitch 164 0 5 #[37, 54, 71, 87, 110, 127], 37) := by decide +kernel
theorem dX8_term_52 : decode cX8_term 52 = .ok (.aload_n 0, 1) := by decide +kernel
theorem dX8_term_53 : decode cX8_term 53 = .ok (.aload_n 0, 1) := by decide +kernel
theorem dX8_term_54 : decode cX8_term 54 = .ok (.getfield 43, 3) := by decide +kernel
theorem dX8_term_57 : decode cX8_term 57 = .ok (.getfield 87, 3) := by decide +kernel
theorem dX8_term_60 : decode cX8_term 60 = .ok (.getfield 144, 3) := by decide +kernel
theorem dX8_term_63 : decode cX8_term 63 = .ok (.iload_n 1, 1) := by decide +kernel
theorem dX8_term_64 : decode cX8_term 64 = .ok (.iaload, 1) := by decide +kernel
theorem dX8_term_65 : decode cX8_term 65 = .ok (.invokevirtual 96, 3) := by decide +kernel
theorem dX8_term_68 : decode cX8_term 68 = .ok (.ireturn, 1) := by decide +kernel
theorem dX8_term_69 : decode cX8_term 69 = .ok (.aload_n 0, 1) := by decide +kernel
theorem dX8_term_70 : decode cX8_term 70 = .ok (.aload_n 0, 1) := by decide +kernel
theorem dX8_term_71 : decode cX8_term 71 = .ok (.getfield 43, 3) := by decide +kernel
theorem dX8_term_74 : decode cX8_term 74 = .ok (.getfield 108, 3) := by decide +kernel
theorem dX8_term_77 : decode cX8_term 77 = .ok (.getfield 147, 3) := by decide +kernel
theorem dX8_term_80 : decode cX8_term 80 = .ok (.iload_n 1, 1) := by decide +kernel
theorem dX8_term_81 : decode cX8_term 81 = .ok (.iaload, 1) := by decide +kernel
theorem dX8_term_82 : decode cX8_term 82 = .ok (.invokevirtual 96, 3) := by decide +kernel
theorem dX8_term_85 : decode cX8_term 85 = .ok (.ireturn, 1) := by decide +kernel
theorem dX8_term_86 : decode cX8_term 86 = .ok (.aload_n 0, 1) := by decide +kernel
theorem dX8_term_87 : decode cX8_term 87 = .ok (.aload_n 0, 1) := by decide +kernel
theorem dX8_term_88 : decode cX8_term 88 = .ok (.getfield 43, 3) := by decide +kernel
theorem dX8_term_91 : decode cX8_term 91 = .ok (.getfield 108, 3) := by decide +kernel
theorem dX8_term_94 : decode cX8_term 94 = .ok (.iload_n 1, 1) := by decide +kernel
theorem dX8_term_95 : decode cX8_term 95 = .ok (.invokevirtual 150, 3) := by decide +kernel
theorem dX8_term_98 : decode cX8_term 98 = .ok (.invokevirtual 96, 3) := by decide +kernel
theorem dX8_term_101 : decode cX8_term 101 = .ok (.ireturn, 1) := by decide +kernel
theorem dX8_term_102 : decode cX8_term 102 = .ok (.aload_n 0, 1) := by decide +kernel
theorem dX8_term_103 : decode cX8_term 103 = .ok (.aload_n 0, 1) := by decide +kernel
theorem dX8_term_104 : decode cX8_term 104 = .ok (.getfield 43, 3) := by decide +kernel
theorem dX8_term_107 : decode cX8_term 107 = .ok (.getfield 87, 3) := by decide +kernel
theorem dX8_term_110 : decode cX8_term 110 = .ok (.iload_n 1, 1) := by decide +kernel
theorem dX8_term_111 : decode cX8_term 111 = .ok (.aload_n 0, 1) := by decide +kernel
theorem dX8_term_112 : decode cX8_term 112 = .ok (.getfield 43, 3) := by decide +kernel
theorem dX8_term_115 : decode cX8_term 115 = .ok (.getfield 108, 3) := by decide +kernel
theorem dX8_term_118 : decode cX8_term 118 = .ok (.invokevirtual 153, 3) := by decide +kernel
theorem dX8_term_121 : decode cX8_term 121 = .ok (.invokevirtual 96, 3) := by decide +kernel
theorem dX8_term_124 : decode cX8_term 124 = .ok (.ireturn, 1) := by decide +kernel
theorem dX8_term_125 : decode cX8_term 125 = .ok (.aload_n 0, 1) := by decide +kernel
theorem dX8_term_126 : decode cX8_term 126 = .ok (.aload_n 0, 1) := by decide +kernel
theorem dX8_term_127 : decode cX8_term 127 = .ok (.getfield 43, 3) := by decide +kernel
theorem dX8_term_130 : decode cX8_term 130 = .ok (.getfield 87, 3) := by decide +kernel
theorem dX8_term_133 : decode cX8_term 133 = .ok (.getfield 156, 3) := by decide +kernel
theorem dX8_term_136 : decode cX8_term 136 = .ok (.iload_n 1, 1) := by decide +kernel
theorem dX8_term_137 : decode cX8_term 137 = .ok (.iaload, 1) := by decide +kernel
theorem dX8_term_138 : decode cX8_term 138 = .ok (.invokevirtual 96, 3) := by decide +kernel
theorem dX8_term_141 : decode cX8_term 141 = .ok (.ireturn, 1) := by decide +kernel
theorem dX8_term_142 : decode cX8_term 142 = .ok (.aload_n 0, 1) := by decide +kernel
theorem dX8_term_143 : decode cX8_term 143 = .ok (.aload_n 0, 1) := by decide +kernel
theorem dX8_term_144 : decode cX8_term 144 = .ok (.getfield 43, 3) := by decide +kernel
theorem dX8_term_147 : decode cX8_term 147 = .ok (.getfield 116, 3) := by decide +kernel
theorem dX8_term_150 : decode cX8_term 150 = .ok (.getfield 159, 3) := by decide +kernel
theorem dX8_term_153 : decode cX8_term 153 = .ok (.iload_n 1, 1) := by decide +kernel
theorem dX8_term_154 : decode cX8_term 154 = .ok (.iaload, 1) := by decide +kernel
theorem dX8_term_155 : decode cX8_term 155 = .ok (.ifCond .ge 8, 3) := by decide +kernel
theorem dX8_term_158 : decode cX8_term 158 = .ok (.bipush (-2), 2) := by decide +kernel
theorem dX8_term_160 : decode cX8_term 160 = .ok (.goto 15, 3) := by decide +kernel
theorem dX8_term_163 : decode cX8_term 163 = .ok (.aload_n 0, 1) := by decide +kernel
theorem dX8_term_164 : decode cX8_term 164 = .ok (.getfield 43, 3) := by decide +kernel
theorem dX8_term_167 : decode cX8_term 167 = .ok (.getfield 116, 3) := by decide +kernel
theorem dX8_term_170 : decode cX8_term 170 = .ok (.getfield 159, 3) := by decide +kernel
theorem dX8_term_173 : decode cX8_term 173 = .ok (.iload_n 1, 1) := by decide +kernel
theorem dX8_term_174 : decode cX8_term 174 = .ok (.iaload, 1) := by decide +kernel
theorem dX8_term_175 : decode cX8_term 175 = .ok (.invokevirtual 96, 3) := by decide +kernel
theorem dX8_term_178 : decode cX8_term 178 = .ok (.ireturn, 1) := by decide +kernel
theorem dX8_term_179 : decode cX8_term 179 = .ok (.aload_n 0, 1) := by decide +kernel
theorem dX8_term_180 : decode cX8_term 180 = .ok (.iconst 1, 1) := by decide +kernel
theorem dX8_term_181 : decode cX8_term 181 = .ok (.invokevirtual 61, 3) := by decide +kernel
theorem dX8_term_184 : decode cX8_term 184 = .ok (.ireturn, 1) := by decide +kernel
theorem dX8_partOf_0 : decode cX8_partOf 0 = .ok (.aload_n 0, 1) := by decide +kernel
theorem dX8_partOf_1 : decode cX8_partOf 1 = .ok (.iload_n 1, 1) := by decide +kernel
theorem dX8_partOf_2 : decode cX8_partOf 2 = .ok (.invokevirtual 140, 3) := by decide +kernel
theorem dX8_partOf_5 : decode cX8_partOf 5 = .ok (.ifCond .eq 7, 3) := by decide +kernel
theorem dX8_partOf_8 : decode cX8_partOf 8 = .ok (.iload_n 2, 1) := by decide +kernel
theorem dX8_partOf_9 : decode cX8_partOf 9 = .ok (.ifCond .ge 9, 3) := by decide +kernel
theorem dX8_partOf_12 : decode cX8_partOf 12 = .ok (.aload_n 0, 1) := by decide +kernel
theorem dX8_partOf_13 : decode cX8_partOf 13 = .ok (.iconst 1, 1) := by decide +kernel
theorem dX8_partOf_14 : decode cX8_partOf 14 = .ok (.invokevirtual 61, 3) := by decide +kernel
theorem dX8_partOf_17 : decode cX8_partOf 17 = .ok (.ireturn, 1) := by decide +kernel
theorem dX8_partOf_18 : decode cX8_partOf 18 = .ok (.aload_n 0, 1) := by decide +kernel
theorem dX8_partOf_19 : decode cX8_partOf 19 = .ok (.iload_n 2, 1) := by decide +kernel
theorem dX8_partOf_20 : decode cX8_partOf 20 = .ok (.aload_n 0, 1) := by decide +kernel
theorem dX8_partOf_21 : decode cX8_partOf 21 = .ok (.getfield 43, 3) := by decide +kernel
theorem dX8_partOf_24 : decode cX8_partOf 24 = .ok (.getfield 87, 3) := by decide +kernel
theorem dX8_partOf_27 : decode cX8_partOf 27 = .ok (.iload_n 1, 1) := by decide +kernel
theorem dX8_partOf_28 : decode cX8_partOf 28 = .ok (.invokevirtual 162, 3) := by decide +kernel
theorem dX8_partOf_31 : decode cX8_partOf 31 = .ok (.if_icmp .ge 18, 3) := by decide +kernel
theorem dX8_partOf_34 : decode cX8_partOf 34 = .ok (.aload_n 0, 1) := by decide +kernel
theorem dX8_partOf_35 : decode cX8_partOf 35 = .ok (.getfield 43, 3) := by decide +kernel
theorem dX8_partOf_38 : decode cX8_partOf 38 = .ok (.getfield 87, 3) := by decide +kernel
theorem dX8_partOf_41 : decode cX8_partOf 41 = .ok (.iload_n 1, 1) := by decide +kernel
theorem dX8_partOf_42 : decode cX8_partOf 42 = .ok (.iload_n 2, 1) := by decide +kernel
theorem dX8_partOf_43 : decode cX8_partOf 43 = .ok (.invokevirtual 165, 3) := by decide +kernel
theorem dX8_partOf_46 : decode cX8_partOf 46 = .ok (.goto 5, 3) := by decide +kernel
theorem dX8_partOf_49 : decode cX8_partOf 49 = .ok (.bipush (-2), 2) := by decide +kernel
theorem dX8_partOf_51 : decode cX8_partOf 51 = .ok (.invokevirtual 96, 3) := by decide +kernel
theorem dX8_partOf_54 : decode cX8_partOf 54 = .ok (.ireturn, 1) := by decide +kernel
theorem dX8_sameOf_0 : decode cX8_sameOf 0 = .ok (.aload_n 0, 1) := by decide +kernel
theorem dX8_sameOf_1 : decode cX8_sameOf 1 = .ok (.iload_n 1, 1) := by decide +kernel
theorem dX8_sameOf_2 : decode cX8_sameOf 2 = .ok (.invokevirtual 169, 3) := by decide +kernel
theorem dX8_sameOf_5 : decode cX8_sameOf 5 = .ok (.ifCond .ne 9, 3) := by decide +kernel
theorem dX8_sameOf_8 : decode cX8_sameOf 8 = .ok (.aload_n 0, 1) := by decide +kernel
theorem dX8_sameOf_9 : decode cX8_sameOf 9 = .ok (.iconst 1, 1) := by decide +kernel
theorem dX8_sameOf_10 : decode cX8_sameOf 10 = .ok (.invokevirtual 61, 3) := by decide +kernel
theorem dX8_sameOf_13 : decode cX8_sameOf 13 = .ok (.ireturn, 1) := by decide +kernel
theorem dX8_sameOf_14 : decode cX8_sameOf 14 = .ok (.aload_n 0, 1) := by decide +kernel
theorem dX8_sameOf_15 : decode cX8_sameOf 15 = .ok (.getfield 43, 3) := by decide +kernel
theorem dX8_sameOf_18 : decode cX8_sameOf 18 = .ok (.getfield 172, 3) := by decide +kernel
theorem dX8_sameOf_21 : decode cX8_sameOf 21 = .ok (.iload_n 1, 1) := by decide +kernel
theorem dX8_sameOf_22 : decode cX8_sameOf 22 = .ok (.iaload, 1) := by decide +kernel
theorem dX8_sameOf_23 : decode cX8_sameOf 23 = .ok (.istore_n 3, 1) := by decide +kernel
theorem dX8_sameOf_24 : decode cX8_sameOf 24 = .ok (.aload_n 0, 1) := by decide +kernel
theorem dX8_sameOf_25 : decode cX8_sameOf 25 = .ok (.getfield 43, 3) := by decide +kernel
theorem dX8_sameOf_28 : decode cX8_sameOf 28 = .ok (.getfield 175, 3) := by decide +kernel
theorem dX8_sameOf_31 : decode cX8_sameOf 31 = .ok (.iload_n 1, 1) := by decide +kernel
theorem dX8_sameOf_32 : decode cX8_sameOf 32 = .ok (.iaload, 1) := by decide +kernel
theorem dX8_sameOf_33 : decode cX8_sameOf 33 = .ok (.istore 4, 2) := by decide +kernel
theorem dX8_sameOf_35 : decode cX8_sameOf 35 = .ok (.iload_n 2, 1) := by decide +kernel
theorem dX8_sameOf_36 : decode cX8_sameOf 36 = .ok (.tableswitch 70 0 2 #[28, 34, 41], 28) := by decide +kernel
theorem dX8_sameOf_64 : decode cX8_sameOf 64 = .ok (.aload_n 0, 1) := by decide +kernel
theorem dX8_sameOf_65 : decode cX8_sameOf 65 = .ok (.iload_n 3, 1) := by decide +kernel
theorem dX8_sameOf_66 : decode cX8_sameOf 66 = .ok (.invokevirtual 96, 3) := by decide +kernel
theorem dX8_sameOf_69 : decode cX8_sameOf 69 = .ok (.ireturn, 1) := by decide +kernel
theorem dX8_sameOf_70 : decode cX8_sameOf 70 = .ok (.aload_n 0, 1) := by decide +kernel
theorem dX8_sameOf_71 : decode cX8_sameOf 71 = .ok (.iload 4, 2) := by decide +kernel
theorem dX8_sameOf_73 : decode cX8_sameOf 73 = .ok (.invokevirtual 96, 3) := by decide +kernel
theorem dX8_sameOf_76 : decode cX8_sameOf 76 = .ok (.ireturn, 1) := by decide +kernel
theorem dX8_sameOf_77 : decode cX8_sameOf 77 = .ok (.aload_n 0, 1) := by decide +kernel
theorem dX8_sameOf_78 : decode cX8_sameOf 78 = .ok (.aload_n 0, 1) := by decide +kernel
theorem dX8_sameOf_79 : decode cX8_sameOf 79 = .ok (.aload_n 0, 1) := by decide +kernel
theorem dX8_sameOf_80 : decode cX8_sameOf 80 = .ok (.aload_n 0, 1) := by decide +kernel
theorem dX8_sameOf_81 : decode cX8_sameOf 81 = .ok (.getfield 43, 3) := by decide +kernel
theorem dX8_sameOf_84 : decode cX8_sameOf 84 = .ok (.invokevirtual 178, 3) := by decide +kernel
theorem dX8_sameOf_87 : decode cX8_sameOf 87 = .ok (.iconst 1, 1) := by decide +kernel
theorem dX8_sameOf_88 : decode cX8_sameOf 88 = .ok (.iload_n 1, 1) := by decide +kernel
theorem dX8_sameOf_89 : decode cX8_sameOf 89 = .ok (.ishl, 1) := by decide +kernel
theorem dX8_sameOf_90 : decode cX8_sameOf 90 = .ok (.iconst (-1), 1) := by decide +kernel
theorem dX8_sameOf_91 : decode cX8_sameOf 91 = .ok (.ixor, 1) := by decide +kernel
theorem dX8_sameOf_92 : decode cX8_sameOf 92 = .ok (.iand, 1) := by decide +kernel
theorem dX8_sameOf_93 : decode cX8_sameOf 93 = .ok (.iload_n 3, 1) := by decide +kernel
theorem dX8_sameOf_94 : decode cX8_sameOf 94 = .ok (.iload 4, 2) := by decide +kernel
theorem dX8_sameOf_96 : decode cX8_sameOf 96 = .ok (.invokevirtual 182, 3) := by decide +kernel
theorem dX8_sameOf_99 : decode cX8_sameOf 99 = .ok (.invokevirtual 186, 3) := by decide +kernel
theorem dX8_sameOf_102 : decode cX8_sameOf 102 = .ok (.invokevirtual 96, 3) := by decide +kernel
theorem dX8_sameOf_105 : decode cX8_sameOf 105 = .ok (.ireturn, 1) := by decide +kernel
theorem dX8_sameOf_106 : decode cX8_sameOf 106 = .ok (.aload_n 0, 1) := by decide +kernel
theorem dX8_sameOf_107 : decode cX8_sameOf 107 = .ok (.iconst 1, 1) := by decide +kernel
theorem dX8_sameOf_108 : decode cX8_sameOf 108 = .ok (.invokevirtual 61, 3) := by decide +kernel
theorem dX8_sameOf_111 : decode cX8_sameOf 111 = .ok (.ireturn, 1) := by decide +kernel
theorem dX8_diffOf_0 : decode cX8_diffOf 0 = .ok (.iload_n 1, 1) := by decide +kernel
theorem dX8_diffOf_1 : decode cX8_diffOf 1 = .ok (.ifCond .lt 14, 3) := by decide +kernel
theorem dX8_diffOf_4 : decode cX8_diffOf 4 = .ok (.iload_n 1, 1) := by decide +kernel
theorem dX8_diffOf_5 : decode cX8_diffOf 5 = .ok (.aload_n 0, 1) := by decide +kernel
theorem dX8_diffOf_6 : decode cX8_diffOf 6 = .ok (.getfield 43, 3) := by decide +kernel
theorem dX8_diffOf_9 : decode cX8_diffOf 9 = .ok (.getfield 105, 3) := by decide +kernel
theorem dX8_diffOf_12 : decode cX8_diffOf 12 = .ok (.if_icmp .lt 9, 3) := by decide +kernel
theorem dX8_diffOf_15 : decode cX8_diffOf 15 = .ok (.aload_n 0, 1) := by decide +kernel
theorem dX8_diffOf_16 : decode cX8_diffOf 16 = .ok (.iconst 1, 1) := by decide +kernel
theorem dX8_diffOf_17 : decode cX8_diffOf 17 = .ok (.invokevirtual 61, 3) := by decide +kernel
theorem dX8_diffOf_20 : decode cX8_diffOf 20 = .ok (.ireturn, 1) := by decide +kernel
theorem dX8_diffOf_21 : decode cX8_diffOf 21 = .ok (.iload_n 2, 1) := by decide +kernel
theorem dX8_diffOf_22 : decode cX8_diffOf 22 = .ok (.tableswitch 78 0 2 #[26, 40, 54], 26) := by decide +kernel
theorem dX8_diffOf_48 : decode cX8_diffOf 48 = .ok (.aload_n 0, 1) := by decide +kernel
theorem dX8_diffOf_49 : decode cX8_diffOf 49 = .ok (.aload_n 0, 1) := by decide +kernel
theorem dX8_diffOf_50 : decode cX8_diffOf 50 = .ok (.getfield 43, 3) := by decide +kernel
theorem dX8_diffOf_53 : decode cX8_diffOf 53 = .ok (.getfield 190, 3) := by decide +kernel
theorem dX8_diffOf_56 : decode cX8_diffOf 56 = .ok (.iload_n 1, 1) := by decide +kernel
theorem dX8_diffOf_57 : decode cX8_diffOf 57 = .ok (.iaload, 1) := by decide +kernel
theorem dX8_diffOf_58 : decode cX8_diffOf 58 = .ok (.invokevirtual 96, 3) := by decide +kernel
theorem dX8_diffOf_61 : decode cX8_diffOf 61 = .ok (.ireturn, 1) := by decide +kernel
theorem dX8_diffOf_62 : decode cX8_diffOf 62 = .ok (.aload_n 0, 1) := by decide +kernel
theorem dX8_diffOf_63 : decode cX8_diffOf 63 = .ok (.aload_n 0, 1) := by decide +kernel
theorem dX8_diffOf_64 : decode cX8_diffOf 64 = .ok (.getfield 43, 3) := by decide +kernel
theorem dX8_diffOf_67 : decode cX8_diffOf 67 = .ok (.getfield 193, 3) := by decide +kernel
theorem dX8_diffOf_70 : decode cX8_diffOf 70 = .ok (.iload_n 1, 1) := by decide +kernel
theorem dX8_diffOf_71 : decode cX8_diffOf 71 = .ok (.iaload, 1) := by decide +kernel
theorem dX8_diffOf_72 : decode cX8_diffOf 72 = .ok (.invokevirtual 96, 3) := by decide +kernel
theorem dX8_diffOf_75 : decode cX8_diffOf 75 = .ok (.ireturn, 1) := by decide +kernel
theorem dX8_diffOf_76 : decode cX8_diffOf 76 = .ok (.aload_n 0, 1) := by decide +kernel
theorem dX8_diffOf_77 : decode cX8_diffOf 77 = .ok (.aload_n 0, 1) := by decide +kernel
theorem dX8_diffOf_78 : decode cX8_diffOf 78 = .ok (.aload_n 0, 1) := by decide +kernel
theorem dX8_diffOf_79 : decode cX8_diffOf 79 = .ok (.getfield 43, 3) := by decide +kernel
theorem dX8_diffOf_82 : decode cX8_diffOf 82 = .ok (.iload_n 1, 1) := by decide +kernel
theorem dX8_diffOf_83 : decode cX8_diffOf 83 = .ok (.aload_n 0, 1) := by decide +kernel
theorem dX8_diffOf_84 : decode cX8_diffOf 84 = .ok (.getfield 43, 3) := by decide +kernel
theorem dX8_diffOf_87 : decode cX8_diffOf 87 = .ok (.getfield 108, 3) := by decide +kernel
theorem dX8_diffOf_90 : decode cX8_diffOf 90 = .ok (.invokevirtual 196, 3) := by decide +kernel
theorem dX8_diffOf_93 : decode cX8_diffOf 93 = .ok (.invokevirtual 186, 3) := by decide +kernel
theorem dX8_diffOf_96 : decode cX8_diffOf 96 = .ok (.invokevirtual 96, 3) := by decide +kernel
theorem dX8_diffOf_99 : decode cX8_diffOf 99 = .ok (.ireturn, 1) := by decide +kernel
theorem dX8_diffOf_100 : decode cX8_diffOf 100 = .ok (.aload_n 0, 1) := by decide +kernel
theorem dX8_diffOf_101 : decode cX8_diffOf 101 = .ok (.iconst 1, 1) := by decide +kernel
theorem dX8_diffOf_102 : decode cX8_diffOf 102 = .ok (.invokevirtual 61, 3) := by decide +kernel
theorem dX8_diffOf_105 : decode cX8_diffOf 105 = .ok (.ireturn, 1) := by decide +kernel
theorem dX8_joinOf_0 : decode cX8_joinOf 0 = .ok (.iload_n 1, 1) := by decide +kernel
theorem dX8_joinOf_1 : decode cX8_joinOf 1 = .ok (.ifCond .lt 17, 3) := by decide +kernel
theorem dX8_joinOf_4 : decode cX8_joinOf 4 = .ok (.iload_n 1, 1) := by decide +kernel
theorem dX8_joinOf_5 : decode cX8_joinOf 5 = .ok (.aload_n 0, 1) := by decide +kernel
theorem dX8_joinOf_6 : decode cX8_joinOf 6 = .ok (.getfield 43, 3) := by decide +kernel
theorem dX8_joinOf_9 : decode cX8_joinOf 9 = .ok (.getfield 116, 3) := by decide +kernel
theorem dX8_joinOf_12 : decode cX8_joinOf 12 = .ok (.getfield 120, 3) := by decide +kernel
theorem dX8_joinOf_15 : decode cX8_joinOf 15 = .ok (.if_icmp .lt 9, 3) := by decide +kernel
theorem dX8_joinOf_18 : decode cX8_joinOf 18 = .ok (.aload_n 0, 1) := by decide +kernel
theorem dX8_joinOf_19 : decode cX8_joinOf 19 = .ok (.iconst 1, 1) := by decide +kernel
theorem dX8_joinOf_20 : decode cX8_joinOf 20 = .ok (.invokevirtual 61, 3) := by decide +kernel
theorem dX8_joinOf_23 : decode cX8_joinOf 23 = .ok (.ireturn, 1) := by decide +kernel
theorem dX8_joinOf_24 : decode cX8_joinOf 24 = .ok (.iload_n 2, 1) := by decide +kernel
theorem dX8_joinOf_25 : decode cX8_joinOf 25 = .ok (.tableswitch 98 0 2 #[27, 44, 61], 27) := by decide +kernel
theorem dX8_joinOf_52 : decode cX8_joinOf 52 = .ok (.aload_n 0, 1) := by decide +kernel
theorem dX8_joinOf_53 : decode cX8_joinOf 53 = .ok (.aload_n 0, 1) := by decide +kernel
theorem dX8_joinOf_54 : decode cX8_joinOf 54 = .ok (.getfield 43, 3) := by decide +kernel
theorem dX8_joinOf_57 : decode cX8_joinOf 57 = .ok (.getfield 116, 3) := by decide +kernel
theorem dX8_joinOf_60 : decode cX8_joinOf 60 = .ok (.getfield 200, 3) := by decide +kernel
theorem dX8_joinOf_63 : decode cX8_joinOf 63 = .ok (.iload_n 1, 1) := by decide +kernel
theorem dX8_joinOf_64 : decode cX8_joinOf 64 = .ok (.iaload, 1) := by decide +kernel
theorem dX8_joinOf_65 : decode cX8_joinOf 65 = .ok (.invokevirtual 96, 3) := by decide +kernel
theorem dX8_joinOf_68 : decode cX8_joinOf 68 = .ok (.ireturn, 1) := by decide +kernel
theorem dX8_joinOf_69 : decode cX8_joinOf 69 = .ok (.aload_n 0, 1) := by decide +kernel
theorem dX8_joinOf_70 : decode cX8_joinOf 70 = .ok (.aload_n 0, 1) := by decide +kernel
theorem dX8_joinOf_71 : decode cX8_joinOf 71 = .ok (.getfield 43, 3) := by decide +kernel
theorem dX8_joinOf_74 : decode cX8_joinOf 74 = .ok (.getfield 116, 3) := by decide +kernel
theorem dX8_joinOf_77 : decode cX8_joinOf 77 = .ok (.getfield 203, 3) := by decide +kernel
theorem dX8_joinOf_80 : decode cX8_joinOf 80 = .ok (.iload_n 1, 1) := by decide +kernel
theorem dX8_joinOf_81 : decode cX8_joinOf 81 = .ok (.iaload, 1) := by decide +kernel
theorem dX8_joinOf_82 : decode cX8_joinOf 82 = .ok (.invokevirtual 96, 3) := by decide +kernel
theorem dX8_joinOf_85 : decode cX8_joinOf 85 = .ok (.ireturn, 1) := by decide +kernel
theorem dX8_joinOf_86 : decode cX8_joinOf 86 = .ok (.aload_n 0, 1) := by decide +kernel
theorem dX8_joinOf_87 : decode cX8_joinOf 87 = .ok (.aload_n 0, 1) := by decide +kernel
theorem dX8_joinOf_88 : decode cX8_joinOf 88 = .ok (.getfield 43, 3) := by decide +kernel
theorem dX8_joinOf_91 : decode cX8_joinOf 91 = .ok (.getfield 116, 3) := by decide +kernel
theorem dX8_joinOf_94 : decode cX8_joinOf 94 = .ok (.getfield 206, 3) := by decide +kernel
theorem dX8_joinOf_97 : decode cX8_joinOf 97 = .ok (.iload_n 1, 1) := by decide +kernel
theorem dX8_joinOf_98 : decode cX8_joinOf 98 = .ok (.iaload, 1) := by decide +kernel
theorem dX8_joinOf_99 : decode cX8_joinOf 99 = .ok (.ifCond .ge 8, 3) := by decide +kernel
theorem dX8_joinOf_102 : decode cX8_joinOf 102 = .ok (.bipush (-2), 2) := by decide +kernel
theorem dX8_joinOf_104 : decode cX8_joinOf 104 = .ok (.goto 15, 3) := by decide +kernel
theorem dX8_joinOf_107 : decode cX8_joinOf 107 = .ok (.aload_n 0, 1) := by decide +kernel
theorem dX8_joinOf_108 : decode cX8_joinOf 108 = .ok (.getfield 43, 3) := by decide +kernel
theorem dX8_joinOf_111 : decode cX8_joinOf 111 = .ok (.getfield 116, 3) := by decide +kernel
theorem dX8_joinOf_114 : decode cX8_joinOf 114 = .ok (.getfield 206, 3) := by decide +kernel
theorem dX8_joinOf_117 : decode cX8_joinOf 117 = .ok (.iload_n 1, 1) := by decide +kernel
theorem dX8_joinOf_118 : decode cX8_joinOf 118 = .ok (.iaload, 1) := by decide +kernel
theorem dX8_joinOf_119 : decode cX8_joinOf 119 = .ok (.invokevirtual 96, 3) := by decide +kernel
theorem dX8_joinOf_122 : decode cX8_joinOf 122 = .ok (.ireturn, 1) := by decide +kernel
theorem dX8_joinOf_123 : decode cX8_joinOf 123 = .ok (.aload_n 0, 1) := by decide +kernel
theorem dX8_joinOf_124 : decode cX8_joinOf 124 = .ok (.iconst 1, 1) := by decide +kernel
theorem dX8_joinOf_125 : decode cX8_joinOf 125 = .ok (.invokevirtual 61, 3) := by decide +kernel
theorem dX8_joinOf_128 : decode cX8_joinOf 128 = .ok (.ireturn, 1) := by decide +kernel
theorem dX8_height_0 : decode cX8_height 0 = .ok (.aload_n 0, 1) := by decide +kernel
theorem dX8_height_1 : decode cX8_height 1 = .ok (.iload_n 1, 1) := by decide +kernel
theorem dX8_height_2 : decode cX8_height 2 = .ok (.invokevirtual 140, 3) := by decide +kernel
theorem dX8_height_5 : decode cX8_height 5 = .ok (.ifCond .ne 9, 3) := by decide +kernel
theorem dX8_height_8 : decode cX8_height 8 = .ok (.aload_n 0, 1) := by decide +kernel
theorem dX8_height_9 : decode cX8_height 9 = .ok (.iconst 1, 1) := by decide +kernel
theorem dX8_height_10 : decode cX8_height 10 = .ok (.invokevirtual 61, 3) := by decide +kernel
theorem dX8_height_13 : decode cX8_height 13 = .ok (.ireturn, 1) := by decide +kernel
theorem dX8_height_14 : decode cX8_height 14 = .ok (.aload_n 0, 1) := by decide +kernel
theorem dX8_height_15 : decode cX8_height 15 = .ok (.aload_n 0, 1) := by decide +kernel
theorem dX8_height_16 : decode cX8_height 16 = .ok (.getfield 43, 3) := by decide +kernel
theorem dX8_height_19 : decode cX8_height 19 = .ok (.getfield 116, 3) := by decide +kernel
theorem dX8_height_22 : decode cX8_height 22 = .ok (.iload_n 1, 1) := by decide +kernel
theorem dX8_height_23 : decode cX8_height 23 = .ok (.invokevirtual 209, 3) := by decide +kernel
theorem dX8_height_26 : decode cX8_height 26 = .ok (.invokevirtual 96, 3) := by decide +kernel
theorem dX8_height_29 : decode cX8_height 29 = .ok (.ireturn, 1) := by decide +kernel
theorem dX8_hung_0 : decode cX8_hung 0 = .ok (.aload_n 0, 1) := by decide +kernel
theorem dX8_hung_1 : decode cX8_hung 1 = .ok (.iload_n 1, 1) := by decide +kernel
theorem dX8_hung_2 : decode cX8_hung 2 = .ok (.invokevirtual 140, 3) := by decide +kernel
theorem dX8_hung_5 : decode cX8_hung 5 = .ok (.ifCond .eq 7, 3) := by decide +kernel
theorem dX8_hung_8 : decode cX8_hung 8 = .ok (.iload_n 2, 1) := by decide +kernel
theorem dX8_hung_9 : decode cX8_hung 9 = .ok (.ifCond .ge 9, 3) := by decide +kernel
theorem dX8_hung_12 : decode cX8_hung 12 = .ok (.aload_n 0, 1) := by decide +kernel
theorem dX8_hung_13 : decode cX8_hung 13 = .ok (.iconst 1, 1) := by decide +kernel
theorem dX8_hung_14 : decode cX8_hung 14 = .ok (.invokevirtual 61, 3) := by decide +kernel
theorem dX8_hung_17 : decode cX8_hung 17 = .ok (.ireturn, 1) := by decide +kernel
theorem dX8_hung_18 : decode cX8_hung 18 = .ok (.aload_n 0, 1) := by decide +kernel
theorem dX8_hung_19 : decode cX8_hung 19 = .ok (.aload_n 0, 1) := by decide +kernel
theorem dX8_hung_20 : decode cX8_hung 20 = .ok (.getfield 43, 3) := by decide +kernel
theorem dX8_hung_23 : decode cX8_hung 23 = .ok (.getfield 116, 3) := by decide +kernel
theorem dX8_hung_26 : decode cX8_hung 26 = .ok (.iload_n 1, 1) := by decide +kernel
theorem dX8_hung_27 : decode cX8_hung 27 = .ok (.iload_n 2, 1) := by decide +kernel
theorem dX8_hung_28 : decode cX8_hung 28 = .ok (.invokevirtual 212, 3) := by decide +kernel
theorem dX8_hung_31 : decode cX8_hung 31 = .ok (.invokevirtual 96, 3) := by decide +kernel
theorem dX8_hung_34 : decode cX8_hung 34 = .ok (.ireturn, 1) := by decide +kernel
theorem dX8_equal_0 : decode cX8_equal 0 = .ok (.aload_n 0, 1) := by decide +kernel
theorem dX8_equal_1 : decode cX8_equal 1 = .ok (.iload_n 1, 1) := by decide +kernel
theorem dX8_equal_2 : decode cX8_equal 2 = .ok (.invokevirtual 140, 3) := by decide +kernel
theorem dX8_equal_5 : decode cX8_equal 5 = .ok (.ifCond .eq 11, 3) := by decide +kernel
theorem dX8_equal_8 : decode cX8_equal 8 = .ok (.aload_n 0, 1) := by decide +kernel
theorem dX8_equal_9 : decode cX8_equal 9 = .ok (.iload_n 2, 1) := by decide +kernel
theorem dX8_equal_10 : decode cX8_equal 10 = .ok (.invokevirtual 140, 3) := by decide +kernel
theorem dX8_equal_13 : decode cX8_equal 13 = .ok (.ifCond .ne 9, 3) := by decide +kernel
theorem dX8_equal_16 : decode cX8_equal 16 = .ok (.aload_n 0, 1) := by decide +kernel
theorem dX8_equal_17 : decode cX8_equal 17 = .ok (.iconst 1, 1) := by decide +kernel
theorem dX8_equal_18 : decode cX8_equal 18 = .ok (.invokevirtual 61, 3) := by decide +kernel
theorem dX8_equal_21 : decode cX8_equal 21 = .ok (.ireturn, 1) := by decide +kernel
theorem dX8_equal_22 : decode cX8_equal 22 = .ok (.aload_n 0, 1) := by decide +kernel
theorem dX8_equal_23 : decode cX8_equal 23 = .ok (.aload_n 0, 1) := by decide +kernel
theorem dX8_equal_24 : decode cX8_equal 24 = .ok (.aload_n 0, 1) := by decide +kernel
theorem dX8_equal_25 : decode cX8_equal 25 = .ok (.getfield 43, 3) := by decide +kernel
theorem dX8_equal_28 : decode cX8_equal 28 = .ok (.getfield 108, 3) := by decide +kernel
theorem dX8_equal_31 : decode cX8_equal 31 = .ok (.iload_n 1, 1) := by decide +kernel
theorem dX8_equal_32 : decode cX8_equal 32 = .ok (.iload_n 2, 1) := by decide +kernel
theorem dX8_equal_33 : decode cX8_equal 33 = .ok (.invokevirtual 215, 3) := by decide +kernel
theorem dX8_equal_36 : decode cX8_equal 36 = .ok (.invokevirtual 186, 3) := by decide +kernel
theorem dX8_equal_39 : decode cX8_equal 39 = .ok (.invokevirtual 96, 3) := by decide +kernel
theorem dX8_equal_42 : decode cX8_equal 42 = .ok (.ireturn, 1) := by decide +kernel
theorem dX8_apart_0 : decode cX8_apart 0 = .ok (.aload_n 0, 1) := by decide +kernel
theorem dX8_apart_1 : decode cX8_apart 1 = .ok (.iload_n 1, 1) := by decide +kernel
theorem dX8_apart_2 : decode cX8_apart 2 = .ok (.invokevirtual 140, 3) := by decide +kernel
theorem dX8_apart_5 : decode cX8_apart 5 = .ok (.ifCond .eq 11, 3) := by decide +kernel
theorem dX8_apart_8 : decode cX8_apart 8 = .ok (.aload_n 0, 1) := by decide +kernel
theorem dX8_apart_9 : decode cX8_apart 9 = .ok (.iload_n 2, 1) := by decide +kernel
theorem dX8_apart_10 : decode cX8_apart 10 = .ok (.invokevirtual 140, 3) := by decide +kernel
theorem dX8_apart_13 : decode cX8_apart 13 = .ok (.ifCond .ne 9, 3) := by decide +kernel
theorem dX8_apart_16 : decode cX8_apart 16 = .ok (.aload_n 0, 1) := by decide +kernel
theorem dX8_apart_17 : decode cX8_apart 17 = .ok (.iconst 1, 1) := by decide +kernel
theorem dX8_apart_18 : decode cX8_apart 18 = .ok (.invokevirtual 61, 3) := by decide +kernel
theorem dX8_apart_21 : decode cX8_apart 21 = .ok (.ireturn, 1) := by decide +kernel
theorem dX8_apart_22 : decode cX8_apart 22 = .ok (.aload_n 0, 1) := by decide +kernel
theorem dX8_apart_23 : decode cX8_apart 23 = .ok (.aload_n 0, 1) := by decide +kernel
theorem dX8_apart_24 : decode cX8_apart 24 = .ok (.aload_n 0, 1) := by decide +kernel
theorem dX8_apart_25 : decode cX8_apart 25 = .ok (.getfield 43, 3) := by decide +kernel
theorem dX8_apart_28 : decode cX8_apart 28 = .ok (.iload_n 1, 1) := by decide +kernel
theorem dX8_apart_29 : decode cX8_apart 29 = .ok (.iload_n 2, 1) := by decide +kernel
theorem dX8_apart_30 : decode cX8_apart 30 = .ok (.invokevirtual 219, 3) := by decide +kernel
theorem dX8_apart_33 : decode cX8_apart 33 = .ok (.invokevirtual 186, 3) := by decide +kernel
theorem dX8_apart_36 : decode cX8_apart 36 = .ok (.invokevirtual 96, 3) := by decide +kernel
theorem dX8_apart_39 : decode cX8_apart 39 = .ok (.ireturn, 1) := by decide +kernel
theorem dX8_reasons_0 : decode cX8_reasons 0 = .ok (.aload_n 0, 1) := by decide +kernel
theorem dX8_reasons_1 : decode cX8_reasons 1 = .ok (.iload_n 1, 1) := by decide +kernel
theorem dX8_reasons_2 : decode cX8_reasons 2 = .ok (.iload_n 2, 1) := by decide +kernel
theorem dX8_reasons_3 : decode cX8_reasons 3 = .ok (.invokevirtual 222, 3) := by decide +kernel
theorem dX8_reasons_6 : decode cX8_reasons 6 = .ok (.istore_n 3, 1) := by decide +kernel
theorem dX8_reasons_7 : decode cX8_reasons 7 = .ok (.iload_n 3, 1) := by decide +kernel
theorem dX8_reasons_8 : decode cX8_reasons 8 = .ok (.ifCond .eq 11, 3) := by decide +kernel
theorem dX8_reasons_11 : decode cX8_reasons 11 = .ok (.aload_n 0, 1) := by decide +kernel
theorem dX8_reasons_12 : decode cX8_reasons 12 = .ok (.iload_n 3, 1) := by decide +kernel
theorem dX8_reasons_13 : decode cX8_reasons 13 = .ok (.invokevirtual 61, 3) := by decide +kernel
theorem dX8_reasons_16 : decode cX8_reasons 16 = .ok (.goto 19, 3) := by decide +kernel
theorem dX8_reasons_19 : decode cX8_reasons 19 = .ok (.aload_n 0, 1) := by decide +kernel
theorem dX8_reasons_20 : decode cX8_reasons 20 = .ok (.aload_n 0, 1) := by decide +kernel
theorem dX8_reasons_21 : decode cX8_reasons 21 = .ok (.getfield 43, 3) := by decide +kernel
theorem dX8_reasons_24 : decode cX8_reasons 24 = .ok (.getfield 116, 3) := by decide +kernel
theorem dX8_reasons_27 : decode cX8_reasons 27 = .ok (.iload_n 1, 1) := by decide +kernel
theorem dX8_reasons_28 : decode cX8_reasons 28 = .ok (.iload_n 2, 1) := by decide +kernel
theorem dX8_reasons_29 : decode cX8_reasons 29 = .ok (.invokevirtual 225, 3) := by decide +kernel
theorem dX8_reasons_32 : decode cX8_reasons 32 = .ok (.invokevirtual 96, 3) := by decide +kernel
theorem dX8_reasons_35 : decode cX8_reasons 35 = .ok (.ireturn, 1) := by decide +kernel
theorem dX8_pruned_0 : decode cX8_pruned 0 = .ok (.aload_n 0, 1) := by decide +kernel
theorem dX8_pruned_1 : decode cX8_pruned 1 = .ok (.iload_n 1, 1) := by decide +kernel
theorem dX8_pruned_2 : decode cX8_pruned 2 = .ok (.iload_n 2, 1) := by decide +kernel
theorem dX8_pruned_3 : decode cX8_pruned 3 = .ok (.invokevirtual 222, 3) := by decide +kernel
theorem dX8_pruned_6 : decode cX8_pruned 6 = .ok (.istore_n 3, 1) := by decide +kernel
theorem dX8_pruned_7 : decode cX8_pruned 7 = .ok (.iload_n 3, 1) := by decide +kernel
theorem dX8_pruned_8 : decode cX8_pruned 8 = .ok (.ifCond .eq 9, 3) := by decide +kernel
theorem dX8_pruned_11 : decode cX8_pruned 11 = .ok (.aload_n 0, 1) := by decide +kernel
theorem dX8_pruned_12 : decode cX8_pruned 12 = .ok (.iload_n 3, 1) := by decide +kernel
theorem dX8_pruned_13 : decode cX8_pruned 13 = .ok (.invokevirtual 61, 3) := by decide +kernel
theorem dX8_pruned_16 : decode cX8_pruned 16 = .ok (.ireturn, 1) := by decide +kernel
theorem dX8_pruned_17 : decode cX8_pruned 17 = .ok (.aload_n 0, 1) := by decide +kernel
theorem dX8_pruned_18 : decode cX8_pruned 18 = .ok (.getfield 43, 3) := by decide +kernel
theorem dX8_pruned_21 : decode cX8_pruned 21 = .ok (.invokevirtual 178, 3) := by decide +kernel
theorem dX8_pruned_24 : decode cX8_pruned 24 = .ok (.istore 4, 2) := by decide +kernel
theorem dX8_pruned_26 : decode cX8_pruned 26 = .ok (.aload_n 0, 1) := by decide +kernel
theorem dX8_pruned_27 : decode cX8_pruned 27 = .ok (.getfield 43, 3) := by decide +kernel
theorem dX8_pruned_30 : decode cX8_pruned 30 = .ok (.getfield 102, 3) := by decide +kernel
theorem dX8_pruned_33 : decode cX8_pruned 33 = .ok (.iconst 1, 1) := by decide +kernel
theorem dX8_pruned_34 : decode cX8_pruned 34 = .ok (.isub, 1) := by decide +kernel
theorem dX8_pruned_35 : decode cX8_pruned 35 = .ok (.istore 5, 2) := by decide +kernel
theorem dX8_pruned_37 : decode cX8_pruned 37 = .ok (.iload 5, 2) := by decide +kernel
theorem dX8_pruned_39 : decode cX8_pruned 39 = .ok (.ifCond .lt 35, 3) := by decide +kernel
theorem dX8_pruned_42 : decode cX8_pruned 42 = .ok (.iload 4, 2) := by decide +kernel
theorem dX8_pruned_44 : decode cX8_pruned 44 = .ok (.iconst 1, 1) := by decide +kernel
theorem dX8_pruned_45 : decode cX8_pruned 45 = .ok (.iload 5, 2) := by decide +kernel
theorem dX8_pruned_47 : decode cX8_pruned 47 = .ok (.ishl, 1) := by decide +kernel
theorem dX8_pruned_48 : decode cX8_pruned 48 = .ok (.iconst (-1), 1) := by decide +kernel
theorem dX8_pruned_49 : decode cX8_pruned 49 = .ok (.ixor, 1) := by decide +kernel
theorem dX8_pruned_50 : decode cX8_pruned 50 = .ok (.iand, 1) := by decide +kernel
theorem dX8_pruned_51 : decode cX8_pruned 51 = .ok (.istore 6, 2) := by decide +kernel
theorem dX8_pruned_53 : decode cX8_pruned 53 = .ok (.aload_n 0, 1) := by decide +kernel
theorem dX8_pruned_54 : decode cX8_pruned 54 = .ok (.iload 6, 2) := by decide +kernel
theorem dX8_pruned_56 : decode cX8_pruned 56 = .ok (.iload_n 1, 1) := by decide +kernel
theorem dX8_pruned_57 : decode cX8_pruned 57 = .ok (.iload_n 2, 1) := by decide +kernel
theorem dX8_pruned_58 : decode cX8_pruned 58 = .ok (.invokevirtual 182, 3) := by decide +kernel
theorem dX8_pruned_61 : decode cX8_pruned 61 = .ok (.ifCond .eq 7, 3) := by decide +kernel
theorem dX8_pruned_64 : decode cX8_pruned 64 = .ok (.iload 6, 2) := by decide +kernel
theorem dX8_pruned_66 : decode cX8_pruned 66 = .ok (.istore 4, 2) := by decide +kernel
theorem dX8_pruned_68 : decode cX8_pruned 68 = .ok (.iinc 5 (-1), 3) := by decide +kernel
theorem dX8_pruned_71 : decode cX8_pruned 71 = .ok (.goto (-34), 3) := by decide +kernel
theorem dX8_pruned_74 : decode cX8_pruned 74 = .ok (.aload_n 0, 1) := by decide +kernel
theorem dX8_pruned_75 : decode cX8_pruned 75 = .ok (.iload 4, 2) := by decide +kernel
theorem dX8_pruned_77 : decode cX8_pruned 77 = .ok (.invokevirtual 96, 3) := by decide +kernel
theorem dX8_pruned_80 : decode cX8_pruned 80 = .ok (.ireturn, 1) := by decide +kernel
theorem dX8_fewest_0 : decode cX8_fewest 0 = .ok (.aload_n 0, 1) := by decide +kernel
theorem dX8_fewest_1 : decode cX8_fewest 1 = .ok (.iload_n 1, 1) := by decide +kernel
theorem dX8_fewest_2 : decode cX8_fewest 2 = .ok (.iload_n 2, 1) := by decide +kernel
theorem dX8_fewest_3 : decode cX8_fewest 3 = .ok (.invokevirtual 222, 3) := by decide +kernel
theorem dX8_fewest_6 : decode cX8_fewest 6 = .ok (.istore_n 3, 1) := by decide +kernel
theorem dX8_fewest_7 : decode cX8_fewest 7 = .ok (.iload_n 3, 1) := by decide +kernel
theorem dX8_fewest_8 : decode cX8_fewest 8 = .ok (.ifCond .eq 9, 3) := by decide +kernel
theorem dX8_fewest_11 : decode cX8_fewest 11 = .ok (.aload_n 0, 1) := by decide +kernel
theorem dX8_fewest_12 : decode cX8_fewest 12 = .ok (.iload_n 3, 1) := by decide +kernel
theorem dX8_fewest_13 : decode cX8_fewest 13 = .ok (.invokevirtual 61, 3) := by decide +kernel
theorem dX8_fewest_16 : decode cX8_fewest 16 = .ok (.ireturn, 1) := by decide +kernel
theorem dX8_fewest_17 : decode cX8_fewest 17 = .ok (.aload_n 0, 1) := by decide +kernel
theorem dX8_fewest_18 : decode cX8_fewest 18 = .ok (.aload_n 0, 1) := by decide +kernel
theorem dX8_fewest_19 : decode cX8_fewest 19 = .ok (.getfield 26, 3) := by decide +kernel
theorem dX8_fewest_22 : decode cX8_fewest 22 = .ok (.aload_n 0, 1) := by decide +kernel
theorem dX8_fewest_23 : decode cX8_fewest 23 = .ok (.getfield 43, 3) := by decide +kernel
theorem dX8_fewest_26 : decode cX8_fewest 26 = .ok (.iload_n 1, 1) := by decide +kernel
theorem dX8_fewest_27 : decode cX8_fewest 27 = .ok (.iload_n 2, 1) := by decide +kernel
theorem dX8_fewest_28 : decode cX8_fewest 28 = .ok (.bipush 12, 2) := by decide +kernel
theorem dX8_fewest_30 : decode cX8_fewest 30 = .ok (.invokevirtual 228, 3) := by decide +kernel
theorem dX8_fewest_33 : decode cX8_fewest 33 = .ok (.invokevirtual 96, 3) := by decide +kernel
theorem dX8_fewest_36 : decode cX8_fewest 36 = .ok (.ireturn, 1) := by decide +kernel
theorem dX8_proves_0 : decode cX8_proves 0 = .ok (.aload_n 0, 1) := by decide +kernel
theorem dX8_proves_1 : decode cX8_proves 1 = .ok (.iload_n 2, 1) := by decide +kernel
theorem dX8_proves_2 : decode cX8_proves 2 = .ok (.invokevirtual 140, 3) := by decide +kernel
theorem dX8_proves_5 : decode cX8_proves 5 = .ok (.ifCond .eq 11, 3) := by decide +kernel
theorem dX8_proves_8 : decode cX8_proves 8 = .ok (.aload_n 0, 1) := by decide +kernel
theorem dX8_proves_9 : decode cX8_proves 9 = .ok (.iload_n 3, 1) := by decide +kernel
theorem dX8_proves_10 : decode cX8_proves 10 = .ok (.invokevirtual 140, 3) := by decide +kernel
theorem dX8_proves_13 : decode cX8_proves 13 = .ok (.ifCond .ne 9, 3) := by decide +kernel
theorem dX8_proves_16 : decode cX8_proves 16 = .ok (.aload_n 0, 1) := by decide +kernel
theorem dX8_proves_17 : decode cX8_proves 17 = .ok (.iconst 1, 1) := by decide +kernel
theorem dX8_proves_18 : decode cX8_proves 18 = .ok (.invokevirtual 61, 3) := by decide +kernel
theorem dX8_proves_21 : decode cX8_proves 21 = .ok (.ireturn, 1) := by decide +kernel
theorem dX8_proves_22 : decode cX8_proves 22 = .ok (.iload_n 1, 1) := by decide +kernel
theorem dX8_proves_23 : decode cX8_proves 23 = .ok (.ifCond .lt 14, 3) := by decide +kernel
theorem dX8_proves_26 : decode cX8_proves 26 = .ok (.iload_n 1, 1) := by decide +kernel
theorem dX8_proves_27 : decode cX8_proves 27 = .ok (.aload_n 0, 1) := by decide +kernel
theorem dX8_proves_28 : decode cX8_proves 28 = .ok (.getfield 43, 3) := by decide +kernel
theorem dX8_proves_31 : decode cX8_proves 31 = .ok (.invokevirtual 178, 3) := by decide +kernel
theorem dX8_proves_34 : decode cX8_proves 34 = .ok (.if_icmp .le 9, 3) := by decide +kernel
theorem dX8_proves_37 : decode cX8_proves 37 = .ok (.aload_n 0, 1) := by decide +kernel
theorem dX8_proves_38 : decode cX8_proves 38 = .ok (.iconst 2, 1) := by decide +kernel
theorem dX8_proves_39 : decode cX8_proves 39 = .ok (.invokevirtual 61, 3) := by decide +kernel
theorem dX8_proves_42 : decode cX8_proves 42 = .ok (.ireturn, 1) := by decide +kernel
theorem dX8_proves_43 : decode cX8_proves 43 = .ok (.aload_n 0, 1) := by decide +kernel
theorem dX8_proves_44 : decode cX8_proves 44 = .ok (.aload_n 0, 1) := by decide +kernel
theorem dX8_proves_45 : decode cX8_proves 45 = .ok (.aload_n 0, 1) := by decide +kernel
theorem dX8_proves_46 : decode cX8_proves 46 = .ok (.iload_n 1, 1) := by decide +kernel
theorem dX8_proves_47 : decode cX8_proves 47 = .ok (.iload_n 2, 1) := by decide +kernel
theorem dX8_proves_48 : decode cX8_proves 48 = .ok (.iload_n 3, 1) := by decide +kernel
theorem dX8_proves_49 : decode cX8_proves 49 = .ok (.invokevirtual 182, 3) := by decide +kernel
theorem dX8_proves_52 : decode cX8_proves 52 = .ok (.invokevirtual 186, 3) := by decide +kernel
theorem dX8_proves_55 : decode cX8_proves 55 = .ok (.invokevirtual 96, 3) := by decide +kernel
theorem dX8_proves_58 : decode cX8_proves 58 = .ok (.ireturn, 1) := by decide +kernel
theorem dX8_since_0 : decode cX8_since 0 = .ok (.aload_n 0, 1) := by decide +kernel
theorem dX8_since_1 : decode cX8_since 1 = .ok (.iload_n 1, 1) := by decide +kernel
theorem dX8_since_2 : decode cX8_since 2 = .ok (.iload_n 2, 1) := by decide +kernel
theorem dX8_since_3 : decode cX8_since 3 = .ok (.invokevirtual 222, 3) := by decide +kernel
theorem dX8_since_6 : decode cX8_since 6 = .ok (.istore_n 3, 1) := by decide +kernel
theorem dX8_since_7 : decode cX8_since 7 = .ok (.iload_n 3, 1) := by decide +kernel
theorem dX8_since_8 : decode cX8_since 8 = .ok (.ifCond .eq 9, 3) := by decide +kernel
theorem dX8_since_11 : decode cX8_since 11 = .ok (.aload_n 0, 1) := by decide +kernel
theorem dX8_since_12 : decode cX8_since 12 = .ok (.iload_n 3, 1) := by decide +kernel
theorem dX8_since_13 : decode cX8_since 13 = .ok (.invokevirtual 61, 3) := by decide +kernel
theorem dX8_since_16 : decode cX8_since 16 = .ok (.ireturn, 1) := by decide +kernel
theorem dX8_since_17 : decode cX8_since 17 = .ok (.aload_n 0, 1) := by decide +kernel
theorem dX8_since_18 : decode cX8_since 18 = .ok (.getfield 43, 3) := by decide +kernel
theorem dX8_since_21 : decode cX8_since 21 = .ok (.iconst 0, 1) := by decide +kernel
theorem dX8_since_22 : decode cX8_since 22 = .ok (.aload_n 0, 1) := by decide +kernel
theorem dX8_since_23 : decode cX8_since 23 = .ok (.getfield 33, 3) := by decide +kernel
theorem dX8_since_26 : decode cX8_since 26 = .ok (.invokevirtual 232, 3) := by decide +kernel
theorem dX8_since_29 : decode cX8_since 29 = .ok (.iconst 0, 1) := by decide +kernel
theorem dX8_since_30 : decode cX8_since 30 = .ok (.istore 4, 2) := by decide +kernel
theorem dX8_since_32 : decode cX8_since 32 = .ok (.iload 4, 2) := by decide +kernel
theorem dX8_since_34 : decode cX8_since 34 = .ok (.aload_n 0, 1) := by decide +kernel
theorem dX8_since_35 : decode cX8_since 35 = .ok (.getfield 43, 3) := by decide +kernel
theorem dX8_since_38 : decode cX8_since 38 = .ok (.getfield 102, 3) := by decide +kernel
theorem dX8_since_41 : decode cX8_since 41 = .ok (.if_icmp .ge 52, 3) := by decide +kernel
theorem dX8_since_44 : decode cX8_since 44 = .ok (.aload_n 0, 1) := by decide +kernel
theorem dX8_since_45 : decode cX8_since 45 = .ok (.getfield 33, 3) := by decide +kernel
theorem dX8_since_48 : decode cX8_since 48 = .ok (.iload_n 1, 1) := by decide +kernel
theorem dX8_since_49 : decode cX8_since 49 = .ok (.iload_n 2, 1) := by decide +kernel
theorem dX8_since_50 : decode cX8_since 50 = .ok (.invokevirtual 215, 3) := by decide +kernel
theorem dX8_since_53 : decode cX8_since 53 = .ok (.ifCond .ne 40, 3) := by decide +kernel
theorem dX8_since_56 : decode cX8_since 56 = .ok (.aload_n 0, 1) := by decide +kernel
theorem dX8_since_57 : decode cX8_since 57 = .ok (.getfield 43, 3) := by decide +kernel
theorem dX8_since_60 : decode cX8_since 60 = .ok (.aload_n 0, 1) := by decide +kernel
theorem dX8_since_61 : decode cX8_since 61 = .ok (.getfield 43, 3) := by decide +kernel
theorem dX8_since_64 : decode cX8_since 64 = .ok (.getfield 172, 3) := by decide +kernel
theorem dX8_since_67 : decode cX8_since 67 = .ok (.iload 4, 2) := by decide +kernel
theorem dX8_since_69 : decode cX8_since 69 = .ok (.iaload, 1) := by decide +kernel
theorem dX8_since_70 : decode cX8_since 70 = .ok (.aload_n 0, 1) := by decide +kernel
theorem dX8_since_71 : decode cX8_since 71 = .ok (.getfield 43, 3) := by decide +kernel
theorem dX8_since_74 : decode cX8_since 74 = .ok (.getfield 175, 3) := by decide +kernel
theorem dX8_since_77 : decode cX8_since 77 = .ok (.iload 4, 2) := by decide +kernel
theorem dX8_since_79 : decode cX8_since 79 = .ok (.iaload, 1) := by decide +kernel
theorem dX8_since_80 : decode cX8_since 80 = .ok (.aload_n 0, 1) := by decide +kernel
theorem dX8_since_81 : decode cX8_since 81 = .ok (.getfield 33, 3) := by decide +kernel
theorem dX8_since_84 : decode cX8_since 84 = .ok (.invokevirtual 236, 3) := by decide +kernel
theorem dX8_since_87 : decode cX8_since 87 = .ok (.iinc 4 1, 3) := by decide +kernel
theorem dX8_since_90 : decode cX8_since 90 = .ok (.goto (-58), 3) := by decide +kernel
theorem dX8_since_93 : decode cX8_since 93 = .ok (.aload_n 0, 1) := by decide +kernel
theorem dX8_since_94 : decode cX8_since 94 = .ok (.iload 4, 2) := by decide +kernel
theorem dX8_since_96 : decode cX8_since 96 = .ok (.invokevirtual 96, 3) := by decide +kernel
theorem dX8_since_99 : decode cX8_since 99 = .ok (.ireturn, 1) := by decide +kernel
theorem dX8_needed_0 : decode cX8_needed 0 = .ok (.aload_n 0, 1) := by decide +kernel
theorem dX8_needed_1 : decode cX8_needed 1 = .ok (.iload_n 1, 1) := by decide +kernel
theorem dX8_needed_2 : decode cX8_needed 2 = .ok (.iload_n 2, 1) := by decide +kernel
theorem dX8_needed_3 : decode cX8_needed 3 = .ok (.invokevirtual 222, 3) := by decide +kernel
theorem dX8_needed_6 : decode cX8_needed 6 = .ok (.istore_n 3, 1) := by decide +kernel
theorem dX8_needed_7 : decode cX8_needed 7 = .ok (.iload_n 3, 1) := by decide +kernel
theorem dX8_needed_8 : decode cX8_needed 8 = .ok (.ifCond .eq 9, 3) := by decide +kernel
theorem dX8_needed_11 : decode cX8_needed 11 = .ok (.aload_n 0, 1) := by decide +kernel
theorem dX8_needed_12 : decode cX8_needed 12 = .ok (.iload_n 3, 1) := by decide +kernel
theorem dX8_needed_13 : decode cX8_needed 13 = .ok (.invokevirtual 61, 3) := by decide +kernel
theorem dX8_needed_16 : decode cX8_needed 16 = .ok (.ireturn, 1) := by decide +kernel
theorem dX8_needed_17 : decode cX8_needed 17 = .ok (.iconst 0, 1) := by decide +kernel
theorem dX8_needed_18 : decode cX8_needed 18 = .ok (.istore 4, 2) := by decide +kernel
theorem dX8_needed_20 : decode cX8_needed 20 = .ok (.iconst 0, 1) := by decide +kernel
theorem dX8_needed_21 : decode cX8_needed 21 = .ok (.istore 5, 2) := by decide +kernel
theorem dX8_needed_23 : decode cX8_needed 23 = .ok (.iload 5, 2) := by decide +kernel
theorem dX8_needed_25 : decode cX8_needed 25 = .ok (.aload_n 0, 1) := by decide +kernel
theorem dX8_needed_26 : decode cX8_needed 26 = .ok (.getfield 43, 3) := by decide +kernel
theorem dX8_needed_29 : decode cX8_needed 29 = .ok (.getfield 102, 3) := by decide +kernel
theorem dX8_needed_32 : decode cX8_needed 32 = .ok (.if_icmp .ge 41, 3) := by decide +kernel
theorem dX8_needed_35 : decode cX8_needed 35 = .ok (.aload_n 0, 1) := by decide +kernel
theorem dX8_needed_36 : decode cX8_needed 36 = .ok (.aload_n 0, 1) := by decide +kernel
theorem dX8_needed_37 : decode cX8_needed 37 = .ok (.getfield 43, 3) := by decide +kernel
theorem dX8_needed_40 : decode cX8_needed 40 = .ok (.invokevirtual 178, 3) := by decide +kernel
theorem dX8_needed_43 : decode cX8_needed 43 = .ok (.iconst 1, 1) := by decide +kernel
theorem dX8_needed_44 : decode cX8_needed 44 = .ok (.iload 5, 2) := by decide +kernel
theorem dX8_needed_46 : decode cX8_needed 46 = .ok (.ishl, 1) := by decide +kernel
theorem dX8_needed_47 : decode cX8_needed 47 = .ok (.iconst (-1), 1) := by decide +kernel
theorem dX8_needed_48 : decode cX8_needed 48 = .ok (.ixor, 1) := by decide +kernel
theorem dX8_needed_49 : decode cX8_needed 49 = .ok (.iand, 1) := by decide +kernel
theorem dX8_needed_50 : decode cX8_needed 50 = .ok (.iload_n 1, 1) := by decide +kernel
theorem dX8_needed_51 : decode cX8_needed 51 = .ok (.iload_n 2, 1) := by decide +kernel
theorem dX8_needed_52 : decode cX8_needed 52 = .ok (.invokevirtual 182, 3) := by decide +kernel
theorem dX8_needed_55 : decode cX8_needed 55 = .ok (.ifCond .ne 12, 3) := by decide +kernel
theorem dX8_needed_58 : decode cX8_needed 58 = .ok (.iload 4, 2) := by decide +kernel
theorem dX8_needed_60 : decode cX8_needed 60 = .ok (.iconst 1, 1) := by decide +kernel
theorem dX8_needed_61 : decode cX8_needed 61 = .ok (.iload 5, 2) := by decide +kernel
theorem dX8_needed_63 : decode cX8_needed 63 = .ok (.ishl, 1) := by decide +kernel
theorem dX8_needed_64 : decode cX8_needed 64 = .ok (.ior, 1) := by decide +kernel
theorem dX8_needed_65 : decode cX8_needed 65 = .ok (.istore 4, 2) := by decide +kernel
theorem dX8_needed_67 : decode cX8_needed 67 = .ok (.iinc 5 1, 3) := by decide +kernel
theorem dX8_needed_70 : decode cX8_needed 70 = .ok (.goto (-47), 3) := by decide +kernel
theorem dX8_needed_73 : decode cX8_needed 73 = .ok (.aload_n 0, 1) := by decide +kernel
theorem dX8_needed_74 : decode cX8_needed 74 = .ok (.iload 4, 2) := by decide +kernel
theorem dX8_needed_76 : decode cX8_needed 76 = .ok (.invokevirtual 96, 3) := by decide +kernel
theorem dX8_needed_79 : decode cX8_needed 79 = .ok (.ireturn, 1) := by decide +kernel
theorem dX8_many_0 : decode cX8_many 0 = .ok (.aload_n 0, 1) := by decide +kernel
theorem dX8_many_1 : decode cX8_many 1 = .ok (.iload_n 1, 1) := by decide +kernel
theorem dX8_many_2 : decode cX8_many 2 = .ok (.iload_n 2, 1) := by decide +kernel
theorem dX8_many_3 : decode cX8_many 3 = .ok (.invokevirtual 222, 3) := by decide +kernel
theorem dX8_many_6 : decode cX8_many 6 = .ok (.istore_n 3, 1) := by decide +kernel
theorem dX8_many_7 : decode cX8_many 7 = .ok (.iload_n 3, 1) := by decide +kernel
theorem dX8_many_8 : decode cX8_many 8 = .ok (.ifCond .eq 9, 3) := by decide +kernel
theorem dX8_many_11 : decode cX8_many 11 = .ok (.aload_n 0, 1) := by decide +kernel
theorem dX8_many_12 : decode cX8_many 12 = .ok (.iload_n 3, 1) := by decide +kernel
theorem dX8_many_13 : decode cX8_many 13 = .ok (.invokevirtual 61, 3) := by decide +kernel
theorem dX8_many_16 : decode cX8_many 16 = .ok (.ireturn, 1) := by decide +kernel
theorem dX8_many_17 : decode cX8_many 17 = .ok (.aload_n 0, 1) := by decide +kernel
theorem dX8_many_18 : decode cX8_many 18 = .ok (.aload_n 0, 1) := by decide +kernel
theorem dX8_many_19 : decode cX8_many 19 = .ok (.getfield 26, 3) := by decide +kernel
theorem dX8_many_22 : decode cX8_many 22 = .ok (.aload_n 0, 1) := by decide +kernel
theorem dX8_many_23 : decode cX8_many 23 = .ok (.getfield 43, 3) := by decide +kernel
theorem dX8_many_26 : decode cX8_many 26 = .ok (.iload_n 1, 1) := by decide +kernel
theorem dX8_many_27 : decode cX8_many 27 = .ok (.iload_n 2, 1) := by decide +kernel
theorem dX8_many_28 : decode cX8_many 28 = .ok (.invokevirtual 240, 3) := by decide +kernel
theorem dX8_many_31 : decode cX8_many 31 = .ok (.invokevirtual 96, 3) := by decide +kernel
theorem dX8_many_34 : decode cX8_many 34 = .ok (.ireturn, 1) := by decide +kernel
theorem dX8_base_0 : decode cX8_base 0 = .ok (.aload_n 0, 1) := by decide +kernel
theorem dX8_base_1 : decode cX8_base 1 = .ok (.getfield 43, 3) := by decide +kernel
theorem dX8_base_4 : decode cX8_base 4 = .ok (.invokevirtual 178, 3) := by decide +kernel
theorem dX8_base_7 : decode cX8_base 7 = .ok (.istore_n 1, 1) := by decide +kernel
theorem dX8_base_8 : decode cX8_base 8 = .ok (.aload_n 0, 1) := by decide +kernel
theorem dX8_base_9 : decode cX8_base 9 = .ok (.getfield 43, 3) := by decide +kernel
theorem dX8_base_12 : decode cX8_base 12 = .ok (.getfield 102, 3) := by decide +kernel
theorem dX8_base_15 : decode cX8_base 15 = .ok (.iconst 1, 1) := by decide +kernel
theorem dX8_base_16 : decode cX8_base 16 = .ok (.isub, 1) := by decide +kernel
theorem dX8_base_17 : decode cX8_base 17 = .ok (.istore_n 2, 1) := by decide +kernel
theorem dX8_base_18 : decode cX8_base 18 = .ok (.iload_n 2, 1) := by decide +kernel
theorem dX8_base_19 : decode cX8_base 19 = .ok (.ifCond .lt 45, 3) := by decide +kernel
theorem dX8_base_22 : decode cX8_base 22 = .ok (.iload_n 1, 1) := by decide +kernel
theorem dX8_base_23 : decode cX8_base 23 = .ok (.iconst 1, 1) := by decide +kernel
theorem dX8_base_24 : decode cX8_base 24 = .ok (.iload_n 2, 1) := by decide +kernel
theorem dX8_base_25 : decode cX8_base 25 = .ok (.ishl, 1) := by decide +kernel
theorem dX8_base_26 : decode cX8_base 26 = .ok (.iconst (-1), 1) := by decide +kernel
theorem dX8_base_27 : decode cX8_base 27 = .ok (.ixor, 1) := by decide +kernel
theorem dX8_base_28 : decode cX8_base 28 = .ok (.iand, 1) := by decide +kernel
theorem dX8_base_29 : decode cX8_base 29 = .ok (.istore_n 3, 1) := by decide +kernel
theorem dX8_base_30 : decode cX8_base 30 = .ok (.aload_n 0, 1) := by decide +kernel
theorem dX8_base_31 : decode cX8_base 31 = .ok (.iload_n 3, 1) := by decide +kernel
theorem dX8_base_32 : decode cX8_base 32 = .ok (.aload_n 0, 1) := by decide +kernel
theorem dX8_base_33 : decode cX8_base 33 = .ok (.getfield 43, 3) := by decide +kernel
theorem dX8_base_36 : decode cX8_base 36 = .ok (.getfield 172, 3) := by decide +kernel
theorem dX8_base_39 : decode cX8_base 39 = .ok (.iload_n 2, 1) := by decide +kernel
theorem dX8_base_40 : decode cX8_base 40 = .ok (.iaload, 1) := by decide +kernel
theorem dX8_base_41 : decode cX8_base 41 = .ok (.aload_n 0, 1) := by decide +kernel
theorem dX8_base_42 : decode cX8_base 42 = .ok (.getfield 43, 3) := by decide +kernel
theorem dX8_base_45 : decode cX8_base 45 = .ok (.getfield 175, 3) := by decide +kernel
theorem dX8_base_48 : decode cX8_base 48 = .ok (.iload_n 2, 1) := by decide +kernel
theorem dX8_base_49 : decode cX8_base 49 = .ok (.iaload, 1) := by decide +kernel
theorem dX8_base_50 : decode cX8_base 50 = .ok (.invokevirtual 182, 3) := by decide +kernel
theorem dX8_base_53 : decode cX8_base 53 = .ok (.ifCond .eq 5, 3) := by decide +kernel
theorem dX8_base_56 : decode cX8_base 56 = .ok (.iload_n 3, 1) := by decide +kernel
theorem dX8_base_57 : decode cX8_base 57 = .ok (.istore_n 1, 1) := by decide +kernel
theorem dX8_base_58 : decode cX8_base 58 = .ok (.iinc 2 (-1), 3) := by decide +kernel
theorem dX8_base_61 : decode cX8_base 61 = .ok (.goto (-43), 3) := by decide +kernel
theorem dX8_base_64 : decode cX8_base 64 = .ok (.iload_n 1, 1) := by decide +kernel
theorem dX8_base_65 : decode cX8_base 65 = .ok (.ireturn, 1) := by decide +kernel
theorem dX8_level_0 : decode cX8_level 0 = .ok (.aload_n 0, 1) := by decide +kernel
theorem dX8_level_1 : decode cX8_level 1 = .ok (.iload_n 1, 1) := by decide +kernel
theorem dX8_level_2 : decode cX8_level 2 = .ok (.iload_n 2, 1) := by decide +kernel
theorem dX8_level_3 : decode cX8_level 3 = .ok (.invokevirtual 222, 3) := by decide +kernel
theorem dX8_level_6 : decode cX8_level 6 = .ok (.istore_n 3, 1) := by decide +kernel
theorem dX8_level_7 : decode cX8_level 7 = .ok (.iload_n 3, 1) := by decide +kernel
theorem dX8_level_8 : decode cX8_level 8 = .ok (.ifCond .eq 9, 3) := by decide +kernel
theorem dX8_level_11 : decode cX8_level 11 = .ok (.aload_n 0, 1) := by decide +kernel
theorem dX8_level_12 : decode cX8_level 12 = .ok (.iload_n 3, 1) := by decide +kernel
theorem dX8_level_13 : decode cX8_level 13 = .ok (.invokevirtual 61, 3) := by decide +kernel
theorem dX8_level_16 : decode cX8_level 16 = .ok (.ireturn, 1) := by decide +kernel
theorem dX8_level_17 : decode cX8_level 17 = .ok (.aload_n 0, 1) := by decide +kernel
theorem dX8_level_18 : decode cX8_level 18 = .ok (.getfield 33, 3) := by decide +kernel
theorem dX8_level_21 : decode cX8_level 21 = .ok (.aload_n 0, 1) := by decide +kernel
theorem dX8_level_22 : decode cX8_level 22 = .ok (.getfield 43, 3) := by decide +kernel
theorem dX8_level_25 : decode cX8_level 25 = .ok (.getfield 87, 3) := by decide +kernel
theorem dX8_level_28 : decode cX8_level 28 = .ok (.getfield 91, 3) := by decide +kernel
theorem dX8_level_31 : decode cX8_level 31 = .ok (.invokevirtual 244, 3) := by decide +kernel
theorem dX8_level_34 : decode cX8_level 34 = .ok (.iconst 0, 1) := by decide +kernel
theorem dX8_level_35 : decode cX8_level 35 = .ok (.istore 4, 2) := by decide +kernel
theorem dX8_level_37 : decode cX8_level 37 = .ok (.iload 4, 2) := by decide +kernel
theorem dX8_level_39 : decode cX8_level 39 = .ok (.aload_n 0, 1) := by decide +kernel
theorem dX8_level_40 : decode cX8_level 40 = .ok (.getfield 43, 3) := by decide +kernel
theorem dX8_level_43 : decode cX8_level 43 = .ok (.getfield 102, 3) := by decide +kernel
theorem dX8_level_46 : decode cX8_level 46 = .ok (.if_icmp .ge 36, 3) := by decide +kernel
theorem dX8_level_49 : decode cX8_level 49 = .ok (.aload_n 0, 1) := by decide +kernel
theorem dX8_level_50 : decode cX8_level 50 = .ok (.getfield 33, 3) := by decide +kernel
theorem dX8_level_53 : decode cX8_level 53 = .ok (.aload_n 0, 1) := by decide +kernel
theorem dX8_level_54 : decode cX8_level 54 = .ok (.getfield 43, 3) := by decide +kernel
theorem dX8_level_57 : decode cX8_level 57 = .ok (.getfield 172, 3) := by decide +kernel
theorem dX8_level_60 : decode cX8_level 60 = .ok (.iload 4, 2) := by decide +kernel
theorem dX8_level_62 : decode cX8_level 62 = .ok (.iaload, 1) := by decide +kernel
theorem dX8_level_63 : decode cX8_level 63 = .ok (.aload_n 0, 1) := by decide +kernel
theorem dX8_level_64 : decode cX8_level 64 = .ok (.getfield 43, 3) := by decide +kernel
theorem dX8_level_67 : decode cX8_level 67 = .ok (.getfield 175, 3) := by decide +kernel
theorem dX8_level_70 : decode cX8_level 70 = .ok (.iload 4, 2) := by decide +kernel
theorem dX8_level_72 : decode cX8_level 72 = .ok (.iaload, 1) := by decide +kernel
theorem dX8_level_73 : decode cX8_level 73 = .ok (.invokevirtual 247, 3) := by decide +kernel
theorem dX8_level_76 : decode cX8_level 76 = .ok (.iinc 4 1, 3) := by decide +kernel
theorem dX8_level_79 : decode cX8_level 79 = .ok (.goto (-42), 3) := by decide +kernel
theorem dX8_level_82 : decode cX8_level 82 = .ok (.iconst 0, 1) := by decide +kernel
theorem dX8_level_83 : decode cX8_level 83 = .ok (.istore 4, 2) := by decide +kernel
theorem dX8_level_85 : decode cX8_level 85 = .ok (.iload 4, 2) := by decide +kernel
theorem dX8_level_87 : decode cX8_level 87 = .ok (.bipush 24, 2) := by decide +kernel
theorem dX8_level_89 : decode cX8_level 89 = .ok (.if_icmp .ge 50, 3) := by decide +kernel
theorem dX8_level_92 : decode cX8_level 92 = .ok (.aload_n 0, 1) := by decide +kernel
theorem dX8_level_93 : decode cX8_level 93 = .ok (.getfield 33, 3) := by decide +kernel
theorem dX8_level_96 : decode cX8_level 96 = .ok (.iload_n 1, 1) := by decide +kernel
theorem dX8_level_97 : decode cX8_level 97 = .ok (.iload_n 2, 1) := by decide +kernel
theorem dX8_level_98 : decode cX8_level 98 = .ok (.invokevirtual 215, 3) := by decide +kernel
theorem dX8_level_101 : decode cX8_level 101 = .ok (.ifCond .ne 38, 3) := by decide +kernel
theorem dX8_level_104 : decode cX8_level 104 = .ok (.aload_n 0, 1) := by decide +kernel
theorem dX8_level_105 : decode cX8_level 105 = .ok (.getfield 37, 3) := by decide +kernel
theorem dX8_level_108 : decode cX8_level 108 = .ok (.aload_n 0, 1) := by decide +kernel
theorem dX8_level_109 : decode cX8_level 109 = .ok (.getfield 33, 3) := by decide +kernel
theorem dX8_level_112 : decode cX8_level 112 = .ok (.invokevirtual 251, 3) := by decide +kernel
theorem dX8_level_115 : decode cX8_level 115 = .ok (.aload_n 0, 1) := by decide +kernel
theorem dX8_level_116 : decode cX8_level 116 = .ok (.getfield 43, 3) := by decide +kernel
theorem dX8_level_119 : decode cX8_level 119 = .ok (.getfield 87, 3) := by decide +kernel
theorem dX8_level_122 : decode cX8_level 122 = .ok (.aload_n 0, 1) := by decide +kernel
theorem dX8_level_123 : decode cX8_level 123 = .ok (.getfield 37, 3) := by decide +kernel
theorem dX8_level_126 : decode cX8_level 126 = .ok (.aload_n 0, 1) := by decide +kernel
theorem dX8_level_127 : decode cX8_level 127 = .ok (.getfield 33, 3) := by decide +kernel
theorem dX8_level_130 : decode cX8_level 130 = .ok (.invokevirtual 255, 3) := by decide +kernel
theorem dX8_level_133 : decode cX8_level 133 = .ok (.iinc 4 1, 3) := by decide +kernel
theorem dX8_level_136 : decode cX8_level 136 = .ok (.goto (-51), 3) := by decide +kernel
theorem dX8_level_139 : decode cX8_level 139 = .ok (.aload_n 0, 1) := by decide +kernel
theorem dX8_level_140 : decode cX8_level 140 = .ok (.iload 4, 2) := by decide +kernel
theorem dX8_level_142 : decode cX8_level 142 = .ok (.invokevirtual 96, 3) := by decide +kernel
theorem dX8_level_145 : decode cX8_level 145 = .ok (.ireturn, 1) := by decide +kernel
theorem dX8_cost_0 : decode cX8_cost 0 = .ok (.aload_n 0, 1) := by decide +kernel
theorem dX8_cost_1 : decode cX8_cost 1 = .ok (.iload_n 1, 1) := by decide +kernel
theorem dX8_cost_2 : decode cX8_cost 2 = .ok (.iload_n 2, 1) := by decide +kernel
theorem dX8_cost_3 : decode cX8_cost 3 = .ok (.invokevirtual 222, 3) := by decide +kernel
theorem dX8_cost_6 : decode cX8_cost 6 = .ok (.istore_n 3, 1) := by decide +kernel
theorem dX8_cost_7 : decode cX8_cost 7 = .ok (.iload_n 3, 1) := by decide +kernel
theorem dX8_cost_8 : decode cX8_cost 8 = .ok (.ifCond .eq 9, 3) := by decide +kernel
theorem dX8_cost_11 : decode cX8_cost 11 = .ok (.aload_n 0, 1) := by decide +kernel
theorem dX8_cost_12 : decode cX8_cost 12 = .ok (.iload_n 3, 1) := by decide +kernel
theorem dX8_cost_13 : decode cX8_cost 13 = .ok (.invokevirtual 61, 3) := by decide +kernel
theorem dX8_cost_16 : decode cX8_cost 16 = .ok (.ireturn, 1) := by decide +kernel
theorem dX8_cost_17 : decode cX8_cost 17 = .ok (.aload_n 0, 1) := by decide +kernel
theorem dX8_cost_18 : decode cX8_cost 18 = .ok (.getfield 19, 3) := by decide +kernel
theorem dX8_cost_21 : decode cX8_cost 21 = .ok (.aload_n 0, 1) := by decide +kernel
theorem dX8_cost_22 : decode cX8_cost 22 = .ok (.getfield 43, 3) := by decide +kernel
theorem dX8_cost_25 : decode cX8_cost 25 = .ok (.invokevirtual 259, 3) := by decide +kernel
theorem dX8_cost_28 : decode cX8_cost 28 = .ok (.aload_n 0, 1) := by decide +kernel
theorem dX8_cost_29 : decode cX8_cost 29 = .ok (.aload_n 0, 1) := by decide +kernel
theorem dX8_cost_30 : decode cX8_cost 30 = .ok (.getfield 19, 3) := by decide +kernel
theorem dX8_cost_33 : decode cX8_cost 33 = .ok (.iload_n 1, 1) := by decide +kernel
theorem dX8_cost_34 : decode cX8_cost 34 = .ok (.iload_n 2, 1) := by decide +kernel
theorem dX8_cost_35 : decode cX8_cost 35 = .ok (.invokevirtual 263, 3) := by decide +kernel
theorem dX8_cost_38 : decode cX8_cost 38 = .ok (.invokevirtual 96, 3) := by decide +kernel
theorem dX8_cost_41 : decode cX8_cost 41 = .ok (.ireturn, 1) := by decide +kernel
theorem dX8_way_0 : decode cX8_way 0 = .ok (.iload_n 3, 1) := by decide +kernel
theorem dX8_way_1 : decode cX8_way 1 = .ok (.ifCond .ge 7, 3) := by decide +kernel
theorem dX8_way_4 : decode cX8_way 4 = .ok (.iconst 1, 1) := by decide +kernel
theorem dX8_way_5 : decode cX8_way 5 = .ok (.goto 9, 3) := by decide +kernel
theorem dX8_way_8 : decode cX8_way 8 = .ok (.aload_n 0, 1) := by decide +kernel
theorem dX8_way_9 : decode cX8_way 9 = .ok (.iload_n 1, 1) := by decide +kernel
theorem dX8_way_10 : decode cX8_way 10 = .ok (.iload_n 2, 1) := by decide +kernel
theorem dX8_way_11 : decode cX8_way 11 = .ok (.invokevirtual 222, 3) := by decide +kernel
theorem dX8_way_14 : decode cX8_way 14 = .ok (.istore 4, 2) := by decide +kernel
theorem dX8_way_16 : decode cX8_way 16 = .ok (.iload 4, 2) := by decide +kernel
theorem dX8_way_18 : decode cX8_way 18 = .ok (.ifCond .eq 10, 3) := by decide +kernel
theorem dX8_way_21 : decode cX8_way 21 = .ok (.aload_n 0, 1) := by decide +kernel
theorem dX8_way_22 : decode cX8_way 22 = .ok (.iload 4, 2) := by decide +kernel
theorem dX8_way_24 : decode cX8_way 24 = .ok (.invokevirtual 61, 3) := by decide +kernel
theorem dX8_way_27 : decode cX8_way 27 = .ok (.ireturn, 1) := by decide +kernel
theorem dX8_way_28 : decode cX8_way 28 = .ok (.aload_n 0, 1) := by decide +kernel
theorem dX8_way_29 : decode cX8_way 29 = .ok (.getfield 19, 3) := by decide +kernel
theorem dX8_way_32 : decode cX8_way 32 = .ok (.aload_n 0, 1) := by decide +kernel
theorem dX8_way_33 : decode cX8_way 33 = .ok (.getfield 43, 3) := by decide +kernel
theorem dX8_way_36 : decode cX8_way 36 = .ok (.invokevirtual 259, 3) := by decide +kernel
theorem dX8_way_39 : decode cX8_way 39 = .ok (.aload_n 0, 1) := by decide +kernel
theorem dX8_way_40 : decode cX8_way 40 = .ok (.aload_n 0, 1) := by decide +kernel
theorem dX8_way_41 : decode cX8_way 41 = .ok (.getfield 19, 3) := by decide +kernel
theorem dX8_way_44 : decode cX8_way 44 = .ok (.iload_n 1, 1) := by decide +kernel
theorem dX8_way_45 : decode cX8_way 45 = .ok (.iload_n 2, 1) := by decide +kernel
theorem dX8_way_46 : decode cX8_way 46 = .ok (.iload_n 3, 1) := by decide +kernel
theorem dX8_way_47 : decode cX8_way 47 = .ok (.invokevirtual 266, 3) := by decide +kernel
theorem dX8_way_50 : decode cX8_way 50 = .ok (.invokevirtual 96, 3) := by decide +kernel
theorem dX8_way_53 : decode cX8_way 53 = .ok (.ireturn, 1) := by decide +kernel
theorem dX8_core_0 : decode cX8_core 0 = .ok (.bipush (-2), 2) := by decide +kernel
theorem dX8_core_2 : decode cX8_core 2 = .ok (.istore_n 1, 1) := by decide +kernel
theorem dX8_core_3 : decode cX8_core 3 = .ok (.iconst 0, 1) := by decide +kernel
theorem dX8_core_4 : decode cX8_core 4 = .ok (.istore_n 2, 1) := by decide +kernel
theorem dX8_core_5 : decode cX8_core 5 = .ok (.iload_n 2, 1) := by decide +kernel
theorem dX8_core_6 : decode cX8_core 6 = .ok (.aload_n 0, 1) := by decide +kernel
theorem dX8_core_7 : decode cX8_core 7 = .ok (.getfield 43, 3) := by decide +kernel
theorem dX8_core_10 : decode cX8_core 10 = .ok (.getfield 105, 3) := by decide +kernel
theorem dX8_core_13 : decode cX8_core 13 = .ok (.if_icmp .ge 100, 3) := by decide +kernel
theorem dX8_core_16 : decode cX8_core 16 = .ok (.aload_n 0, 1) := by decide +kernel
theorem dX8_core_17 : decode cX8_core 17 = .ok (.getfield 43, 3) := by decide +kernel
theorem dX8_core_20 : decode cX8_core 20 = .ok (.iload_n 2, 1) := by decide +kernel
theorem dX8_core_21 : decode cX8_core 21 = .ok (.aload_n 0, 1) := by decide +kernel
theorem dX8_core_22 : decode cX8_core 22 = .ok (.getfield 43, 3) := by decide +kernel
theorem dX8_core_25 : decode cX8_core 25 = .ok (.getfield 108, 3) := by decide +kernel
theorem dX8_core_28 : decode cX8_core 28 = .ok (.invokevirtual 196, 3) := by decide +kernel
theorem dX8_core_31 : decode cX8_core 31 = .ok (.ifCond .eq 76, 3) := by decide +kernel
theorem dX8_core_34 : decode cX8_core 34 = .ok (.iload_n 1, 1) := by decide +kernel
theorem dX8_core_35 : decode cX8_core 35 = .ok (.ifCond .ge 8, 3) := by decide +kernel
theorem dX8_core_38 : decode cX8_core 38 = .ok (.bipush 12, 2) := by decide +kernel
theorem dX8_core_40 : decode cX8_core 40 = .ok (.goto 7, 3) := by decide +kernel
theorem dX8_core_43 : decode cX8_core 43 = .ok (.iload_n 1, 1) := by decide +kernel
theorem dX8_core_44 : decode cX8_core 44 = .ok (.invokestatic 270, 3) := by decide +kernel
theorem dX8_core_47 : decode cX8_core 47 = .ok (.istore_n 3, 1) := by decide +kernel
theorem dX8_core_48 : decode cX8_core 48 = .ok (.aload_n 0, 1) := by decide +kernel
theorem dX8_core_49 : decode cX8_core 49 = .ok (.getfield 26, 3) := by decide +kernel
theorem dX8_core_52 : decode cX8_core 52 = .ok (.aload_n 0, 1) := by decide +kernel
theorem dX8_core_53 : decode cX8_core 53 = .ok (.getfield 43, 3) := by decide +kernel
theorem dX8_core_56 : decode cX8_core 56 = .ok (.aload_n 0, 1) := by decide +kernel
theorem dX8_core_57 : decode cX8_core 57 = .ok (.getfield 43, 3) := by decide +kernel
theorem dX8_core_60 : decode cX8_core 60 = .ok (.getfield 190, 3) := by decide +kernel
theorem dX8_core_63 : decode cX8_core 63 = .ok (.iload_n 2, 1) := by decide +kernel
theorem dX8_core_64 : decode cX8_core 64 = .ok (.iaload, 1) := by decide +kernel
theorem dX8_core_65 : decode cX8_core 65 = .ok (.aload_n 0, 1) := by decide +kernel
theorem dX8_core_66 : decode cX8_core 66 = .ok (.getfield 43, 3) := by decide +kernel
theorem dX8_core_69 : decode cX8_core 69 = .ok (.getfield 193, 3) := by decide +kernel
theorem dX8_core_72 : decode cX8_core 72 = .ok (.iload_n 2, 1) := by decide +kernel
theorem dX8_core_73 : decode cX8_core 73 = .ok (.iaload, 1) := by decide +kernel
theorem dX8_core_74 : decode cX8_core 74 = .ok (.iload_n 3, 1) := by decide +kernel
theorem dX8_core_75 : decode cX8_core 75 = .ok (.invokevirtual 228, 3) := by decide +kernel
theorem dX8_core_78 : decode cX8_core 78 = .ok (.istore 4, 2) := by decide +kernel
theorem dX8_core_80 : decode cX8_core 80 = .ok (.iload 4, 2) := by decide +kernel
theorem dX8_core_82 : decode cX8_core 82 = .ok (.ifCond .lt 25, 3) := by decide +kernel
theorem dX8_core_85 : decode cX8_core 85 = .ok (.iload_n 1, 1) := by decide +kernel
theorem dX8_core_86 : decode cX8_core 86 = .ok (.ifCond .lt 18, 3) := by decide +kernel
theorem dX8_core_89 : decode cX8_core 89 = .ok (.iload 4, 2) := by decide +kernel
theorem dX8_core_91 : decode cX8_core 91 = .ok (.invokestatic 270, 3) := by decide +kernel
theorem dX8_core_94 : decode cX8_core 94 = .ok (.iload_n 3, 1) := by decide +kernel
theorem dX8_core_95 : decode cX8_core 95 = .ok (.if_icmp .lt 9, 3) := by decide +kernel
theorem dX8_core_98 : decode cX8_core 98 = .ok (.iload 4, 2) := by decide +kernel
theorem dX8_core_100 : decode cX8_core 100 = .ok (.iload_n 1, 1) := by decide +kernel
theorem dX8_core_101 : decode cX8_core 101 = .ok (.if_icmp .ge 6, 3) := by decide +kernel
theorem dX8_core_104 : decode cX8_core 104 = .ok (.iload 4, 2) := by decide +kernel
theorem dX8_core_106 : decode cX8_core 106 = .ok (.istore_n 1, 1) := by decide +kernel
theorem dX8_core_107 : decode cX8_core 107 = .ok (.iinc 2 1, 3) := by decide +kernel
theorem dX8_core_110 : decode cX8_core 110 = .ok (.goto (-105), 3) := by decide +kernel
theorem dX8_core_113 : decode cX8_core 113 = .ok (.iload_n 1, 1) := by decide +kernel
theorem dX8_core_114 : decode cX8_core 114 = .ok (.ireturn, 1) := by decide +kernel
theorem dX8_would_0 : decode cX8_would 0 = .ok (.aload_n 0, 1) := by decide +kernel
theorem dX8_would_1 : decode cX8_would 1 = .ok (.iload_n 1, 1) := by decide +kernel
theorem dX8_would_2 : decode cX8_would 2 = .ok (.invokevirtual 140, 3) := by decide +kernel
theorem dX8_would_5 : decode cX8_would 5 = .ok (.ifCond .eq 20, 3) := by decide +kernel
theorem dX8_would_8 : decode cX8_would 8 = .ok (.aload_n 0, 1) := by decide +kernel
theorem dX8_would_9 : decode cX8_would 9 = .ok (.iload_n 2, 1) := by decide +kernel
theorem dX8_would_10 : decode cX8_would 10 = .ok (.invokevirtual 140, 3) := by decide +kernel
theorem dX8_would_13 : decode cX8_would 13 = .ok (.ifCond .eq 12, 3) := by decide +kernel
theorem dX8_would_16 : decode cX8_would 16 = .ok (.iload_n 3, 1) := by decide +kernel
theorem dX8_would_17 : decode cX8_would 17 = .ok (.ifCond .lt 8, 3) := by decide +kernel
theorem dX8_would_20 : decode cX8_would 20 = .ok (.iload_n 3, 1) := by decide +kernel
theorem dX8_would_21 : decode cX8_would 21 = .ok (.iconst 2, 1) := by decide +kernel
theorem dX8_would_22 : decode cX8_would 22 = .ok (.if_icmp .le 9, 3) := by decide +kernel
theorem dX8_would_25 : decode cX8_would 25 = .ok (.aload_n 0, 1) := by decide +kernel
theorem dX8_would_26 : decode cX8_would 26 = .ok (.iconst 1, 1) := by decide +kernel
theorem dX8_would_27 : decode cX8_would 27 = .ok (.invokevirtual 61, 3) := by decide +kernel
theorem dX8_would_30 : decode cX8_would 30 = .ok (.ireturn, 1) := by decide +kernel
theorem dX8_would_31 : decode cX8_would 31 = .ok (.aload_n 0, 1) := by decide +kernel
theorem dX8_would_32 : decode cX8_would 32 = .ok (.getfield 33, 3) := by decide +kernel
theorem dX8_would_35 : decode cX8_would 35 = .ok (.aload_n 0, 1) := by decide +kernel
theorem dX8_would_36 : decode cX8_would 36 = .ok (.getfield 43, 3) := by decide +kernel
theorem dX8_would_39 : decode cX8_would 39 = .ok (.getfield 108, 3) := by decide +kernel
theorem dX8_would_42 : decode cX8_would 42 = .ok (.invokevirtual 251, 3) := by decide +kernel
theorem dX8_would_45 : decode cX8_would 45 = .ok (.aload_n 0, 1) := by decide +kernel
theorem dX8_would_46 : decode cX8_would 46 = .ok (.getfield 43, 3) := by decide +kernel
theorem dX8_would_49 : decode cX8_would 49 = .ok (.iload_n 1, 1) := by decide +kernel
theorem dX8_would_50 : decode cX8_would 50 = .ok (.iload_n 2, 1) := by decide +kernel
theorem dX8_would_51 : decode cX8_would 51 = .ok (.aload_n 0, 1) := by decide +kernel
theorem dX8_would_52 : decode cX8_would 52 = .ok (.getfield 33, 3) := by decide +kernel
theorem dX8_would_55 : decode cX8_would 55 = .ok (.invokevirtual 236, 3) := by decide +kernel
theorem dX8_would_58 : decode cX8_would 58 = .ok (.iload_n 3, 1) := by decide +kernel
theorem dX8_would_59 : decode cX8_would 59 = .ok (.ifCond .ne 15, 3) := by decide +kernel
theorem dX8_would_62 : decode cX8_would 62 = .ok (.aload_n 0, 1) := by decide +kernel
theorem dX8_would_63 : decode cX8_would 63 = .ok (.aload_n 0, 1) := by decide +kernel
theorem dX8_would_64 : decode cX8_would 64 = .ok (.getfield 33, 3) := by decide +kernel
theorem dX8_would_67 : decode cX8_would 67 = .ok (.getfield 111, 3) := by decide +kernel
theorem dX8_would_70 : decode cX8_would 70 = .ok (.invokevirtual 96, 3) := by decide +kernel
theorem dX8_would_73 : decode cX8_would 73 = .ok (.ireturn, 1) := by decide +kernel
theorem dX8_would_74 : decode cX8_would 74 = .ok (.aload_n 0, 1) := by decide +kernel
theorem dX8_would_75 : decode cX8_would 75 = .ok (.iload_n 3, 1) := by decide +kernel
theorem dX8_would_76 : decode cX8_would 76 = .ok (.iconst 1, 1) := by decide +kernel
theorem dX8_would_77 : decode cX8_would 77 = .ok (.if_icmp .ne 17, 3) := by decide +kernel
theorem dX8_would_80 : decode cX8_would 80 = .ok (.aload_n 0, 1) := by decide +kernel
theorem dX8_would_81 : decode cX8_would 81 = .ok (.getfield 43, 3) := by decide +kernel
theorem dX8_would_84 : decode cX8_would 84 = .ok (.aload_n 0, 1) := by decide +kernel
theorem dX8_would_85 : decode cX8_would 85 = .ok (.getfield 33, 3) := by decide +kernel
theorem dX8_would_88 : decode cX8_would 88 = .ok (.invokevirtual 125, 3) := by decide +kernel
theorem dX8_would_91 : decode cX8_would 91 = .ok (.goto 21, 3) := by decide +kernel
theorem dX8_would_94 : decode cX8_would 94 = .ok (.aload_n 0, 1) := by decide +kernel
theorem dX8_would_95 : decode cX8_would 95 = .ok (.getfield 43, 3) := by decide +kernel
theorem dX8_would_98 : decode cX8_would 98 = .ok (.getfield 108, 3) := by decide +kernel
theorem dX8_would_101 : decode cX8_would 101 = .ok (.getfield 111, 3) := by decide +kernel
theorem dX8_would_104 : decode cX8_would 104 = .ok (.aload_n 0, 1) := by decide +kernel
theorem dX8_would_105 : decode cX8_would 105 = .ok (.getfield 33, 3) := by decide +kernel
theorem dX8_would_108 : decode cX8_would 108 = .ok (.getfield 111, 3) := by decide +kernel
theorem dX8_would_111 : decode cX8_would 111 = .ok (.isub, 1) := by decide +kernel
theorem dX8_would_112 : decode cX8_would 112 = .ok (.invokevirtual 96, 3) := by decide +kernel
theorem dX8_would_115 : decode cX8_would 115 = .ok (.ireturn, 1) := by decide +kernel
theorem dX8_next_0 : decode cX8_next 0 = .ok (.aload_n 0, 1) := by decide +kernel
theorem dX8_next_1 : decode cX8_next 1 = .ok (.iload_n 1, 1) := by decide +kernel
theorem dX8_next_2 : decode cX8_next 2 = .ok (.invokevirtual 140, 3) := by decide +kernel
theorem dX8_next_5 : decode cX8_next 5 = .ok (.ifCond .eq 26, 3) := by decide +kernel
theorem dX8_next_8 : decode cX8_next 8 = .ok (.aload_n 0, 1) := by decide +kernel
theorem dX8_next_9 : decode cX8_next 9 = .ok (.iload_n 2, 1) := by decide +kernel
theorem dX8_next_10 : decode cX8_next 10 = .ok (.invokevirtual 140, 3) := by decide +kernel
theorem dX8_next_13 : decode cX8_next 13 = .ok (.ifCond .eq 18, 3) := by decide +kernel
theorem dX8_next_16 : decode cX8_next 16 = .ok (.iload_n 3, 1) := by decide +kernel
theorem dX8_next_17 : decode cX8_next 17 = .ok (.ifCond .lt 14, 3) := by decide +kernel
theorem dX8_next_20 : decode cX8_next 20 = .ok (.iload 4, 2) := by decide +kernel
theorem dX8_next_22 : decode cX8_next 22 = .ok (.ifCond .lt 9, 3) := by decide +kernel
theorem dX8_next_25 : decode cX8_next 25 = .ok (.iload 4, 2) := by decide +kernel
theorem dX8_next_27 : decode cX8_next 27 = .ok (.iconst 2, 1) := by decide +kernel
theorem dX8_next_28 : decode cX8_next 28 = .ok (.if_icmp .le 9, 3) := by decide +kernel
theorem dX8_next_31 : decode cX8_next 31 = .ok (.aload_n 0, 1) := by decide +kernel
theorem dX8_next_32 : decode cX8_next 32 = .ok (.iconst 1, 1) := by decide +kernel
theorem dX8_next_33 : decode cX8_next 33 = .ok (.invokevirtual 61, 3) := by decide +kernel
theorem dX8_next_36 : decode cX8_next 36 = .ok (.ireturn, 1) := by decide +kernel
theorem dX8_next_37 : decode cX8_next 37 = .ok (.aload_n 0, 1) := by decide +kernel
theorem dX8_next_38 : decode cX8_next 38 = .ok (.getfield 43, 3) := by decide +kernel
theorem dX8_next_41 : decode cX8_next 41 = .ok (.getfield 108, 3) := by decide +kernel
theorem dX8_next_44 : decode cX8_next 44 = .ok (.iload_n 1, 1) := by decide +kernel
theorem dX8_next_45 : decode cX8_next 45 = .ok (.iload_n 2, 1) := by decide +kernel
theorem dX8_next_46 : decode cX8_next 46 = .ok (.invokevirtual 215, 3) := by decide +kernel
theorem dX8_next_49 : decode cX8_next 49 = .ok (.ifCond .eq 10, 3) := by decide +kernel
theorem dX8_next_52 : decode cX8_next 52 = .ok (.aload_n 0, 1) := by decide +kernel
theorem dX8_next_53 : decode cX8_next 53 = .ok (.bipush (-2), 2) := by decide +kernel
theorem dX8_next_55 : decode cX8_next 55 = .ok (.invokevirtual 96, 3) := by decide +kernel
theorem dX8_next_58 : decode cX8_next 58 = .ok (.ireturn, 1) := by decide +kernel
theorem dX8_next_59 : decode cX8_next 59 = .ok (.iload_n 3, 1) := by decide +kernel
theorem dX8_next_60 : decode cX8_next 60 = .ok (.ifCond .ne 28, 3) := by decide +kernel
theorem dX8_next_63 : decode cX8_next 63 = .ok (.aload_n 0, 1) := by decide +kernel
theorem dX8_next_64 : decode cX8_next 64 = .ok (.iload 4, 2) := by decide +kernel
theorem dX8_next_66 : decode cX8_next 66 = .ok (.iconst 2, 1) := by decide +kernel
theorem dX8_next_67 : decode cX8_next 67 = .ok (.if_icmp .ne 7, 3) := by decide +kernel
theorem dX8_next_70 : decode cX8_next 70 = .ok (.iconst 1, 1) := by decide +kernel
theorem dX8_next_71 : decode cX8_next 71 = .ok (.goto 13, 3) := by decide +kernel
theorem dX8_next_74 : decode cX8_next 74 = .ok (.iload 4, 2) := by decide +kernel
theorem dX8_next_76 : decode cX8_next 76 = .ok (.ifCond .ne 7, 3) := by decide +kernel
theorem dX8_next_79 : decode cX8_next 79 = .ok (.iload_n 1, 1) := by decide +kernel
theorem dX8_next_80 : decode cX8_next 80 = .ok (.goto 4, 3) := by decide +kernel
theorem dX8_next_83 : decode cX8_next 83 = .ok (.iload_n 2, 1) := by decide +kernel
theorem dX8_next_84 : decode cX8_next 84 = .ok (.invokevirtual 96, 3) := by decide +kernel
theorem dX8_next_87 : decode cX8_next 87 = .ok (.ireturn, 1) := by decide +kernel
theorem dX8_next_88 : decode cX8_next 88 = .ok (.aload_n 0, 1) := by decide +kernel
theorem dX8_next_89 : decode cX8_next 89 = .ok (.getfield 33, 3) := by decide +kernel
theorem dX8_next_92 : decode cX8_next 92 = .ok (.aload_n 0, 1) := by decide +kernel
theorem dX8_next_93 : decode cX8_next 93 = .ok (.getfield 43, 3) := by decide +kernel
theorem dX8_next_96 : decode cX8_next 96 = .ok (.getfield 108, 3) := by decide +kernel
theorem dX8_next_99 : decode cX8_next 99 = .ok (.invokevirtual 251, 3) := by decide +kernel
theorem dX8_next_102 : decode cX8_next 102 = .ok (.aload_n 0, 1) := by decide +kernel
theorem dX8_next_103 : decode cX8_next 103 = .ok (.getfield 33, 3) := by decide +kernel
theorem dX8_next_106 : decode cX8_next 106 = .ok (.iload_n 1, 1) := by decide +kernel
theorem dX8_next_107 : decode cX8_next 107 = .ok (.iload_n 2, 1) := by decide +kernel
theorem dX8_next_108 : decode cX8_next 108 = .ok (.invokevirtual 247, 3) := by decide +kernel
theorem dX8_next_111 : decode cX8_next 111 = .ok (.aload_n 0, 1) := by decide +kernel
theorem dX8_next_112 : decode cX8_next 112 = .ok (.getfield 43, 3) := by decide +kernel
theorem dX8_next_115 : decode cX8_next 115 = .ok (.getfield 87, 3) := by decide +kernel
theorem dX8_next_118 : decode cX8_next 118 = .ok (.aload_n 0, 1) := by decide +kernel
theorem dX8_next_119 : decode cX8_next 119 = .ok (.getfield 33, 3) := by decide +kernel
theorem dX8_next_122 : decode cX8_next 122 = .ok (.invokevirtual 275, 3) := by decide +kernel
theorem dX8_next_125 : decode cX8_next 125 = .ok (.istore 5, 2) := by decide +kernel
theorem dX8_next_127 : decode cX8_next 127 = .ok (.iconst 1, 1) := by decide +kernel
theorem dX8_next_128 : decode cX8_next 128 = .ok (.istore 6, 2) := by decide +kernel
theorem dX8_next_130 : decode cX8_next 130 = .ok (.iload 6, 2) := by decide +kernel
theorem dX8_next_132 : decode cX8_next 132 = .ok (.iload_n 3, 1) := by decide +kernel
theorem dX8_next_133 : decode cX8_next 133 = .ok (.if_icmp .ge 70, 3) := by decide +kernel
theorem dX8_next_136 : decode cX8_next 136 = .ok (.iload 6, 2) := by decide +kernel
theorem dX8_next_138 : decode cX8_next 138 = .ok (.bipush 24, 2) := by decide +kernel
theorem dX8_next_140 : decode cX8_next 140 = .ok (.if_icmp .ge 63, 3) := by decide +kernel
theorem dX8_next_143 : decode cX8_next 143 = .ok (.iload 5, 2) := by decide +kernel
theorem dX8_next_145 : decode cX8_next 145 = .ok (.ifCond .lt 58, 3) := by decide +kernel
theorem dX8_next_148 : decode cX8_next 148 = .ok (.aload_n 0, 1) := by decide +kernel
theorem dX8_next_149 : decode cX8_next 149 = .ok (.getfield 33, 3) := by decide +kernel
theorem dX8_next_152 : decode cX8_next 152 = .ok (.aload_n 0, 1) := by decide +kernel
theorem dX8_next_153 : decode cX8_next 153 = .ok (.getfield 43, 3) := by decide +kernel
theorem dX8_next_156 : decode cX8_next 156 = .ok (.getfield 87, 3) := by decide +kernel
theorem dX8_next_159 : decode cX8_next 159 = .ok (.getfield 278, 3) := by decide +kernel
theorem dX8_next_162 : decode cX8_next 162 = .ok (.iload 5, 2) := by decide +kernel
theorem dX8_next_164 : decode cX8_next 164 = .ok (.iaload, 1) := by decide +kernel
theorem dX8_next_165 : decode cX8_next 165 = .ok (.aload_n 0, 1) := by decide +kernel
theorem dX8_next_166 : decode cX8_next 166 = .ok (.getfield 43, 3) := by decide +kernel
theorem dX8_next_169 : decode cX8_next 169 = .ok (.getfield 87, 3) := by decide +kernel
theorem dX8_next_172 : decode cX8_next 172 = .ok (.getfield 281, 3) := by decide +kernel
theorem dX8_next_175 : decode cX8_next 175 = .ok (.iload 5, 2) := by decide +kernel
theorem dX8_next_177 : decode cX8_next 177 = .ok (.iaload, 1) := by decide +kernel
theorem dX8_next_178 : decode cX8_next 178 = .ok (.invokevirtual 247, 3) := by decide +kernel
theorem dX8_next_181 : decode cX8_next 181 = .ok (.aload_n 0, 1) := by decide +kernel
theorem dX8_next_182 : decode cX8_next 182 = .ok (.getfield 43, 3) := by decide +kernel
theorem dX8_next_185 : decode cX8_next 185 = .ok (.getfield 87, 3) := by decide +kernel
theorem dX8_next_188 : decode cX8_next 188 = .ok (.aload_n 0, 1) := by decide +kernel
theorem dX8_next_189 : decode cX8_next 189 = .ok (.getfield 33, 3) := by decide +kernel
theorem dX8_next_192 : decode cX8_next 192 = .ok (.invokevirtual 275, 3) := by decide +kernel
theorem dX8_next_195 : decode cX8_next 195 = .ok (.istore 5, 2) := by decide +kernel
theorem dX8_next_197 : decode cX8_next 197 = .ok (.iinc 6 1, 3) := by decide +kernel
theorem dX8_next_200 : decode cX8_next 200 = .ok (.goto (-70), 3) := by decide +kernel
theorem dX8_next_203 : decode cX8_next 203 = .ok (.iload 5, 2) := by decide +kernel
theorem dX8_next_205 : decode cX8_next 205 = .ok (.ifCond .ge 10, 3) := by decide +kernel
theorem dX8_next_208 : decode cX8_next 208 = .ok (.aload_n 0, 1) := by decide +kernel
theorem dX8_next_209 : decode cX8_next 209 = .ok (.bipush (-2), 2) := by decide +kernel
theorem dX8_next_211 : decode cX8_next 211 = .ok (.invokevirtual 96, 3) := by decide +kernel
theorem dX8_next_214 : decode cX8_next 214 = .ok (.ireturn, 1) := by decide +kernel
theorem dX8_next_215 : decode cX8_next 215 = .ok (.aload_n 0, 1) := by decide +kernel
theorem dX8_next_216 : decode cX8_next 216 = .ok (.iload 4, 2) := by decide +kernel
theorem dX8_next_218 : decode cX8_next 218 = .ok (.iconst 2, 1) := by decide +kernel
theorem dX8_next_219 : decode cX8_next 219 = .ok (.if_icmp .ne 7, 3) := by decide +kernel
theorem dX8_next_222 : decode cX8_next 222 = .ok (.iconst 0, 1) := by decide +kernel
theorem dX8_next_223 : decode cX8_next 223 = .ok (.goto 37, 3) := by decide +kernel
theorem dX8_next_226 : decode cX8_next 226 = .ok (.iload 4, 2) := by decide +kernel
theorem dX8_next_228 : decode cX8_next 228 = .ok (.ifCond .ne 19, 3) := by decide +kernel
theorem dX8_next_231 : decode cX8_next 231 = .ok (.aload_n 0, 1) := by decide +kernel
theorem dX8_next_232 : decode cX8_next 232 = .ok (.getfield 43, 3) := by decide +kernel
theorem dX8_next_235 : decode cX8_next 235 = .ok (.getfield 87, 3) := by decide +kernel
theorem dX8_next_238 : decode cX8_next 238 = .ok (.getfield 278, 3) := by decide +kernel
theorem dX8_next_241 : decode cX8_next 241 = .ok (.iload 5, 2) := by decide +kernel
theorem dX8_next_243 : decode cX8_next 243 = .ok (.iaload, 1) := by decide +kernel
theorem dX8_next_244 : decode cX8_next 244 = .ok (.goto 16, 3) := by decide +kernel
theorem dX8_next_247 : decode cX8_next 247 = .ok (.aload_n 0, 1) := by decide +kernel
theorem dX8_next_248 : decode cX8_next 248 = .ok (.getfield 43, 3) := by decide +kernel
theorem dX8_next_251 : decode cX8_next 251 = .ok (.getfield 87, 3) := by decide +kernel
theorem dX8_next_254 : decode cX8_next 254 = .ok (.getfield 281, 3) := by decide +kernel
theorem dX8_next_257 : decode cX8_next 257 = .ok (.iload 5, 2) := by decide +kernel
theorem dX8_next_259 : decode cX8_next 259 = .ok (.iaload, 1) := by decide +kernel
theorem dX8_next_260 : decode cX8_next 260 = .ok (.invokevirtual 96, 3) := by decide +kernel
theorem dX8_next_263 : decode cX8_next 263 = .ok (.ireturn, 1) := by decide +kernel
theorem dX8_without_0 : decode cX8_without 0 = .ok (.aload_n 0, 1) := by decide +kernel
theorem dX8_without_1 : decode cX8_without 1 = .ok (.iload_n 1, 1) := by decide +kernel
theorem dX8_without_2 : decode cX8_without 2 = .ok (.invokevirtual 169, 3) := by decide +kernel
theorem dX8_without_5 : decode cX8_without 5 = .ok (.ifCond .eq 12, 3) := by decide +kernel
theorem dX8_without_8 : decode cX8_without 8 = .ok (.iload_n 2, 1) := by decide +kernel
theorem dX8_without_9 : decode cX8_without 9 = .ok (.ifCond .lt 8, 3) := by decide +kernel
theorem dX8_without_12 : decode cX8_without 12 = .ok (.iload_n 2, 1) := by decide +kernel
theorem dX8_without_13 : decode cX8_without 13 = .ok (.iconst 1, 1) := by decide +kernel
theorem dX8_without_14 : decode cX8_without 14 = .ok (.if_icmp .le 9, 3) := by decide +kernel
theorem dX8_without_17 : decode cX8_without 17 = .ok (.aload_n 0, 1) := by decide +kernel
theorem dX8_without_18 : decode cX8_without 18 = .ok (.iconst 1, 1) := by decide +kernel
theorem dX8_without_19 : decode cX8_without 19 = .ok (.invokevirtual 61, 3) := by decide +kernel
theorem dX8_without_22 : decode cX8_without 22 = .ok (.ireturn, 1) := by decide +kernel
theorem dX8_without_23 : decode cX8_without 23 = .ok (.aload_n 0, 1) := by decide +kernel
theorem dX8_without_24 : decode cX8_without 24 = .ok (.getfield 43, 3) := by decide +kernel
theorem dX8_without_27 : decode cX8_without 27 = .ok (.aload_n 0, 1) := by decide +kernel
theorem dX8_without_28 : decode cX8_without 28 = .ok (.getfield 43, 3) := by decide +kernel
theorem dX8_without_31 : decode cX8_without 31 = .ok (.invokevirtual 178, 3) := by decide +kernel
theorem dX8_without_34 : decode cX8_without 34 = .ok (.iconst 1, 1) := by decide +kernel
theorem dX8_without_35 : decode cX8_without 35 = .ok (.iload_n 1, 1) := by decide +kernel
theorem dX8_without_36 : decode cX8_without 36 = .ok (.ishl, 1) := by decide +kernel
theorem dX8_without_37 : decode cX8_without 37 = .ok (.iconst (-1), 1) := by decide +kernel
theorem dX8_without_38 : decode cX8_without 38 = .ok (.ixor, 1) := by decide +kernel
theorem dX8_without_39 : decode cX8_without 39 = .ok (.iand, 1) := by decide +kernel
theorem dX8_without_40 : decode cX8_without 40 = .ok (.aload_n 0, 1) := by decide +kernel
theorem dX8_without_41 : decode cX8_without 41 = .ok (.getfield 33, 3) := by decide +kernel
theorem dX8_without_44 : decode cX8_without 44 = .ok (.invokevirtual 232, 3) := by decide +kernel
theorem dX8_without_47 : decode cX8_without 47 = .ok (.aload_n 0, 1) := by decide +kernel
theorem dX8_without_48 : decode cX8_without 48 = .ok (.iload_n 2, 1) := by decide +kernel
theorem dX8_without_49 : decode cX8_without 49 = .ok (.ifCond .ne 13, 3) := by decide +kernel
theorem dX8_without_52 : decode cX8_without 52 = .ok (.aload_n 0, 1) := by decide +kernel
theorem dX8_without_53 : decode cX8_without 53 = .ok (.getfield 33, 3) := by decide +kernel
theorem dX8_without_56 : decode cX8_without 56 = .ok (.getfield 111, 3) := by decide +kernel
theorem dX8_without_59 : decode cX8_without 59 = .ok (.goto 14, 3) := by decide +kernel
theorem dX8_without_62 : decode cX8_without 62 = .ok (.aload_n 0, 1) := by decide +kernel
theorem dX8_without_63 : decode cX8_without 63 = .ok (.getfield 43, 3) := by decide +kernel
theorem dX8_without_66 : decode cX8_without 66 = .ok (.aload_n 0, 1) := by decide +kernel
theorem dX8_without_67 : decode cX8_without 67 = .ok (.getfield 33, 3) := by decide +kernel
theorem dX8_without_70 : decode cX8_without 70 = .ok (.invokevirtual 125, 3) := by decide +kernel
theorem dX8_without_73 : decode cX8_without 73 = .ok (.invokevirtual 96, 3) := by decide +kernel
theorem dX8_without_76 : decode cX8_without 76 = .ok (.ireturn, 1) := by decide +kernel
theorem dX8_free_0 : decode cX8_free 0 = .ok (.iconst 0, 1) := by decide +kernel
theorem dX8_free_1 : decode cX8_free 1 = .ok (.istore_n 1, 1) := by decide +kernel
theorem dX8_free_2 : decode cX8_free 2 = .ok (.iconst 0, 1) := by decide +kernel
theorem dX8_free_3 : decode cX8_free 3 = .ok (.istore_n 2, 1) := by decide +kernel
theorem dX8_free_4 : decode cX8_free 4 = .ok (.iload_n 2, 1) := by decide +kernel
theorem dX8_free_5 : decode cX8_free 5 = .ok (.aload_n 0, 1) := by decide +kernel
theorem dX8_free_6 : decode cX8_free 6 = .ok (.getfield 43, 3) := by decide +kernel
theorem dX8_free_9 : decode cX8_free 9 = .ok (.getfield 87, 3) := by decide +kernel
theorem dX8_free_12 : decode cX8_free 12 = .ok (.getfield 91, 3) := by decide +kernel
theorem dX8_free_15 : decode cX8_free 15 = .ok (.if_icmp .ge 100, 3) := by decide +kernel
theorem dX8_free_18 : decode cX8_free 18 = .ok (.iload_n 2, 1) := by decide +kernel
theorem dX8_free_19 : decode cX8_free 19 = .ok (.iconst 1, 1) := by decide +kernel
theorem dX8_free_20 : decode cX8_free 20 = .ok (.iadd, 1) := by decide +kernel
theorem dX8_free_21 : decode cX8_free 21 = .ok (.istore_n 3, 1) := by decide +kernel
theorem dX8_free_22 : decode cX8_free 22 = .ok (.iload_n 3, 1) := by decide +kernel
theorem dX8_free_23 : decode cX8_free 23 = .ok (.aload_n 0, 1) := by decide +kernel
theorem dX8_free_24 : decode cX8_free 24 = .ok (.getfield 43, 3) := by decide +kernel
theorem dX8_free_27 : decode cX8_free 27 = .ok (.getfield 87, 3) := by decide +kernel
theorem dX8_free_30 : decode cX8_free 30 = .ok (.getfield 91, 3) := by decide +kernel
theorem dX8_free_33 : decode cX8_free 33 = .ok (.if_icmp .ge 76, 3) := by decide +kernel
theorem dX8_free_36 : decode cX8_free 36 = .ok (.aload_n 0, 1) := by decide +kernel
theorem dX8_free_37 : decode cX8_free 37 = .ok (.getfield 43, 3) := by decide +kernel
theorem dX8_free_40 : decode cX8_free 40 = .ok (.getfield 108, 3) := by decide +kernel
theorem dX8_free_43 : decode cX8_free 43 = .ok (.getfield 147, 3) := by decide +kernel
theorem dX8_free_46 : decode cX8_free 46 = .ok (.iload_n 2, 1) := by decide +kernel
theorem dX8_free_47 : decode cX8_free 47 = .ok (.iaload, 1) := by decide +kernel
theorem dX8_free_48 : decode cX8_free 48 = .ok (.iload_n 2, 1) := by decide +kernel
theorem dX8_free_49 : decode cX8_free 49 = .ok (.if_icmp .ne 54, 3) := by decide +kernel
theorem dX8_free_52 : decode cX8_free 52 = .ok (.aload_n 0, 1) := by decide +kernel
theorem dX8_free_53 : decode cX8_free 53 = .ok (.getfield 43, 3) := by decide +kernel
theorem dX8_free_56 : decode cX8_free 56 = .ok (.getfield 108, 3) := by decide +kernel
theorem dX8_free_59 : decode cX8_free 59 = .ok (.getfield 147, 3) := by decide +kernel
theorem dX8_free_62 : decode cX8_free 62 = .ok (.iload_n 3, 1) := by decide +kernel
theorem dX8_free_63 : decode cX8_free 63 = .ok (.iaload, 1) := by decide +kernel
theorem dX8_free_64 : decode cX8_free 64 = .ok (.iload_n 3, 1) := by decide +kernel
theorem dX8_free_65 : decode cX8_free 65 = .ok (.if_icmp .ne 38, 3) := by decide +kernel
theorem dX8_free_68 : decode cX8_free 68 = .ok (.aload_n 0, 1) := by decide +kernel
theorem dX8_free_69 : decode cX8_free 69 = .ok (.iload_n 2, 1) := by decide +kernel
theorem dX8_free_70 : decode cX8_free 70 = .ok (.iload_n 3, 1) := by decide +kernel
theorem dX8_free_71 : decode cX8_free 71 = .ok (.invokevirtual 284, 3) := by decide +kernel
theorem dX8_free_74 : decode cX8_free 74 = .ok (.ifCond .eq 29, 3) := by decide +kernel
theorem dX8_free_77 : decode cX8_free 77 = .ok (.iload_n 1, 1) := by decide +kernel
theorem dX8_free_78 : decode cX8_free 78 = .ok (.aload_n 0, 1) := by decide +kernel
theorem dX8_free_79 : decode cX8_free 79 = .ok (.getfield 43, 3) := by decide +kernel
theorem dX8_free_82 : decode cX8_free 82 = .ok (.getfield 108, 3) := by decide +kernel
theorem dX8_free_85 : decode cX8_free 85 = .ok (.iload_n 2, 1) := by decide +kernel
theorem dX8_free_86 : decode cX8_free 86 = .ok (.invokevirtual 150, 3) := by decide +kernel
theorem dX8_free_89 : decode cX8_free 89 = .ok (.aload_n 0, 1) := by decide +kernel
theorem dX8_free_90 : decode cX8_free 90 = .ok (.getfield 43, 3) := by decide +kernel
theorem dX8_free_93 : decode cX8_free 93 = .ok (.getfield 108, 3) := by decide +kernel
theorem dX8_free_96 : decode cX8_free 96 = .ok (.iload_n 3, 1) := by decide +kernel
theorem dX8_free_97 : decode cX8_free 97 = .ok (.invokevirtual 150, 3) := by decide +kernel
theorem dX8_free_100 : decode cX8_free 100 = .ok (.imul, 1) := by decide +kernel
theorem dX8_free_101 : decode cX8_free 101 = .ok (.iadd, 1) := by decide +kernel
theorem dX8_free_102 : decode cX8_free 102 = .ok (.istore_n 1, 1) := by decide +kernel
theorem dX8_free_103 : decode cX8_free 103 = .ok (.iinc 3 1, 3) := by decide +kernel
theorem dX8_free_106 : decode cX8_free 106 = .ok (.goto (-84), 3) := by decide +kernel
theorem dX8_free_109 : decode cX8_free 109 = .ok (.iinc 2 1, 3) := by decide +kernel
theorem dX8_free_112 : decode cX8_free 112 = .ok (.goto (-108), 3) := by decide +kernel
theorem dX8_free_115 : decode cX8_free 115 = .ok (.iload_n 1, 1) := by decide +kernel
theorem dX8_free_116 : decode cX8_free 116 = .ok (.ireturn, 1) := by decide +kernel
theorem dX8_join_0 : decode cX8_join 0 = .ok (.aload_n 0, 1) := by decide +kernel
theorem dX8_join_1 : decode cX8_join 1 = .ok (.iload_n 1, 1) := by decide +kernel
theorem dX8_join_2 : decode cX8_join 2 = .ok (.invokevirtual 140, 3) := by decide +kernel
theorem dX8_join_5 : decode cX8_join 5 = .ok (.ifCond .eq 11, 3) := by decide +kernel
theorem dX8_join_8 : decode cX8_join 8 = .ok (.aload_n 0, 1) := by decide +kernel
theorem dX8_join_9 : decode cX8_join 9 = .ok (.iload_n 2, 1) := by decide +kernel
theorem dX8_join_10 : decode cX8_join 10 = .ok (.invokevirtual 140, 3) := by decide +kernel
theorem dX8_join_13 : decode cX8_join 13 = .ok (.ifCond .ne 9, 3) := by decide +kernel
theorem dX8_join_16 : decode cX8_join 16 = .ok (.aload_n 0, 1) := by decide +kernel
theorem dX8_join_17 : decode cX8_join 17 = .ok (.iconst 1, 1) := by decide +kernel
theorem dX8_join_18 : decode cX8_join 18 = .ok (.invokevirtual 61, 3) := by decide +kernel
theorem dX8_join_21 : decode cX8_join 21 = .ok (.ireturn, 1) := by decide +kernel
theorem dX8_join_22 : decode cX8_join 22 = .ok (.aload_n 0, 1) := by decide +kernel
theorem dX8_join_23 : decode cX8_join 23 = .ok (.getfield 43, 3) := by decide +kernel
theorem dX8_join_26 : decode cX8_join 26 = .ok (.getfield 102, 3) := by decide +kernel
theorem dX8_join_29 : decode cX8_join 29 = .ok (.bipush 12, 2) := by decide +kernel
theorem dX8_join_31 : decode cX8_join 31 = .ok (.if_icmp .lt 9, 3) := by decide +kernel
theorem dX8_join_34 : decode cX8_join 34 = .ok (.aload_n 0, 1) := by decide +kernel
theorem dX8_join_35 : decode cX8_join 35 = .ok (.iconst 3, 1) := by decide +kernel
theorem dX8_join_36 : decode cX8_join 36 = .ok (.invokevirtual 61, 3) := by decide +kernel
theorem dX8_join_39 : decode cX8_join 39 = .ok (.ireturn, 1) := by decide +kernel
theorem dX8_join_40 : decode cX8_join 40 = .ok (.aload_n 0, 1) := by decide +kernel
theorem dX8_join_41 : decode cX8_join 41 = .ok (.getfield 43, 3) := by decide +kernel
theorem dX8_join_44 : decode cX8_join 44 = .ok (.iconst 0, 1) := by decide +kernel
theorem dX8_join_45 : decode cX8_join 45 = .ok (.invokevirtual 287, 3) := by decide +kernel
theorem dX8_join_48 : decode cX8_join 48 = .ok (.aload_n 0, 1) := by decide +kernel
theorem dX8_join_49 : decode cX8_join 49 = .ok (.getfield 43, 3) := by decide +kernel
theorem dX8_join_52 : decode cX8_join 52 = .ok (.iload_n 1, 1) := by decide +kernel
theorem dX8_join_53 : decode cX8_join 53 = .ok (.iload_n 2, 1) := by decide +kernel
theorem dX8_join_54 : decode cX8_join 54 = .ok (.invokevirtual 290, 3) := by decide +kernel
theorem dX8_join_57 : decode cX8_join 57 = .ok (.aload_n 0, 1) := by decide +kernel
theorem dX8_join_58 : decode cX8_join 58 = .ok (.getfield 19, 3) := by decide +kernel
theorem dX8_join_61 : decode cX8_join 61 = .ok (.iconst 0, 1) := by decide +kernel
theorem dX8_join_62 : decode cX8_join 62 = .ok (.putfield 83, 3) := by decide +kernel
theorem dX8_join_65 : decode cX8_join 65 = .ok (.aload_n 0, 1) := by decide +kernel
theorem dX8_join_66 : decode cX8_join 66 = .ok (.aload_n 0, 1) := by decide +kernel
theorem dX8_join_67 : decode cX8_join 67 = .ok (.getfield 43, 3) := by decide +kernel
theorem dX8_join_70 : decode cX8_join 70 = .ok (.getfield 108, 3) := by decide +kernel
theorem dX8_join_73 : decode cX8_join 73 = .ok (.getfield 111, 3) := by decide +kernel
theorem dX8_join_76 : decode cX8_join 76 = .ok (.invokevirtual 96, 3) := by decide +kernel
theorem dX8_join_79 : decode cX8_join 79 = .ok (.ireturn, 1) := by decide +kernel
theorem dX8_part_0 : decode cX8_part 0 = .ok (.aload_n 0, 1) := by decide +kernel
theorem dX8_part_1 : decode cX8_part 1 = .ok (.iload_n 1, 1) := by decide +kernel
theorem dX8_part_2 : decode cX8_part 2 = .ok (.invokevirtual 140, 3) := by decide +kernel
theorem dX8_part_5 : decode cX8_part 5 = .ok (.ifCond .eq 11, 3) := by decide +kernel
theorem dX8_part_8 : decode cX8_part 8 = .ok (.aload_n 0, 1) := by decide +kernel
theorem dX8_part_9 : decode cX8_part 9 = .ok (.iload_n 2, 1) := by decide +kernel
theorem dX8_part_10 : decode cX8_part 10 = .ok (.invokevirtual 140, 3) := by decide +kernel
theorem dX8_part_13 : decode cX8_part 13 = .ok (.ifCond .ne 9, 3) := by decide +kernel
theorem dX8_part_16 : decode cX8_part 16 = .ok (.aload_n 0, 1) := by decide +kernel
theorem dX8_part_17 : decode cX8_part 17 = .ok (.iconst 1, 1) := by decide +kernel
theorem dX8_part_18 : decode cX8_part 18 = .ok (.invokevirtual 61, 3) := by decide +kernel
theorem dX8_part_21 : decode cX8_part 21 = .ok (.ireturn, 1) := by decide +kernel
theorem dX8_part_22 : decode cX8_part 22 = .ok (.aload_n 0, 1) := by decide +kernel
theorem dX8_part_23 : decode cX8_part 23 = .ok (.getfield 43, 3) := by decide +kernel
theorem dX8_part_26 : decode cX8_part 26 = .ok (.getfield 105, 3) := by decide +kernel
theorem dX8_part_29 : decode cX8_part 29 = .ok (.bipush 8, 2) := by decide +kernel
theorem dX8_part_31 : decode cX8_part 31 = .ok (.if_icmp .lt 9, 3) := by decide +kernel
theorem dX8_part_34 : decode cX8_part 34 = .ok (.aload_n 0, 1) := by decide +kernel
theorem dX8_part_35 : decode cX8_part 35 = .ok (.iconst 3, 1) := by decide +kernel
theorem dX8_part_36 : decode cX8_part 36 = .ok (.invokevirtual 61, 3) := by decide +kernel
theorem dX8_part_39 : decode cX8_part 39 = .ok (.ireturn, 1) := by decide +kernel
theorem dX8_part_40 : decode cX8_part 40 = .ok (.aload_n 0, 1) := by decide +kernel
theorem dX8_part_41 : decode cX8_part 41 = .ok (.getfield 43, 3) := by decide +kernel
theorem dX8_part_44 : decode cX8_part 44 = .ok (.iconst 1, 1) := by decide +kernel
theorem dX8_part_45 : decode cX8_part 45 = .ok (.invokevirtual 287, 3) := by decide +kernel
theorem dX8_part_48 : decode cX8_part 48 = .ok (.aload_n 0, 1) := by decide +kernel
theorem dX8_part_49 : decode cX8_part 49 = .ok (.getfield 43, 3) := by decide +kernel
theorem dX8_part_52 : decode cX8_part 52 = .ok (.iload_n 1, 1) := by decide +kernel
theorem dX8_part_53 : decode cX8_part 53 = .ok (.iload_n 2, 1) := by decide +kernel
theorem dX8_part_54 : decode cX8_part 54 = .ok (.invokevirtual 293, 3) := by decide +kernel
theorem dX8_part_57 : decode cX8_part 57 = .ok (.aload_n 0, 1) := by decide +kernel
theorem dX8_part_58 : decode cX8_part 58 = .ok (.aload_n 0, 1) := by decide +kernel
theorem dX8_part_59 : decode cX8_part 59 = .ok (.aload_n 0, 1) := by decide +kernel
theorem dX8_part_60 : decode cX8_part 60 = .ok (.getfield 43, 3) := by decide +kernel
theorem dX8_part_63 : decode cX8_part 63 = .ok (.getfield 108, 3) := by decide +kernel
theorem dX8_part_66 : decode cX8_part 66 = .ok (.iload_n 1, 1) := by decide +kernel
theorem dX8_part_67 : decode cX8_part 67 = .ok (.iload_n 2, 1) := by decide +kernel
theorem dX8_part_68 : decode cX8_part 68 = .ok (.invokevirtual 215, 3) := by decide +kernel
theorem dX8_part_71 : decode cX8_part 71 = .ok (.invokevirtual 186, 3) := by decide +kernel
theorem dX8_part_74 : decode cX8_part 74 = .ok (.invokevirtual 96, 3) := by decide +kernel
theorem dX8_part_77 : decode cX8_part 77 = .ok (.ireturn, 1) := by decide +kernel
theorem dX8_make_0 : decode cX8_make 0 = .ok (.iload_n 1, 1) := by decide +kernel
theorem dX8_make_1 : decode cX8_make 1 = .ok (.ifCond .lt 17, 3) := by decide +kernel
theorem dX8_make_4 : decode cX8_make 4 = .ok (.iload_n 1, 1) := by decide +kernel
theorem dX8_make_5 : decode cX8_make 5 = .ok (.aload_n 0, 1) := by decide +kernel
theorem dX8_make_6 : decode cX8_make 6 = .ok (.getfield 43, 3) := by decide +kernel
theorem dX8_make_9 : decode cX8_make 9 = .ok (.getfield 87, 3) := by decide +kernel
theorem dX8_make_12 : decode cX8_make 12 = .ok (.getfield 99, 3) := by decide +kernel
theorem dX8_make_15 : decode cX8_make 15 = .ok (.if_icmp .lt 9, 3) := by decide +kernel
theorem dX8_make_18 : decode cX8_make 18 = .ok (.aload_n 0, 1) := by decide +kernel
theorem dX8_make_19 : decode cX8_make 19 = .ok (.iconst 1, 1) := by decide +kernel
theorem dX8_make_20 : decode cX8_make 20 = .ok (.invokevirtual 61, 3) := by decide +kernel
theorem dX8_make_23 : decode cX8_make 23 = .ok (.ireturn, 1) := by decide +kernel
theorem dX8_make_24 : decode cX8_make 24 = .ok (.aload_n 0, 1) := by decide +kernel
theorem dX8_make_25 : decode cX8_make 25 = .ok (.getfield 43, 3) := by decide +kernel
theorem dX8_make_28 : decode cX8_make 28 = .ok (.getfield 87, 3) := by decide +kernel
theorem dX8_make_31 : decode cX8_make 31 = .ok (.getfield 129, 3) := by decide +kernel
theorem dX8_make_34 : decode cX8_make 34 = .ok (.iload_n 1, 1) := by decide +kernel
theorem dX8_make_35 : decode cX8_make 35 = .ok (.iaload, 1) := by decide +kernel
theorem dX8_make_36 : decode cX8_make 36 = .ok (.istore 5, 2) := by decide +kernel
theorem dX8_make_38 : decode cX8_make 38 = .ok (.iload 5, 2) := by decide +kernel
theorem dX8_make_40 : decode cX8_make 40 = .ok (.ifCond .le 11, 3) := by decide +kernel
theorem dX8_make_43 : decode cX8_make 43 = .ok (.aload_n 0, 1) := by decide +kernel
theorem dX8_make_44 : decode cX8_make 44 = .ok (.iload_n 2, 1) := by decide +kernel
theorem dX8_make_45 : decode cX8_make 45 = .ok (.invokevirtual 140, 3) := by decide +kernel
theorem dX8_make_48 : decode cX8_make 48 = .ok (.ifCond .eq 32, 3) := by decide +kernel
theorem dX8_make_51 : decode cX8_make 51 = .ok (.iload 5, 2) := by decide +kernel
theorem dX8_make_53 : decode cX8_make 53 = .ok (.iconst 1, 1) := by decide +kernel
theorem dX8_make_54 : decode cX8_make 54 = .ok (.if_icmp .le 11, 3) := by decide +kernel
theorem dX8_make_57 : decode cX8_make 57 = .ok (.aload_n 0, 1) := by decide +kernel
theorem dX8_make_58 : decode cX8_make 58 = .ok (.iload_n 3, 1) := by decide +kernel
theorem dX8_make_59 : decode cX8_make 59 = .ok (.invokevirtual 140, 3) := by decide +kernel
theorem dX8_make_62 : decode cX8_make 62 = .ok (.ifCond .eq 18, 3) := by decide +kernel
theorem dX8_make_65 : decode cX8_make 65 = .ok (.iload 5, 2) := by decide +kernel
theorem dX8_make_67 : decode cX8_make 67 = .ok (.iconst 2, 1) := by decide +kernel
theorem dX8_make_68 : decode cX8_make 68 = .ok (.if_icmp .le 18, 3) := by decide +kernel
theorem dX8_make_71 : decode cX8_make 71 = .ok (.aload_n 0, 1) := by decide +kernel
theorem dX8_make_72 : decode cX8_make 72 = .ok (.iload 4, 2) := by decide +kernel
theorem dX8_make_74 : decode cX8_make 74 = .ok (.invokevirtual 140, 3) := by decide +kernel
theorem dX8_make_77 : decode cX8_make 77 = .ok (.ifCond .ne 9, 3) := by decide +kernel
theorem dX8_make_80 : decode cX8_make 80 = .ok (.aload_n 0, 1) := by decide +kernel
theorem dX8_make_81 : decode cX8_make 81 = .ok (.iconst 1, 1) := by decide +kernel
theorem dX8_make_82 : decode cX8_make 82 = .ok (.invokevirtual 61, 3) := by decide +kernel
theorem dX8_make_85 : decode cX8_make 85 = .ok (.ireturn, 1) := by decide +kernel
theorem dX8_make_86 : decode cX8_make 86 = .ok (.aload_n 0, 1) := by decide +kernel
theorem dX8_make_87 : decode cX8_make 87 = .ok (.getfield 43, 3) := by decide +kernel
theorem dX8_make_90 : decode cX8_make 90 = .ok (.getfield 87, 3) := by decide +kernel
theorem dX8_make_93 : decode cX8_make 93 = .ok (.getfield 91, 3) := by decide +kernel
theorem dX8_make_96 : decode cX8_make 96 = .ok (.bipush 24, 2) := by decide +kernel
theorem dX8_make_98 : decode cX8_make 98 = .ok (.if_icmp .lt 9, 3) := by decide +kernel
theorem dX8_make_101 : decode cX8_make 101 = .ok (.aload_n 0, 1) := by decide +kernel
theorem dX8_make_102 : decode cX8_make 102 = .ok (.iconst 3, 1) := by decide +kernel
theorem dX8_make_103 : decode cX8_make 103 = .ok (.invokevirtual 61, 3) := by decide +kernel
theorem dX8_make_106 : decode cX8_make 106 = .ok (.ireturn, 1) := by decide +kernel
theorem dX8_make_107 : decode cX8_make 107 = .ok (.aload_n 0, 1) := by decide +kernel
theorem dX8_make_108 : decode cX8_make 108 = .ok (.getfield 43, 3) := by decide +kernel
theorem dX8_make_111 : decode cX8_make 111 = .ok (.iconst 2, 1) := by decide +kernel
theorem dX8_make_112 : decode cX8_make 112 = .ok (.invokevirtual 287, 3) := by decide +kernel
theorem dX8_make_115 : decode cX8_make 115 = .ok (.aload_n 0, 1) := by decide +kernel
theorem dX8_make_116 : decode cX8_make 116 = .ok (.getfield 43, 3) := by decide +kernel
theorem dX8_make_119 : decode cX8_make 119 = .ok (.iconst 0, 1) := by decide +kernel
theorem dX8_make_120 : decode cX8_make 120 = .ok (.iload_n 1, 1) := by decide +kernel
theorem dX8_make_121 : decode cX8_make 121 = .ok (.iload_n 2, 1) := by decide +kernel
theorem dX8_make_122 : decode cX8_make 122 = .ok (.iload_n 3, 1) := by decide +kernel
theorem dX8_make_123 : decode cX8_make 123 = .ok (.iload 4, 2) := by decide +kernel
theorem dX8_make_125 : decode cX8_make 125 = .ok (.invokevirtual 296, 3) := by decide +kernel
theorem dX8_make_128 : decode cX8_make 128 = .ok (.aload_n 0, 1) := by decide +kernel
theorem dX8_make_129 : decode cX8_make 129 = .ok (.getfield 19, 3) := by decide +kernel
theorem dX8_make_132 : decode cX8_make 132 = .ok (.iconst 0, 1) := by decide +kernel
theorem dX8_make_133 : decode cX8_make 133 = .ok (.putfield 83, 3) := by decide +kernel
theorem dX8_make_136 : decode cX8_make 136 = .ok (.aload_n 0, 1) := by decide +kernel
theorem dX8_make_137 : decode cX8_make 137 = .ok (.aload_n 0, 1) := by decide +kernel
theorem dX8_make_138 : decode cX8_make 138 = .ok (.getfield 43, 3) := by decide +kernel
theorem dX8_make_141 : decode cX8_make 141 = .ok (.getfield 87, 3) := by decide +kernel
theorem dX8_make_144 : decode cX8_make 144 = .ok (.getfield 91, 3) := by decide +kernel
theorem dX8_make_147 : decode cX8_make 147 = .ok (.iconst 1, 1) := by decide +kernel
theorem dX8_make_148 : decode cX8_make 148 = .ok (.isub, 1) := by decide +kernel
theorem dX8_make_149 : decode cX8_make 149 = .ok (.invokevirtual 96, 3) := by decide +kernel
theorem dX8_make_152 : decode cX8_make 152 = .ok (.ireturn, 1) := by decide +kernel
theorem dX8_undo_0 : decode cX8_undo 0 = .ok (.aload_n 0, 1) := by decide +kernel
theorem dX8_undo_1 : decode cX8_undo 1 = .ok (.getfield 43, 3) := by decide +kernel
theorem dX8_undo_4 : decode cX8_undo 4 = .ok (.getfield 113, 3) := by decide +kernel
theorem dX8_undo_7 : decode cX8_undo 7 = .ok (.ifCond .ne 5, 3) := by decide +kernel
theorem dX8_undo_10 : decode cX8_undo 10 = .ok (.iconst 0, 1) := by decide +kernel
theorem dX8_undo_11 : decode cX8_undo 11 = .ok (.ireturn, 1) := by decide +kernel
theorem dX8_undo_12 : decode cX8_undo 12 = .ok (.aload_n 0, 1) := by decide +kernel
theorem dX8_undo_13 : decode cX8_undo 13 = .ok (.getfield 43, 3) := by decide +kernel
theorem dX8_undo_16 : decode cX8_undo 16 = .ok (.invokevirtual 300, 3) := by decide +kernel
theorem dX8_undo_19 : decode cX8_undo 19 = .ok (.aload_n 0, 1) := by decide +kernel
theorem dX8_undo_20 : decode cX8_undo 20 = .ok (.getfield 19, 3) := by decide +kernel
theorem dX8_undo_23 : decode cX8_undo 23 = .ok (.iconst 0, 1) := by decide +kernel
theorem dX8_undo_24 : decode cX8_undo 24 = .ok (.putfield 83, 3) := by decide +kernel
theorem dX8_undo_27 : decode cX8_undo 27 = .ok (.iconst 1, 1) := by decide +kernel
theorem dX8_undo_28 : decode cX8_undo 28 = .ok (.ireturn, 1) := by decide +kernel
theorem dX8_named_0 : decode cX8_named 0 = .ok (.iload_n 1, 1) := by decide +kernel
theorem dX8_named_1 : decode cX8_named 1 = .ok (.ifCond .lt 14, 3) := by decide +kernel
theorem dX8_named_4 : decode cX8_named 4 = .ok (.iload_n 1, 1) := by decide +kernel
theorem dX8_named_5 : decode cX8_named 5 = .ok (.aload_n 0, 1) := by decide +kernel
theorem dX8_named_6 : decode cX8_named 6 = .ok (.getfield 12, 3) := by decide +kernel
theorem dX8_named_9 : decode cX8_named 9 = .ok (.getfield 54, 3) := by decide +kernel
theorem dX8_named_12 : decode cX8_named 12 = .ok (.if_icmp .le 14, 3) := by decide +kernel
theorem dX8_named_15 : decode cX8_named 15 = .ok (.new 303, 3) := by decide +kernel
theorem dX8_named_18 : decode cX8_named 18 = .ok (.dup, 1) := by decide +kernel
theorem dX8_named_19 : decode cX8_named 19 = .ok (.ldc_w 305, 3) := by decide +kernel
theorem dX8_named_22 : decode cX8_named 22 = .ok (.invokespecial 307, 3) := by decide +kernel
theorem dX8_named_25 : decode cX8_named 25 = .ok (.athrow, 1) := by decide +kernel
theorem dX8_named_26 : decode cX8_named 26 = .ok (.aload_n 0, 1) := by decide +kernel
theorem dX8_named_27 : decode cX8_named 27 = .ok (.getfield 43, 3) := by decide +kernel
theorem dX8_named_30 : decode cX8_named 30 = .ok (.getfield 87, 3) := by decide +kernel
theorem dX8_named_33 : decode cX8_named 33 = .ok (.aload_n 0, 1) := by decide +kernel
theorem dX8_named_34 : decode cX8_named 34 = .ok (.getfield 12, 3) := by decide +kernel
theorem dX8_named_37 : decode cX8_named 37 = .ok (.iload_n 1, 1) := by decide +kernel
theorem dX8_named_38 : decode cX8_named 38 = .ok (.invokevirtual 310, 3) := by decide +kernel
theorem dX8_named_41 : decode cX8_named 41 = .ok (.invokevirtual 313, 3) := by decide +kernel
theorem dX8_named_44 : decode cX8_named 44 = .ok (.istore_n 2, 1) := by decide +kernel
theorem dX8_named_45 : decode cX8_named 45 = .ok (.iload_n 2, 1) := by decide +kernel
theorem dX8_named_46 : decode cX8_named 46 = .ok (.ifCond .ge 14, 3) := by decide +kernel
theorem dX8_named_49 : decode cX8_named 49 = .ok (.new 303, 3) := by decide +kernel
theorem dX8_named_52 : decode cX8_named 52 = .ok (.dup, 1) := by decide +kernel
theorem dX8_named_53 : decode cX8_named 53 = .ok (.ldc_w 316, 3) := by decide +kernel
theorem dX8_named_56 : decode cX8_named 56 = .ok (.invokespecial 307, 3) := by decide +kernel
theorem dX8_named_59 : decode cX8_named 59 = .ok (.athrow, 1) := by decide +kernel
theorem dX8_named_60 : decode cX8_named 60 = .ok (.iload_n 2, 1) := by decide +kernel
theorem dX8_named_61 : decode cX8_named 61 = .ok (.ireturn, 1) := by decide +kernel
theorem dX8_size_0 : decode cX8_size 0 = .ok (.aload_n 0, 1) := by decide +kernel
theorem dX8_size_1 : decode cX8_size 1 = .ok (.getfield 12, 3) := by decide +kernel
theorem dX8_size_4 : decode cX8_size 4 = .ok (.getfield 54, 3) := by decide +kernel
theorem dX8_size_7 : decode cX8_size 7 = .ok (.ireturn, 1) := by decide +kernel
theorem dX8_trouble_0 : decode cX8_trouble 0 = .ok (.aload_n 0, 1) := by decide +kernel
theorem dX8_trouble_1 : decode cX8_trouble 1 = .ok (.getfield 318, 3) := by decide +kernel
theorem dX8_trouble_4 : decode cX8_trouble 4 = .ok (.ireturn, 1) := by decide +kernel
theorem dX8_answer_0 : decode cX8_answer 0 = .ok (.aload_n 0, 1) := by decide +kernel
theorem dX8_answer_1 : decode cX8_answer 1 = .ok (.iconst 0, 1) := by decide +kernel
theorem dX8_answer_2 : decode cX8_answer 2 = .ok (.putfield 318, 3) := by decide +kernel
theorem dX8_answer_5 : decode cX8_answer 5 = .ok (.aload_n 0, 1) := by decide +kernel
theorem dX8_answer_6 : decode cX8_answer 6 = .ok (.iconst (-1), 1) := by decide +kernel
theorem dX8_answer_7 : decode cX8_answer 7 = .ok (.putfield 50, 3) := by decide +kernel
theorem dX8_answer_10 : decode cX8_answer 10 = .ok (.iload_n 1, 1) := by decide +kernel
theorem dX8_answer_11 : decode cX8_answer 11 = .ok (.ireturn, 1) := by decide +kernel
theorem dX8_refuse_0 : decode cX8_refuse 0 = .ok (.aload_n 0, 1) := by decide +kernel
theorem dX8_refuse_1 : decode cX8_refuse 1 = .ok (.iload_n 1, 1) := by decide +kernel
theorem dX8_refuse_2 : decode cX8_refuse 2 = .ok (.putfield 318, 3) := by decide +kernel
theorem dX8_refuse_5 : decode cX8_refuse 5 = .ok (.aload_n 0, 1) := by decide +kernel
theorem dX8_refuse_6 : decode cX8_refuse 6 = .ok (.iconst (-1), 1) := by decide +kernel
theorem dX8_refuse_7 : decode cX8_refuse 7 = .ok (.putfield 50, 3) := by decide +kernel
theorem dX8_refuse_10 : decode cX8_refuse 10 = .ok (.iconst (-1), 1) := by decide +kernel
theorem dX8_refuse_11 : decode cX8_refuse 11 = .ok (.ireturn, 1) := by decide +kernel
theorem dX8_bit_0 : decode cX8_bit 0 = .ok (.iload_n 1, 1) := by decide +kernel
theorem dX8_bit_1 : decode cX8_bit 1 = .ok (.ifCond .eq 7, 3) := by decide +kernel
theorem dX8_bit_4 : decode cX8_bit 4 = .ok (.iconst 1, 1) := by decide +kernel
theorem dX8_bit_5 : decode cX8_bit 5 = .ok (.goto 4, 3) := by decide +kernel
theorem dX8_bit_8 : decode cX8_bit 8 = .ok (.iconst 0, 1) := by decide +kernel
theorem dX8_bit_9 : decode cX8_bit 9 = .ok (.ireturn, 1) := by decide +kernel
theorem dX8_isTerm_0 : decode cX8_isTerm 0 = .ok (.iload_n 1, 1) := by decide +kernel
theorem dX8_isTerm_1 : decode cX8_isTerm 1 = .ok (.ifCond .lt 21, 3) := by decide +kernel
theorem dX8_isTerm_4 : decode cX8_isTerm 4 = .ok (.iload_n 1, 1) := by decide +kernel
theorem dX8_isTerm_5 : decode cX8_isTerm 5 = .ok (.aload_n 0, 1) := by decide +kernel
theorem dX8_isTerm_6 : decode cX8_isTerm 6 = .ok (.getfield 43, 3) := by decide +kernel
theorem dX8_isTerm_9 : decode cX8_isTerm 9 = .ok (.getfield 87, 3) := by decide +kernel
theorem dX8_isTerm_12 : decode cX8_isTerm 12 = .ok (.getfield 91, 3) := by decide +kernel
theorem dX8_isTerm_15 : decode cX8_isTerm 15 = .ok (.if_icmp .ge 7, 3) := by decide +kernel
theorem dX8_isTerm_18 : decode cX8_isTerm 18 = .ok (.iconst 1, 1) := by decide +kernel
theorem dX8_isTerm_19 : decode cX8_isTerm 19 = .ok (.goto 4, 3) := by decide +kernel
theorem dX8_isTerm_22 : decode cX8_isTerm 22 = .ok (.iconst 0, 1) := by decide +kernel
theorem dX8_isTerm_23 : decode cX8_isTerm 23 = .ok (.ireturn, 1) := by decide +kernel
theorem dX8_isSame_0 : decode cX8_isSame 0 = .ok (.iload_n 1, 1) := by decide +kernel
theorem dX8_isSame_1 : decode cX8_isSame 1 = .ok (.ifCond .lt 18, 3) := by decide +kernel
theorem dX8_isSame_4 : decode cX8_isSame 4 = .ok (.iload_n 1, 1) := by decide +kernel
theorem dX8_isSame_5 : decode cX8_isSame 5 = .ok (.aload_n 0, 1) := by decide +kernel
theorem dX8_isSame_6 : decode cX8_isSame 6 = .ok (.getfield 43, 3) := by decide +kernel
theorem dX8_isSame_9 : decode cX8_isSame 9 = .ok (.getfield 102, 3) := by decide +kernel
theorem dX8_isSame_12 : decode cX8_isSame 12 = .ok (.if_icmp .ge 7, 3) := by decide +kernel
theorem dX8_isSame_15 : decode cX8_isSame 15 = .ok (.iconst 1, 1) := by decide +kernel
theorem dX8_isSame_16 : decode cX8_isSame 16 = .ok (.goto 4, 3) := by decide +kernel
theorem dX8_isSame_19 : decode cX8_isSame 19 = .ok (.iconst 0, 1) := by decide +kernel
theorem dX8_isSame_20 : decode cX8_isSame 20 = .ok (.ireturn, 1) := by decide +kernel
theorem dX8_whyNotOne_0 : decode cX8_whyNotOne 0 = .ok (.aload_n 0, 1) := by decide +kernel
theorem dX8_whyNotOne_1 : decode cX8_whyNotOne 1 = .ok (.iload_n 1, 1) := by decide +kernel
theorem dX8_whyNotOne_2 : decode cX8_whyNotOne 2 = .ok (.invokevirtual 140, 3) := by decide +kernel
theorem dX8_whyNotOne_5 : decode cX8_whyNotOne 5 = .ok (.ifCond .eq 11, 3) := by decide +kernel
theorem dX8_whyNotOne_8 : decode cX8_whyNotOne 8 = .ok (.aload_n 0, 1) := by decide +kernel
theorem dX8_whyNotOne_9 : decode cX8_whyNotOne 9 = .ok (.iload_n 2, 1) := by decide +kernel
theorem dX8_whyNotOne_10 : decode cX8_whyNotOne 10 = .ok (.invokevirtual 140, 3) := by decide +kernel
theorem dX8_whyNotOne_13 : decode cX8_whyNotOne 13 = .ok (.ifCond .ne 5, 3) := by decide +kernel
theorem dX8_whyNotOne_16 : decode cX8_whyNotOne 16 = .ok (.iconst 1, 1) := by decide +kernel
theorem dX8_whyNotOne_17 : decode cX8_whyNotOne 17 = .ok (.ireturn, 1) := by decide +kernel
theorem dX8_whyNotOne_18 : decode cX8_whyNotOne 18 = .ok (.aload_n 0, 1) := by decide +kernel
theorem dX8_whyNotOne_19 : decode cX8_whyNotOne 19 = .ok (.getfield 43, 3) := by decide +kernel
theorem dX8_whyNotOne_22 : decode cX8_whyNotOne 22 = .ok (.getfield 108, 3) := by decide +kernel
theorem dX8_whyNotOne_25 : decode cX8_whyNotOne 25 = .ok (.iload_n 1, 1) := by decide +kernel
theorem dX8_whyNotOne_26 : decode cX8_whyNotOne 26 = .ok (.iload_n 2, 1) := by decide +kernel
theorem dX8_whyNotOne_27 : decode cX8_whyNotOne 27 = .ok (.invokevirtual 215, 3) := by decide +kernel
theorem dX8_whyNotOne_30 : decode cX8_whyNotOne 30 = .ok (.ifCond .eq 7, 3) := by decide +kernel
theorem dX8_whyNotOne_33 : decode cX8_whyNotOne 33 = .ok (.iconst 0, 1) := by decide +kernel
theorem dX8_whyNotOne_34 : decode cX8_whyNotOne 34 = .ok (.goto 4, 3) := by decide +kernel
theorem dX8_whyNotOne_37 : decode cX8_whyNotOne 37 = .ok (.iconst 5, 1) := by decide +kernel
theorem dX8_whyNotOne_38 : decode cX8_whyNotOne 38 = .ok (.ireturn, 1) := by decide +kernel
theorem dX8_isOneBy_0 : decode cX8_isOneBy 0 = .ok (.aload_n 0, 1) := by decide +kernel
theorem dX8_isOneBy_1 : decode cX8_isOneBy 1 = .ok (.getfield 43, 3) := by decide +kernel
theorem dX8_isOneBy_4 : decode cX8_isOneBy 4 = .ok (.iload_n 1, 1) := by decide +kernel
theorem dX8_isOneBy_5 : decode cX8_isOneBy 5 = .ok (.aload_n 0, 1) := by decide +kernel
theorem dX8_isOneBy_6 : decode cX8_isOneBy 6 = .ok (.getfield 33, 3) := by decide +kernel
theorem dX8_isOneBy_9 : decode cX8_isOneBy 9 = .ok (.invokevirtual 232, 3) := by decide +kernel
theorem dX8_isOneBy_12 : decode cX8_isOneBy 12 = .ok (.aload_n 0, 1) := by decide +kernel
theorem dX8_isOneBy_13 : decode cX8_isOneBy 13 = .ok (.getfield 33, 3) := by decide +kernel
theorem dX8_isOneBy_16 : decode cX8_isOneBy 16 = .ok (.iload_n 2, 1) := by decide +kernel
theorem dX8_isOneBy_17 : decode cX8_isOneBy 17 = .ok (.iload_n 3, 1) := by decide +kernel
theorem dX8_isOneBy_18 : decode cX8_isOneBy 18 = .ok (.invokevirtual 215, 3) := by decide +kernel
theorem dX8_isOneBy_21 : decode cX8_isOneBy 21 = .ok (.ireturn, 1) := by decide +kernel
theorem dX8_isFree_0 : decode cX8_isFree 0 = .ok (.aload_n 0, 1) := by decide +kernel
theorem dX8_isFree_1 : decode cX8_isFree 1 = .ok (.getfield 33, 3) := by decide +kernel
theorem dX8_isFree_4 : decode cX8_isFree 4 = .ok (.aload_n 0, 1) := by decide +kernel
theorem dX8_isFree_5 : decode cX8_isFree 5 = .ok (.getfield 43, 3) := by decide +kernel
theorem dX8_isFree_8 : decode cX8_isFree 8 = .ok (.getfield 108, 3) := by decide +kernel
theorem dX8_isFree_11 : decode cX8_isFree 11 = .ok (.invokevirtual 251, 3) := by decide +kernel
theorem dX8_isFree_14 : decode cX8_isFree 14 = .ok (.aload_n 0, 1) := by decide +kernel
theorem dX8_isFree_15 : decode cX8_isFree 15 = .ok (.getfield 43, 3) := by decide +kernel
theorem dX8_isFree_18 : decode cX8_isFree 18 = .ok (.iload_n 1, 1) := by decide +kernel
theorem dX8_isFree_19 : decode cX8_isFree 19 = .ok (.iload_n 2, 1) := by decide +kernel
theorem dX8_isFree_20 : decode cX8_isFree 20 = .ok (.aload_n 0, 1) := by decide +kernel
theorem dX8_isFree_21 : decode cX8_isFree 21 = .ok (.getfield 33, 3) := by decide +kernel
theorem dX8_isFree_24 : decode cX8_isFree 24 = .ok (.invokevirtual 236, 3) := by decide +kernel
theorem dX8_isFree_27 : decode cX8_isFree 27 = .ok (.aload_n 0, 1) := by decide +kernel
theorem dX8_isFree_28 : decode cX8_isFree 28 = .ok (.getfield 43, 3) := by decide +kernel
theorem dX8_isFree_31 : decode cX8_isFree 31 = .ok (.aload_n 0, 1) := by decide +kernel
theorem dX8_isFree_32 : decode cX8_isFree 32 = .ok (.getfield 33, 3) := by decide +kernel
theorem dX8_isFree_35 : decode cX8_isFree 35 = .ok (.invokevirtual 125, 3) := by decide +kernel
theorem dX8_isFree_38 : decode cX8_isFree 38 = .ok (.ifCond .ge 7, 3) := by decide +kernel
theorem dX8_isFree_41 : decode cX8_isFree 41 = .ok (.iconst 1, 1) := by decide +kernel
theorem dX8_isFree_42 : decode cX8_isFree 42 = .ok (.goto 4, 3) := by decide +kernel
theorem dX8_isFree_45 : decode cX8_isFree 45 = .ok (.iconst 0, 1) := by decide +kernel
theorem dX8_isFree_46 : decode cX8_isFree 46 = .ok (.ireturn, 1) := by decide +kernel
theorem dX9_init_0 : decode cX9_init 0 = .ok (.aload_n 0, 1) := by decide +kernel
theorem dX9_init_1 : decode cX9_init 1 = .ok (.invokespecial 1, 3) := by decide +kernel
theorem dX9_init_4 : decode cX9_init 4 = .ok (.aload_n 0, 1) := by decide +kernel
theorem dX9_init_5 : decode cX9_init 5 = .ok (.iconst (-1), 1) := by decide +kernel
theorem dX9_init_6 : decode cX9_init 6 = .ok (.putfield 9, 3) := by decide +kernel
theorem dX9_init_9 : decode cX9_init 9 = .ok (.aload_n 0, 1) := by decide +kernel
theorem dX9_init_10 : decode cX9_init 10 = .ok (.sipush 500, 3) := by decide +kernel
theorem dX9_init_13 : decode cX9_init 13 = .ok (.newarray .int, 2) := by decide +kernel
theorem dX9_init_15 : decode cX9_init 15 = .ok (.putfield 13, 3) := by decide +kernel
theorem dX9_init_18 : decode cX9_init 18 = .ok (.aload_n 0, 1) := by decide +kernel
theorem dX9_init_19 : decode cX9_init 19 = .ok (.bipush 16, 2) := by decide +kernel
theorem dX9_init_21 : decode cX9_init 21 = .ok (.newarray .int, 2) := by decide +kernel
theorem dX9_init_23 : decode cX9_init 23 = .ok (.putfield 17, 3) := by decide +kernel
theorem dX9_init_26 : decode cX9_init 26 = .ok (.aload_n 0, 1) := by decide +kernel
theorem dX9_init_27 : decode cX9_init 27 = .ok (.bipush 96, 2) := by decide +kernel
theorem dX9_init_29 : decode cX9_init 29 = .ok (.newarray .int, 2) := by decide +kernel
theorem dX9_init_31 : decode cX9_init 31 = .ok (.putfield 20, 3) := by decide +kernel
theorem dX9_init_34 : decode cX9_init 34 = .ok (.aload_n 0, 1) := by decide +kernel
theorem dX9_init_35 : decode cX9_init 35 = .ok (.sipush 384, 3) := by decide +kernel
theorem dX9_init_38 : decode cX9_init 38 = .ok (.newarray .int, 2) := by decide +kernel
theorem dX9_init_40 : decode cX9_init 40 = .ok (.putfield 23, 3) := by decide +kernel
theorem dX9_init_43 : decode cX9_init 43 = .ok (.aload_n 0, 1) := by decide +kernel
theorem dX9_init_44 : decode cX9_init 44 = .ok (.sipush 288, 3) := by decide +kernel
theorem dX9_init_47 : decode cX9_init 47 = .ok (.newarray .int, 2) := by decide +kernel
theorem dX9_init_49 : decode cX9_init 49 = .ok (.putfield 26, 3) := by decide +kernel
theorem dX9_init_52 : decode cX9_init 52 = .ok (.aload_n 0, 1) := by decide +kernel
theorem dX9_init_53 : decode cX9_init 53 = .ok (.bipush 48, 2) := by decide +kernel
theorem dX9_init_55 : decode cX9_init 55 = .ok (.newarray .int, 2) := by decide +kernel
theorem dX9_init_57 : decode cX9_init 57 = .ok (.putfield 29, 3) := by decide +kernel
theorem dX9_init_60 : decode cX9_init 60 = .ok (.aload_n 0, 1) := by decide +kernel
theorem dX9_init_61 : decode cX9_init 61 = .ok (.bipush 24, 2) := by decide +kernel
theorem dX9_init_63 : decode cX9_init 63 = .ok (.newarray .int, 2) := by decide +kernel
theorem dX9_init_65 : decode cX9_init 65 = .ok (.putfield 32, 3) := by decide +kernel
theorem dX9_init_68 : decode cX9_init 68 = .ok (.aload_n 0, 1) := by decide +kernel
theorem dX9_init_69 : decode cX9_init 69 = .ok (.bipush 72, 2) := by decide +kernel
theorem dX9_init_71 : decode cX9_init 71 = .ok (.newarray .int, 2) := by decide +kernel
theorem dX9_init_73 : decode cX9_init 73 = .ok (.putfield 35, 3) := by decide +kernel
theorem dX9_init_76 : decode cX9_init 76 = .ok (.aload_n 0, 1) := by decide +kernel
theorem dX9_init_77 : decode cX9_init 77 = .ok (.bipush 13, 2) := by decide +kernel
theorem dX9_init_79 : decode cX9_init 79 = .ok (.newarray .int, 2) := by decide +kernel
theorem dX9_init_81 : decode cX9_init 81 = .ok (.putfield 38, 3) := by decide +kernel
theorem dX9_init_84 : decode cX9_init 84 = .ok (.aload_n 0, 1) := by decide +kernel
theorem dX9_init_85 : decode cX9_init 85 = .ok (.bipush 13, 2) := by decide +kernel
theorem dX9_init_87 : decode cX9_init 87 = .ok (.newarray .int, 2) := by decide +kernel
theorem dX9_init_89 : decode cX9_init 89 = .ok (.putfield 41, 3) := by decide +kernel
theorem dX9_init_92 : decode cX9_init 92 = .ok (.aload_n 0, 1) := by decide +kernel
theorem dX9_init_93 : decode cX9_init 93 = .ok (.bipush 8, 2) := by decide +kernel
theorem dX9_init_95 : decode cX9_init 95 = .ok (.newarray .int, 2) := by decide +kernel
theorem dX9_init_97 : decode cX9_init 97 = .ok (.putfield 44, 3) := by decide +kernel
theorem dX9_init_100 : decode cX9_init 100 = .ok (.aload_n 0, 1) := by decide +kernel
theorem dX9_init_101 : decode cX9_init 101 = .ok (.bipush 8, 2) := by decide +kernel
theorem dX9_init_103 : decode cX9_init 103 = .ok (.newarray .int, 2) := by decide +kernel
theorem dX9_init_105 : decode cX9_init 105 = .ok (.putfield 47, 3) := by decide +kernel
theorem dX9_init_108 : decode cX9_init 108 = .ok (.aload_n 0, 1) := by decide +kernel
theorem dX9_init_109 : decode cX9_init 109 = .ok (.bipush 24, 2) := by decide +kernel
theorem dX9_init_111 : decode cX9_init 111 = .ok (.newarray .int, 2) := by decide +kernel
theorem dX9_init_113 : decode cX9_init 113 = .ok (.putfield 50, 3) := by decide +kernel
theorem dX9_init_116 : decode cX9_init 116 = .ok (.aload_n 0, 1) := by decide +kernel
theorem dX9_init_117 : decode cX9_init 117 = .ok (.bipush 24, 2) := by decide +kernel
theorem dX9_init_119 : decode cX9_init 119 = .ok (.newarray .int, 2) := by decide +kernel
theorem dX9_init_121 : decode cX9_init 121 = .ok (.putfield 53, 3) := by decide +kernel
theorem dX9_init_124 : decode cX9_init 124 = .ok (.aload_n 0, 1) := by decide +kernel
theorem dX9_init_125 : decode cX9_init 125 = .ok (.bipush 24, 2) := by decide +kernel
theorem dX9_init_127 : decode cX9_init 127 = .ok (.newarray .int, 2) := by decide +kernel
theorem dX9_init_129 : decode cX9_init 129 = .ok (.putfield 56, 3) := by decide +kernel
theorem dX9_init_132 : decode cX9_init 132 = .ok (.aload_n 0, 1) := by decide +kernel
theorem dX9_init_133 : decode cX9_init 133 = .ok (.bipush 24, 2) := by decide +kernel
theorem dX9_init_135 : decode cX9_init 135 = .ok (.newarray .int, 2) := by decide +kernel
theorem dX9_init_137 : decode cX9_init 137 = .ok (.putfield 59, 3) := by decide +kernel
theorem dX9_init_140 : decode cX9_init 140 = .ok (.aload_n 0, 1) := by decide +kernel
theorem dX9_init_141 : decode cX9_init 141 = .ok (.bipush 24, 2) := by decide +kernel
theorem dX9_init_143 : decode cX9_init 143 = .ok (.newarray .int, 2) := by decide +kernel
theorem dX9_init_145 : decode cX9_init 145 = .ok (.putfield 62, 3) := by decide +kernel
theorem dX9_init_148 : decode cX9_init 148 = .ok (.aload_n 0, 1) := by decide +kernel
theorem dX9_init_149 : decode cX9_init 149 = .ok (.bipush 24, 2) := by decide +kernel
theorem dX9_init_151 : decode cX9_init 151 = .ok (.newarray .int, 2) := by decide +kernel
theorem dX9_init_153 : decode cX9_init 153 = .ok (.putfield 65, 3) := by decide +kernel
theorem dX9_init_156 : decode cX9_init 156 = .ok (.aload_n 0, 1) := by decide +kernel
theorem dX9_init_157 : decode cX9_init 157 = .ok (.bipush 24, 2) := by decide +kernel
theorem dX9_init_159 : decode cX9_init 159 = .ok (.newarray .int, 2) := by decide +kernel
theorem dX9_init_161 : decode cX9_init 161 = .ok (.putfield 68, 3) := by decide +kernel
theorem dX9_init_164 : decode cX9_init 164 = .ok (.aload_n 0, 1) := by decide +kernel
theorem dX9_init_165 : decode cX9_init 165 = .ok (.bipush 24, 2) := by decide +kernel
theorem dX9_init_167 : decode cX9_init 167 = .ok (.newarray .int, 2) := by decide +kernel
theorem dX9_init_169 : decode cX9_init 169 = .ok (.putfield 71, 3) := by decide +kernel
theorem dX9_init_172 : decode cX9_init 172 = .ok (.aload_n 0, 1) := by decide +kernel
theorem dX9_init_173 : decode cX9_init 173 = .ok (.bipush 24, 2) := by decide +kernel
theorem dX9_init_175 : decode cX9_init 175 = .ok (.newarray .int, 2) := by decide +kernel
theorem dX9_init_177 : decode cX9_init 177 = .ok (.putfield 74, 3) := by decide +kernel
theorem dX9_init_180 : decode cX9_init 180 = .ok (.aload_n 0, 1) := by decide +kernel
theorem dX9_init_181 : decode cX9_init 181 = .ok (.sipush 4096, 3) := by decide +kernel
theorem dX9_init_184 : decode cX9_init 184 = .ok (.newarray .boolean, 2) := by decide +kernel
theorem dX9_init_186 : decode cX9_init 186 = .ok (.putfield 77, 3) := by decide +kernel
theorem dX9_init_189 : decode cX9_init 189 = .ok (.aload_n 0, 1) := by decide +kernel
theorem dX9_init_190 : decode cX9_init 190 = .ok (.bipush 24, 2) := by decide +kernel
theorem dX9_init_192 : decode cX9_init 192 = .ok (.newarray .int, 2) := by decide +kernel
theorem dX9_init_194 : decode cX9_init 194 = .ok (.putfield 81, 3) := by decide +kernel
theorem dX9_init_197 : decode cX9_init 197 = .ok (.aload_n 0, 1) := by decide +kernel
theorem dX9_init_198 : decode cX9_init 198 = .ok (.bipush 24, 2) := by decide +kernel
theorem dX9_init_200 : decode cX9_init 200 = .ok (.newarray .int, 2) := by decide +kernel
theorem dX9_init_202 : decode cX9_init 202 = .ok (.putfield 84, 3) := by decide +kernel
theorem dX9_init_205 : decode cX9_init 205 = .ok (.aload_n 0, 1) := by decide +kernel
theorem dX9_init_206 : decode cX9_init 206 = .ok (.sipush 576, 3) := by decide +kernel
theorem dX9_init_209 : decode cX9_init 209 = .ok (.newarray .long, 2) := by decide +kernel
theorem dX9_init_211 : decode cX9_init 211 = .ok (.putfield 87, 3) := by decide +kernel
theorem dX9_init_214 : decode cX9_init 214 = .ok (.aload_n 0, 1) := by decide +kernel
theorem dX9_init_215 : decode cX9_init 215 = .ok (.sipush 576, 3) := by decide +kernel
theorem dX9_init_218 : decode cX9_init 218 = .ok (.newarray .long, 2) := by decide +kernel
theorem dX9_init_220 : decode cX9_init 220 = .ok (.putfield 91, 3) := by decide +kernel
theorem dX9_init_223 : decode cX9_init 223 = .ok (.aload_n 0, 1) := by decide +kernel
theorem dX9_init_224 : decode cX9_init 224 = .ok (.bipush 24, 2) := by decide +kernel
theorem dX9_init_226 : decode cX9_init 226 = .ok (.newarray .int, 2) := by decide +kernel
theorem dX9_init_228 : decode cX9_init 228 = .ok (.putfield 94, 3) := by decide +kernel
theorem dX9_init_231 : decode cX9_init 231 = .ok (.aload_n 0, 1) := by decide +kernel
theorem dX9_init_232 : decode cX9_init 232 = .ok (.bipush 24, 2) := by decide +kernel
theorem dX9_init_234 : decode cX9_init 234 = .ok (.newarray .int, 2) := by decide +kernel
theorem dX9_init_236 : decode cX9_init 236 = .ok (.putfield 97, 3) := by decide +kernel
theorem dX9_init_239 : decode cX9_init 239 = .ok (.aload_n 0, 1) := by decide +kernel
theorem dX9_init_240 : decode cX9_init 240 = .ok (.bipush 24, 2) := by decide +kernel
theorem dX9_init_242 : decode cX9_init 242 = .ok (.newarray .int, 2) := by decide +kernel
theorem dX9_init_244 : decode cX9_init 244 = .ok (.putfield 100, 3) := by decide +kernel
theorem dX9_init_247 : decode cX9_init 247 = .ok (.return_, 1) := by decide +kernel
theorem dX9_thrown_0 : decode cX9_thrown 0 = .ok (.aload_n 0, 1) := by decide +kernel
theorem dX9_thrown_1 : decode cX9_thrown 1 = .ok (.getfield 103, 3) := by decide +kernel
theorem dX9_thrown_4 : decode cX9_thrown 4 = .ok (.ireturn, 1) := by decide +kernel
theorem dX9_in_0 : decode cX9_in 0 = .ok (.iload_n 0, 1) := by decide +kernel
theorem dX9_in_1 : decode cX9_in 1 = .ok (.iload_n 1, 1) := by decide +kernel
theorem dX9_in_2 : decode cX9_in 2 = .ok (.if_icmp .lt 12, 3) := by decide +kernel
theorem dX9_in_5 : decode cX9_in 5 = .ok (.iload_n 0, 1) := by decide +kernel
theorem dX9_in_6 : decode cX9_in 6 = .ok (.iload_n 2, 1) := by decide +kernel
theorem dX9_in_7 : decode cX9_in 7 = .ok (.if_icmp .gt 7, 3) := by decide +kernel
theorem dX9_in_10 : decode cX9_in 10 = .ok (.iconst 1, 1) := by decide +kernel
theorem dX9_in_11 : decode cX9_in 11 = .ok (.goto 4, 3) := by decide +kernel
theorem dX9_in_14 : decode cX9_in 14 = .ok (.iconst 0, 1) := by decide +kernel
theorem dX9_in_15 : decode cX9_in 15 = .ok (.ireturn, 1) := by decide +kernel
theorem dX9_no_0 : decode cX9_no 0 = .ok (.aload_n 0, 1) := by decide +kernel
theorem dX9_no_1 : decode cX9_no 1 = .ok (.iload_n 1, 1) := by decide +kernel
theorem dX9_no_2 : decode cX9_no 2 = .ok (.putfield 106, 3) := by decide +kernel
theorem dX9_no_5 : decode cX9_no 5 = .ok (.iconst (-1), 1) := by decide +kernel
theorem dX9_no_6 : decode cX9_no 6 = .ok (.ireturn, 1) := by decide +kernel
theorem dX9_isRefused_0 : decode cX9_isRefused 0 = .ok (.aload_n 0, 1) := by decide +kernel
theorem dX9_isRefused_1 : decode cX9_isRefused 1 = .ok (.iconst 0, 1) := by decide +kernel
theorem dX9_isRefused_2 : decode cX9_isRefused 2 = .ok (.putfield 103, 3) := by decide +kernel
theorem dX9_isRefused_5 : decode cX9_isRefused 5 = .ok (.aload_n 0, 1) := by decide +kernel
theorem dX9_isRefused_6 : decode cX9_isRefused 6 = .ok (.iconst (-1), 1) := by decide +kernel
theorem dX9_isRefused_7 : decode cX9_isRefused 7 = .ok (.putfield 9, 3) := by decide +kernel
theorem dX9_isRefused_10 : decode cX9_isRefused 10 = .ok (.aload_n 0, 1) := by decide +kernel
theorem dX9_isRefused_11 : decode cX9_isRefused 11 = .ok (.iload_n 1, 1) := by decide +kernel
theorem dX9_isRefused_12 : decode cX9_isRefused 12 = .ok (.putfield 106, 3) := by decide +kernel
theorem dX9_isRefused_15 : decode cX9_isRefused 15 = .ok (.iload_n 1, 1) := by decide +kernel
theorem dX9_isRefused_16 : decode cX9_isRefused 16 = .ok (.ifCond .eq 7, 3) := by decide +kernel
theorem dX9_isRefused_19 : decode cX9_isRefused 19 = .ok (.iconst 1, 1) := by decide +kernel
theorem dX9_isRefused_20 : decode cX9_isRefused 20 = .ok (.goto 4, 3) := by decide +kernel
theorem dX9_isRefused_23 : decode cX9_isRefused 23 = .ok (.iconst 0, 1) := by decide +kernel
theorem dX9_isRefused_24 : decode cX9_isRefused 24 = .ok (.ireturn, 1) := by decide +kernel
theorem dX9_unless_0 : decode cX9_unless 0 = .ok (.iload_n 0, 1) := by decide +kernel
theorem dX9_unless_1 : decode cX9_unless 1 = .ok (.ifCond .eq 7, 3) := by decide +kernel
theorem dX9_unless_4 : decode cX9_unless 4 = .ok (.iconst 0, 1) := by decide +kernel
theorem dX9_unless_5 : decode cX9_unless 5 = .ok (.goto 4, 3) := by decide +kernel
theorem dX9_unless_8 : decode cX9_unless 8 = .ok (.iconst 1, 1) := by decide +kernel
theorem dX9_unless_9 : decode cX9_unless 9 = .ok (.ireturn, 1) := by decide +kernel
theorem dX9_feed_0 : decode cX9_feed 0 = .ok (.aload_n 0, 1) := by decide +kernel
theorem dX9_feed_1 : decode cX9_feed 1 = .ok (.iconst 0, 1) := by decide +kernel
theorem dX9_feed_2 : decode cX9_feed 2 = .ok (.putfield 103, 3) := by decide +kernel
theorem dX9_feed_5 : decode cX9_feed 5 = .ok (.aload_n 0, 1) := by decide +kernel
theorem dX9_feed_6 : decode cX9_feed 6 = .ok (.getfield 109, 3) := by decide +kernel
theorem dX9_feed_9 : decode cX9_feed 9 = .ok (.sipush 480, 3) := by decide +kernel
theorem dX9_feed_12 : decode cX9_feed 12 = .ok (.if_icmp .le 5, 3) := by decide +kernel
theorem dX9_feed_15 : decode cX9_feed 15 = .ok (.iconst (-1), 1) := by decide +kernel
theorem dX9_feed_16 : decode cX9_feed 16 = .ok (.ireturn, 1) := by decide +kernel
theorem dX9_feed_17 : decode cX9_feed 17 = .ok (.aload_n 0, 1) := by decide +kernel
theorem dX9_feed_18 : decode cX9_feed 18 = .ok (.iload_n 1, 1) := by decide +kernel
theorem dX9_feed_19 : decode cX9_feed 19 = .ok (.invokevirtual 112, 3) := by decide +kernel
theorem dX9_feed_22 : decode cX9_feed 22 = .ok (.aload_n 0, 1) := by decide +kernel
theorem dX9_feed_23 : decode cX9_feed 23 = .ok (.iload_n 2, 1) := by decide +kernel
theorem dX9_feed_24 : decode cX9_feed 24 = .ok (.invokevirtual 112, 3) := by decide +kernel
theorem dX9_feed_27 : decode cX9_feed 27 = .ok (.aload_n 0, 1) := by decide +kernel
theorem dX9_feed_28 : decode cX9_feed 28 = .ok (.iload_n 3, 1) := by decide +kernel
theorem dX9_feed_29 : decode cX9_feed 29 = .ok (.invokevirtual 112, 3) := by decide +kernel
theorem dX9_feed_32 : decode cX9_feed 32 = .ok (.aload_n 0, 1) := by decide +kernel
theorem dX9_feed_33 : decode cX9_feed 33 = .ok (.iload 4, 2) := by decide +kernel
theorem dX9_feed_35 : decode cX9_feed 35 = .ok (.invokevirtual 112, 3) := by decide +kernel
theorem dX9_feed_38 : decode cX9_feed 38 = .ok (.aload_n 0, 1) := by decide +kernel
theorem dX9_feed_39 : decode cX9_feed 39 = .ok (.iload 5, 2) := by decide +kernel
theorem dX9_feed_41 : decode cX9_feed 41 = .ok (.invokevirtual 112, 3) := by decide +kernel
theorem dX9_feed_44 : decode cX9_feed 44 = .ok (.aload_n 0, 1) := by decide +kernel
theorem dX9_feed_45 : decode cX9_feed 45 = .ok (.getfield 109, 3) := by decide +kernel
theorem dX9_feed_48 : decode cX9_feed 48 = .ok (.ireturn, 1) := by decide +kernel
theorem dX9_laysWord_0 : decode cX9_laysWord 0 = .ok (.iconst 0, 1) := by decide +kernel
theorem dX9_laysWord_1 : decode cX9_laysWord 1 = .ok (.istore_n 2, 1) := by decide +kernel
theorem dX9_laysWord_2 : decode cX9_laysWord 2 = .ok (.iload_n 2, 1) := by decide +kernel
theorem dX9_laysWord_3 : decode cX9_laysWord 3 = .ok (.iconst 4, 1) := by decide +kernel
theorem dX9_laysWord_4 : decode cX9_laysWord 4 = .ok (.if_icmp .ge 33, 3) := by decide +kernel
theorem dX9_laysWord_7 : decode cX9_laysWord 7 = .ok (.aload_n 0, 1) := by decide +kernel
theorem dX9_laysWord_8 : decode cX9_laysWord 8 = .ok (.getfield 13, 3) := by decide +kernel
theorem dX9_laysWord_11 : decode cX9_laysWord 11 = .ok (.aload_n 0, 1) := by decide +kernel
theorem dX9_laysWord_12 : decode cX9_laysWord 12 = .ok (.getfield 109, 3) := by decide +kernel
theorem dX9_laysWord_15 : decode cX9_laysWord 15 = .ok (.iload_n 2, 1) := by decide +kernel
theorem dX9_laysWord_16 : decode cX9_laysWord 16 = .ok (.iadd, 1) := by decide +kernel
theorem dX9_laysWord_17 : decode cX9_laysWord 17 = .ok (.iload_n 1, 1) := by decide +kernel
theorem dX9_laysWord_18 : decode cX9_laysWord 18 = .ok (.bipush 24, 2) := by decide +kernel
theorem dX9_laysWord_20 : decode cX9_laysWord 20 = .ok (.bipush 8, 2) := by decide +kernel
theorem dX9_laysWord_22 : decode cX9_laysWord 22 = .ok (.iload_n 2, 1) := by decide +kernel
theorem dX9_laysWord_23 : decode cX9_laysWord 23 = .ok (.imul, 1) := by decide +kernel
theorem dX9_laysWord_24 : decode cX9_laysWord 24 = .ok (.isub, 1) := by decide +kernel
theorem dX9_laysWord_25 : decode cX9_laysWord 25 = .ok (.ishr, 1) := by decide +kernel
theorem dX9_laysWord_26 : decode cX9_laysWord 26 = .ok (.sipush 255, 3) := by decide +kernel
theorem dX9_laysWord_29 : decode cX9_laysWord 29 = .ok (.iand, 1) := by decide +kernel
theorem dX9_laysWord_30 : decode cX9_laysWord 30 = .ok (.iastore, 1) := by decide +kernel
theorem dX9_laysWord_31 : decode cX9_laysWord 31 = .ok (.iinc 2 1, 3) := by decide +kernel
theorem dX9_laysWord_34 : decode cX9_laysWord 34 = .ok (.goto (-32), 3) := by decide +kernel
theorem dX9_laysWord_37 : decode cX9_laysWord 37 = .ok (.aload_n 0, 1) := by decide +kernel
theorem dX9_laysWord_38 : decode cX9_laysWord 38 = .ok (.dup, 1) := by decide +kernel
theorem dX9_laysWord_39 : decode cX9_laysWord 39 = .ok (.getfield 109, 3) := by decide +kernel
theorem dX9_laysWord_42 : decode cX9_laysWord 42 = .ok (.iconst 4, 1) := by decide +kernel
theorem dX9_laysWord_43 : decode cX9_laysWord 43 = .ok (.iadd, 1) := by decide +kernel
theorem dX9_laysWord_44 : decode cX9_laysWord 44 = .ok (.putfield 109, 3) := by decide +kernel
theorem dX9_laysWord_47 : decode cX9_laysWord 47 = .ok (.return_, 1) := by decide +kernel
theorem dX9_see_0 : decode cX9_see 0 = .ok (.iload_n 1, 1) := by decide +kernel
theorem dX9_see_1 : decode cX9_see 1 = .ok (.aload_n 0, 1) := by decide +kernel
theorem dX9_see_2 : decode cX9_see 2 = .ok (.getfield 116, 3) := by decide +kernel
theorem dX9_see_5 : decode cX9_see 5 = .ok (.if_icmp .ge 12, 3) := by decide +kernel
theorem dX9_see_8 : decode cX9_see 8 = .ok (.aload_n 0, 1) := by decide +kernel
theorem dX9_see_9 : decode cX9_see 9 = .ok (.getfield 13, 3) := by decide +kernel
theorem dX9_see_12 : decode cX9_see 12 = .ok (.iload_n 1, 1) := by decide +kernel
theorem dX9_see_13 : decode cX9_see 13 = .ok (.iaload, 1) := by decide +kernel
theorem dX9_see_14 : decode cX9_see 14 = .ok (.goto 4, 3) := by decide +kernel
theorem dX9_see_17 : decode cX9_see 17 = .ok (.iconst (-1), 1) := by decide +kernel
theorem dX9_see_18 : decode cX9_see 18 = .ok (.ireturn, 1) := by decide +kernel
theorem dX9_goesOn_0 : decode cX9_goesOn 0 = .ok (.aload_n 0, 1) := by decide +kernel
theorem dX9_goesOn_1 : decode cX9_goesOn 1 = .ok (.aload_n 0, 1) := by decide +kernel
theorem dX9_goesOn_2 : decode cX9_goesOn 2 = .ok (.getfield 119, 3) := by decide +kernel
theorem dX9_goesOn_5 : decode cX9_goesOn 5 = .ok (.invokevirtual 122, 3) := by decide +kernel
theorem dX9_goesOn_8 : decode cX9_goesOn 8 = .ok (.bipush 32, 2) := by decide +kernel
theorem dX9_goesOn_10 : decode cX9_goesOn 10 = .ok (.if_icmp .ne 16, 3) := by decide +kernel
theorem dX9_goesOn_13 : decode cX9_goesOn 13 = .ok (.aload_n 0, 1) := by decide +kernel
theorem dX9_goesOn_14 : decode cX9_goesOn 14 = .ok (.dup, 1) := by decide +kernel
theorem dX9_goesOn_15 : decode cX9_goesOn 15 = .ok (.getfield 119, 3) := by decide +kernel
theorem dX9_goesOn_18 : decode cX9_goesOn 18 = .ok (.iconst 1, 1) := by decide +kernel
theorem dX9_goesOn_19 : decode cX9_goesOn 19 = .ok (.iadd, 1) := by decide +kernel
theorem dX9_goesOn_20 : decode cX9_goesOn 20 = .ok (.putfield 119, 3) := by decide +kernel
theorem dX9_goesOn_23 : decode cX9_goesOn 23 = .ok (.goto (-23), 3) := by decide +kernel
theorem dX9_goesOn_26 : decode cX9_goesOn 26 = .ok (.aload_n 0, 1) := by decide +kernel
theorem dX9_goesOn_27 : decode cX9_goesOn 27 = .ok (.aload_n 0, 1) := by decide +kernel
theorem dX9_goesOn_28 : decode cX9_goesOn 28 = .ok (.getfield 119, 3) := by decide +kernel
theorem dX9_goesOn_31 : decode cX9_goesOn 31 = .ok (.putfield 126, 3) := by decide +kernel
theorem dX9_goesOn_34 : decode cX9_goesOn 34 = .ok (.aload_n 0, 1) := by decide +kernel
theorem dX9_goesOn_35 : decode cX9_goesOn 35 = .ok (.aload_n 0, 1) := by decide +kernel
theorem dX9_goesOn_36 : decode cX9_goesOn 36 = .ok (.getfield 119, 3) := by decide +kernel
theorem dX9_goesOn_39 : decode cX9_goesOn 39 = .ok (.invokevirtual 122, 3) := by decide +kernel
theorem dX9_goesOn_42 : decode cX9_goesOn 42 = .ok (.istore_n 1, 1) := by decide +kernel
theorem dX9_goesOn_43 : decode cX9_goesOn 43 = .ok (.iload_n 1, 1) := by decide +kernel
theorem dX9_goesOn_44 : decode cX9_goesOn 44 = .ok (.iconst (-1), 1) := by decide +kernel
theorem dX9_goesOn_45 : decode cX9_goesOn 45 = .ok (.if_icmp .ne 9, 3) := by decide +kernel
theorem dX9_goesOn_48 : decode cX9_goesOn 48 = .ok (.aload_n 0, 1) := by decide +kernel
theorem dX9_goesOn_49 : decode cX9_goesOn 49 = .ok (.iconst 0, 1) := by decide +kernel
theorem dX9_goesOn_50 : decode cX9_goesOn 50 = .ok (.putfield 129, 3) := by decide +kernel
theorem dX9_goesOn_53 : decode cX9_goesOn 53 = .ok (.return_, 1) := by decide +kernel
theorem dX9_goesOn_54 : decode cX9_goesOn 54 = .ok (.iload_n 1, 1) := by decide +kernel
theorem dX9_goesOn_55 : decode cX9_goesOn 55 = .ok (.bipush 97, 2) := by decide +kernel
theorem dX9_goesOn_57 : decode cX9_goesOn 57 = .ok (.bipush 122, 2) := by decide +kernel
theorem dX9_goesOn_59 : decode cX9_goesOn 59 = .ok (.invokestatic 132, 3) := by decide +kernel
theorem dX9_goesOn_62 : decode cX9_goesOn 62 = .ok (.ifCond .eq 58, 3) := by decide +kernel
theorem dX9_goesOn_65 : decode cX9_goesOn 65 = .ok (.aload_n 0, 1) := by decide +kernel
theorem dX9_goesOn_66 : decode cX9_goesOn 66 = .ok (.aload_n 0, 1) := by decide +kernel
theorem dX9_goesOn_67 : decode cX9_goesOn 67 = .ok (.getfield 119, 3) := by decide +kernel
theorem dX9_goesOn_70 : decode cX9_goesOn 70 = .ok (.invokevirtual 122, 3) := by decide +kernel
theorem dX9_goesOn_73 : decode cX9_goesOn 73 = .ok (.bipush 97, 2) := by decide +kernel
theorem dX9_goesOn_75 : decode cX9_goesOn 75 = .ok (.bipush 122, 2) := by decide +kernel
theorem dX9_goesOn_77 : decode cX9_goesOn 77 = .ok (.invokestatic 132, 3) := by decide +kernel
theorem dX9_goesOn_80 : decode cX9_goesOn 80 = .ok (.ifCond .eq 16, 3) := by decide +kernel
theorem dX9_goesOn_83 : decode cX9_goesOn 83 = .ok (.aload_n 0, 1) := by decide +kernel
theorem dX9_goesOn_84 : decode cX9_goesOn 84 = .ok (.dup, 1) := by decide +kernel
theorem dX9_goesOn_85 : decode cX9_goesOn 85 = .ok (.getfield 119, 3) := by decide +kernel
theorem dX9_goesOn_88 : decode cX9_goesOn 88 = .ok (.iconst 1, 1) := by decide +kernel
theorem dX9_goesOn_89 : decode cX9_goesOn 89 = .ok (.iadd, 1) := by decide +kernel
theorem dX9_goesOn_90 : decode cX9_goesOn 90 = .ok (.putfield 119, 3) := by decide +kernel
theorem dX9_goesOn_93 : decode cX9_goesOn 93 = .ok (.goto (-28), 3) := by decide +kernel
theorem dX9_goesOn_96 : decode cX9_goesOn 96 = .ok (.aload_n 0, 1) := by decide +kernel
theorem dX9_goesOn_97 : decode cX9_goesOn 97 = .ok (.aload_n 0, 1) := by decide +kernel
theorem dX9_goesOn_98 : decode cX9_goesOn 98 = .ok (.getfield 119, 3) := by decide +kernel
theorem dX9_goesOn_101 : decode cX9_goesOn 101 = .ok (.aload_n 0, 1) := by decide +kernel
theorem dX9_goesOn_102 : decode cX9_goesOn 102 = .ok (.getfield 126, 3) := by decide +kernel
theorem dX9_goesOn_105 : decode cX9_goesOn 105 = .ok (.isub, 1) := by decide +kernel
theorem dX9_goesOn_106 : decode cX9_goesOn 106 = .ok (.bipush 6, 2) := by decide +kernel
theorem dX9_goesOn_108 : decode cX9_goesOn 108 = .ok (.if_icmp .le 7, 3) := by decide +kernel
theorem dX9_goesOn_111 : decode cX9_goesOn 111 = .ok (.iconst 1, 1) := by decide +kernel
theorem dX9_goesOn_112 : decode cX9_goesOn 112 = .ok (.goto 4, 3) := by decide +kernel
theorem dX9_goesOn_115 : decode cX9_goesOn 115 = .ok (.iconst 2, 1) := by decide +kernel
theorem dX9_goesOn_116 : decode cX9_goesOn 116 = .ok (.putfield 129, 3) := by decide +kernel
theorem dX9_goesOn_119 : decode cX9_goesOn 119 = .ok (.return_, 1) := by decide +kernel
theorem dX9_goesOn_120 : decode cX9_goesOn 120 = .ok (.iload_n 1, 1) := by decide +kernel
theorem dX9_goesOn_121 : decode cX9_goesOn 121 = .ok (.bipush 48, 2) := by decide +kernel
theorem dX9_goesOn_123 : decode cX9_goesOn 123 = .ok (.bipush 57, 2) := by decide +kernel
theorem dX9_goesOn_125 : decode cX9_goesOn 125 = .ok (.invokestatic 132, 3) := by decide +kernel
theorem dX9_goesOn_128 : decode cX9_goesOn 128 = .ok (.ifCond .eq 65, 3) := by decide +kernel
theorem dX9_goesOn_131 : decode cX9_goesOn 131 = .ok (.aload_n 0, 1) := by decide +kernel
theorem dX9_goesOn_132 : decode cX9_goesOn 132 = .ok (.iload_n 1, 1) := by decide +kernel
theorem dX9_goesOn_133 : decode cX9_goesOn 133 = .ok (.bipush 48, 2) := by decide +kernel
theorem dX9_goesOn_135 : decode cX9_goesOn 135 = .ok (.isub, 1) := by decide +kernel
theorem dX9_goesOn_136 : decode cX9_goesOn 136 = .ok (.putfield 136, 3) := by decide +kernel
theorem dX9_goesOn_139 : decode cX9_goesOn 139 = .ok (.aload_n 0, 1) := by decide +kernel
theorem dX9_goesOn_140 : decode cX9_goesOn 140 = .ok (.aload_n 0, 1) := by decide +kernel
theorem dX9_goesOn_141 : decode cX9_goesOn 141 = .ok (.getfield 119, 3) := by decide +kernel
theorem dX9_goesOn_144 : decode cX9_goesOn 144 = .ok (.invokevirtual 122, 3) := by decide +kernel
theorem dX9_goesOn_147 : decode cX9_goesOn 147 = .ok (.bipush 48, 2) := by decide +kernel
theorem dX9_goesOn_149 : decode cX9_goesOn 149 = .ok (.bipush 57, 2) := by decide +kernel
theorem dX9_goesOn_151 : decode cX9_goesOn 151 = .ok (.invokestatic 132, 3) := by decide +kernel
theorem dX9_goesOn_154 : decode cX9_goesOn 154 = .ok (.ifCond .eq 16, 3) := by decide +kernel
theorem dX9_goesOn_157 : decode cX9_goesOn 157 = .ok (.aload_n 0, 1) := by decide +kernel
theorem dX9_goesOn_158 : decode cX9_goesOn 158 = .ok (.dup, 1) := by decide +kernel
theorem dX9_goesOn_159 : decode cX9_goesOn 159 = .ok (.getfield 119, 3) := by decide +kernel
theorem dX9_goesOn_162 : decode cX9_goesOn 162 = .ok (.iconst 1, 1) := by decide +kernel
theorem dX9_goesOn_163 : decode cX9_goesOn 163 = .ok (.iadd, 1) := by decide +kernel
theorem dX9_goesOn_164 : decode cX9_goesOn 164 = .ok (.putfield 119, 3) := by decide +kernel
theorem dX9_goesOn_167 : decode cX9_goesOn 167 = .ok (.goto (-28), 3) := by decide +kernel
theorem dX9_goesOn_170 : decode cX9_goesOn 170 = .ok (.aload_n 0, 1) := by decide +kernel
theorem dX9_goesOn_171 : decode cX9_goesOn 171 = .ok (.aload_n 0, 1) := by decide +kernel
theorem dX9_goesOn_172 : decode cX9_goesOn 172 = .ok (.getfield 119, 3) := by decide +kernel
theorem dX9_goesOn_175 : decode cX9_goesOn 175 = .ok (.aload_n 0, 1) := by decide +kernel
theorem dX9_goesOn_176 : decode cX9_goesOn 176 = .ok (.getfield 126, 3) := by decide +kernel
theorem dX9_goesOn_179 : decode cX9_goesOn 179 = .ok (.isub, 1) := by decide +kernel
theorem dX9_goesOn_180 : decode cX9_goesOn 180 = .ok (.iconst 1, 1) := by decide +kernel
theorem dX9_goesOn_181 : decode cX9_goesOn 181 = .ok (.if_icmp .le 7, 3) := by decide +kernel
theorem dX9_goesOn_184 : decode cX9_goesOn 184 = .ok (.iconst 1, 1) := by decide +kernel
theorem dX9_goesOn_185 : decode cX9_goesOn 185 = .ok (.goto 4, 3) := by decide +kernel
theorem dX9_goesOn_188 : decode cX9_goesOn 188 = .ok (.iconst 3, 1) := by decide +kernel
theorem dX9_goesOn_189 : decode cX9_goesOn 189 = .ok (.putfield 129, 3) := by decide +kernel
theorem dX9_goesOn_192 : decode cX9_goesOn 192 = .ok (.return_, 1) := by decide +kernel
theorem dX9_goesOn_193 : decode cX9_goesOn 193 = .ok (.aload_n 0, 1) := by decide +kernel
theorem dX9_goesOn_194 : decode cX9_goesOn 194 = .ok (.dup, 1) := by decide +kernel
theorem dX9_goesOn_195 : decode cX9_goesOn 195 = .ok (.getfield 119, 3) := by decide +kernel
theorem dX9_goesOn_198 : decode cX9_goesOn 198 = .ok (.iconst 1, 1) := by decide +kernel
theorem dX9_goesOn_199 : decode cX9_goesOn 199 = .ok (.iadd, 1) := by decide +kernel
theorem dX9_goesOn_200 : decode cX9_goesOn 200 = .ok (.putfield 119, 3) := by decide +kernel
theorem dX9_goesOn_203 : decode cX9_goesOn 203 = .ok (.aload_n 0, 1) := by decide +kernel
theorem dX9_goesOn_204 : decode cX9_goesOn 204 = .ok (.iload_n 1, 1) := by decide +kernel
theorem dX9_goesOn_205 : decode cX9_goesOn 205 = .ok (.bipush 59, 2) := by decide +kernel
theorem dX9_goesOn_207 : decode cX9_goesOn 207 = .ok (.if_icmp .eq 27, 3) := by decide +kernel
theorem dX9_goesOn_210 : decode cX9_goesOn 210 = .ok (.iload_n 1, 1) := by decide +kernel
theorem dX9_goesOn_211 : decode cX9_goesOn 211 = .ok (.bipush 44, 2) := by decide +kernel
theorem dX9_goesOn_213 : decode cX9_goesOn 213 = .ok (.if_icmp .eq 21, 3) := by decide +kernel
theorem dX9_goesOn_216 : decode cX9_goesOn 216 = .ok (.iload_n 1, 1) := by decide +kernel
theorem dX9_goesOn_217 : decode cX9_goesOn 217 = .ok (.bipush 61, 2) := by decide +kernel
theorem dX9_goesOn_219 : decode cX9_goesOn 219 = .ok (.if_icmp .eq 15, 3) := by decide +kernel
theorem dX9_goesOn_222 : decode cX9_goesOn 222 = .ok (.iload_n 1, 1) := by decide +kernel
theorem dX9_goesOn_223 : decode cX9_goesOn 223 = .ok (.bipush 40, 2) := by decide +kernel
theorem dX9_goesOn_225 : decode cX9_goesOn 225 = .ok (.if_icmp .eq 9, 3) := by decide +kernel
theorem dX9_goesOn_228 : decode cX9_goesOn 228 = .ok (.iload_n 1, 1) := by decide +kernel
theorem dX9_goesOn_229 : decode cX9_goesOn 229 = .ok (.bipush 41, 2) := by decide +kernel
theorem dX9_goesOn_231 : decode cX9_goesOn 231 = .ok (.if_icmp .ne 7, 3) := by decide +kernel
theorem dX9_goesOn_234 : decode cX9_goesOn 234 = .ok (.iload_n 1, 1) := by decide +kernel
theorem dX9_goesOn_235 : decode cX9_goesOn 235 = .ok (.goto 4, 3) := by decide +kernel
theorem dX9_goesOn_238 : decode cX9_goesOn 238 = .ok (.iconst 1, 1) := by decide +kernel
theorem dX9_goesOn_239 : decode cX9_goesOn 239 = .ok (.putfield 129, 3) := by decide +kernel
theorem dX9_goesOn_242 : decode cX9_goesOn 242 = .ok (.return_, 1) := by decide +kernel
theorem dX9_isWord_0 : decode cX9_isWord 0 = .ok (.aload_n 0, 1) := by decide +kernel
theorem dX9_isWord_1 : decode cX9_isWord 1 = .ok (.getfield 129, 3) := by decide +kernel
theorem dX9_isWord_4 : decode cX9_isWord 4 = .ok (.iconst 2, 1) := by decide +kernel
theorem dX9_isWord_5 : decode cX9_isWord 5 = .ok (.if_icmp .ne 19, 3) := by decide +kernel
theorem dX9_isWord_8 : decode cX9_isWord 8 = .ok (.aload_n 0, 1) := by decide +kernel
theorem dX9_isWord_9 : decode cX9_isWord 9 = .ok (.getfield 119, 3) := by decide +kernel
theorem dX9_isWord_12 : decode cX9_isWord 12 = .ok (.aload_n 0, 1) := by decide +kernel
theorem dX9_isWord_13 : decode cX9_isWord 13 = .ok (.getfield 126, 3) := by decide +kernel
theorem dX9_isWord_16 : decode cX9_isWord 16 = .ok (.isub, 1) := by decide +kernel
theorem dX9_isWord_17 : decode cX9_isWord 17 = .ok (.aload_n 1, 1) := by decide +kernel
theorem dX9_isWord_18 : decode cX9_isWord 18 = .ok (.invokevirtual 139, 3) := by decide +kernel
theorem dX9_isWord_21 : decode cX9_isWord 21 = .ok (.if_icmp .eq 5, 3) := by decide +kernel
theorem dX9_isWord_24 : decode cX9_isWord 24 = .ok (.iconst 0, 1) := by decide +kernel
theorem dX9_isWord_25 : decode cX9_isWord 25 = .ok (.ireturn, 1) := by decide +kernel
theorem dX9_isWord_26 : decode cX9_isWord 26 = .ok (.iconst 0, 1) := by decide +kernel
theorem dX9_isWord_27 : decode cX9_isWord 27 = .ok (.istore_n 2, 1) := by decide +kernel
theorem dX9_isWord_28 : decode cX9_isWord 28 = .ok (.iload_n 2, 1) := by decide +kernel
theorem dX9_isWord_29 : decode cX9_isWord 29 = .ok (.aload_n 1, 1) := by decide +kernel
theorem dX9_isWord_30 : decode cX9_isWord 30 = .ok (.invokevirtual 139, 3) := by decide +kernel
theorem dX9_isWord_33 : decode cX9_isWord 33 = .ok (.if_icmp .ge 30, 3) := by decide +kernel
theorem dX9_isWord_36 : decode cX9_isWord 36 = .ok (.aload_n 0, 1) := by decide +kernel
theorem dX9_isWord_37 : decode cX9_isWord 37 = .ok (.getfield 13, 3) := by decide +kernel
theorem dX9_isWord_40 : decode cX9_isWord 40 = .ok (.aload_n 0, 1) := by decide +kernel
theorem dX9_isWord_41 : decode cX9_isWord 41 = .ok (.getfield 126, 3) := by decide +kernel
theorem dX9_isWord_44 : decode cX9_isWord 44 = .ok (.iload_n 2, 1) := by decide +kernel
theorem dX9_isWord_45 : decode cX9_isWord 45 = .ok (.iadd, 1) := by decide +kernel
theorem dX9_isWord_46 : decode cX9_isWord 46 = .ok (.iaload, 1) := by decide +kernel
theorem dX9_isWord_47 : decode cX9_isWord 47 = .ok (.aload_n 1, 1) := by decide +kernel
theorem dX9_isWord_48 : decode cX9_isWord 48 = .ok (.iload_n 2, 1) := by decide +kernel
theorem dX9_isWord_49 : decode cX9_isWord 49 = .ok (.invokevirtual 145, 3) := by decide +kernel
theorem dX9_isWord_52 : decode cX9_isWord 52 = .ok (.if_icmp .eq 5, 3) := by decide +kernel
theorem dX9_isWord_55 : decode cX9_isWord 55 = .ok (.iconst 0, 1) := by decide +kernel
theorem dX9_isWord_56 : decode cX9_isWord 56 = .ok (.ireturn, 1) := by decide +kernel
theorem dX9_isWord_57 : decode cX9_isWord 57 = .ok (.iinc 2 1, 3) := by decide +kernel
theorem dX9_isWord_60 : decode cX9_isWord 60 = .ok (.goto (-32), 3) := by decide +kernel
theorem dX9_isWord_63 : decode cX9_isWord 63 = .ok (.iconst 1, 1) := by decide +kernel
theorem dX9_isWord_64 : decode cX9_isWord 64 = .ok (.ireturn, 1) := by decide +kernel
theorem dX9_errs_0 : decode cX9_errs 0 = .ok (.aload_n 0, 1) := by decide +kernel
theorem dX9_errs_1 : decode cX9_errs 1 = .ok (.iload_n 1, 1) := by decide +kernel
theorem dX9_errs_2 : decode cX9_errs 2 = .ok (.putfield 149, 3) := by decide +kernel
theorem dX9_errs_5 : decode cX9_errs 5 = .ok (.aload_n 0, 1) := by decide +kernel
theorem dX9_errs_6 : decode cX9_errs 6 = .ok (.aload_n 0, 1) := by decide +kernel
theorem dX9_errs_7 : decode cX9_errs 7 = .ok (.getfield 126, 3) := by decide +kernel
theorem dX9_errs_10 : decode cX9_errs 10 = .ok (.putfield 152, 3) := by decide +kernel
theorem dX9_errs_13 : decode cX9_errs 13 = .ok (.iconst 0, 1) := by decide +kernel
theorem dX9_errs_14 : decode cX9_errs 14 = .ok (.ireturn, 1) := by decide +kernel
theorem dX9_isName_0 : decode cX9_isName 0 = .ok (.aload_n 0, 1) := by decide +kernel
theorem dX9_isName_1 : decode cX9_isName 1 = .ok (.getfield 129, 3) := by decide +kernel
theorem dX9_isName_4 : decode cX9_isName 4 = .ok (.iconst 2, 1) := by decide +kernel
theorem dX9_isName_5 : decode cX9_isName 5 = .ok (.if_icmp .ne 43, 3) := by decide +kernel
theorem dX9_isName_8 : decode cX9_isName 8 = .ok (.aload_n 0, 1) := by decide +kernel
theorem dX9_isName_9 : decode cX9_isName 9 = .ok (.ldc 155, 2) := by decide +kernel
theorem dX9_isName_11 : decode cX9_isName 11 = .ok (.invokevirtual 156, 3) := by decide +kernel
theorem dX9_isName_14 : decode cX9_isName 14 = .ok (.ifCond .ne 34, 3) := by decide +kernel
theorem dX9_isName_17 : decode cX9_isName 17 = .ok (.aload_n 0, 1) := by decide +kernel
theorem dX9_isName_18 : decode cX9_isName 18 = .ok (.ldc 160, 2) := by decide +kernel
theorem dX9_isName_20 : decode cX9_isName 20 = .ok (.invokevirtual 156, 3) := by decide +kernel
theorem dX9_isName_23 : decode cX9_isName 23 = .ok (.ifCond .ne 25, 3) := by decide +kernel
theorem dX9_isName_26 : decode cX9_isName 26 = .ok (.aload_n 0, 1) := by decide +kernel
theorem dX9_isName_27 : decode cX9_isName 27 = .ok (.ldc 162, 2) := by decide +kernel
theorem dX9_isName_29 : decode cX9_isName 29 = .ok (.invokevirtual 156, 3) := by decide +kernel
theorem dX9_isName_32 : decode cX9_isName 32 = .ok (.ifCond .ne 16, 3) := by decide +kernel
theorem dX9_isName_35 : decode cX9_isName 35 = .ok (.aload_n 0, 1) := by decide +kernel
theorem dX9_isName_36 : decode cX9_isName 36 = .ok (.ldc 164, 2) := by decide +kernel
theorem dX9_isName_38 : decode cX9_isName 38 = .ok (.invokevirtual 156, 3) := by decide +kernel
theorem dX9_isName_41 : decode cX9_isName 41 = .ok (.ifCond .ne 7, 3) := by decide +kernel
theorem dX9_isName_44 : decode cX9_isName 44 = .ok (.iconst 1, 1) := by decide +kernel
theorem dX9_isName_45 : decode cX9_isName 45 = .ok (.goto 4, 3) := by decide +kernel
theorem dX9_isName_48 : decode cX9_isName 48 = .ok (.iconst 0, 1) := by decide +kernel
theorem dX9_isName_49 : decode cX9_isName 49 = .ok (.ireturn, 1) := by decide +kernel
theorem dX9_isAt_0 : decode cX9_isAt 0 = .ok (.iconst 1, 1) := by decide +kernel
theorem dX9_isAt_1 : decode cX9_isAt 1 = .ok (.istore 5, 2) := by decide +kernel
theorem dX9_isAt_3 : decode cX9_isAt 3 = .ok (.iconst 0, 1) := by decide +kernel
theorem dX9_isAt_4 : decode cX9_isAt 4 = .ok (.istore 6, 2) := by decide +kernel
theorem dX9_isAt_6 : decode cX9_isAt 6 = .ok (.iload 6, 2) := by decide +kernel
theorem dX9_isAt_8 : decode cX9_isAt 8 = .ok (.bipush 6, 2) := by decide +kernel
theorem dX9_isAt_10 : decode cX9_isAt 10 = .ok (.if_icmp .ge 73, 3) := by decide +kernel
theorem dX9_isAt_13 : decode cX9_isAt 13 = .ok (.iload 5, 2) := by decide +kernel
theorem dX9_isAt_15 : decode cX9_isAt 15 = .ok (.ifCond .eq 59, 3) := by decide +kernel
theorem dX9_isAt_18 : decode cX9_isAt 18 = .ok (.aload_n 1, 1) := by decide +kernel
theorem dX9_isAt_19 : decode cX9_isAt 19 = .ok (.iload_n 2, 1) := by decide +kernel
theorem dX9_isAt_20 : decode cX9_isAt 20 = .ok (.iload 6, 2) := by decide +kernel
theorem dX9_isAt_22 : decode cX9_isAt 22 = .ok (.iadd, 1) := by decide +kernel
theorem dX9_isAt_23 : decode cX9_isAt 23 = .ok (.iaload, 1) := by decide +kernel
theorem dX9_isAt_24 : decode cX9_isAt 24 = .ok (.iload_n 3, 1) := by decide +kernel
theorem dX9_isAt_25 : decode cX9_isAt 25 = .ok (.iload 6, 2) := by decide +kernel
theorem dX9_isAt_27 : decode cX9_isAt 27 = .ok (.iadd, 1) := by decide +kernel
theorem dX9_isAt_28 : decode cX9_isAt 28 = .ok (.iload 4, 2) := by decide +kernel
theorem dX9_isAt_30 : decode cX9_isAt 30 = .ok (.if_icmp .ge 15, 3) := by decide +kernel
theorem dX9_isAt_33 : decode cX9_isAt 33 = .ok (.aload_n 0, 1) := by decide +kernel
theorem dX9_isAt_34 : decode cX9_isAt 34 = .ok (.getfield 13, 3) := by decide +kernel
theorem dX9_isAt_37 : decode cX9_isAt 37 = .ok (.iload_n 3, 1) := by decide +kernel
theorem dX9_isAt_38 : decode cX9_isAt 38 = .ok (.iload 6, 2) := by decide +kernel
theorem dX9_isAt_40 : decode cX9_isAt 40 = .ok (.iadd, 1) := by decide +kernel
theorem dX9_isAt_41 : decode cX9_isAt 41 = .ok (.iaload, 1) := by decide +kernel
theorem dX9_isAt_42 : decode cX9_isAt 42 = .ok (.goto 4, 3) := by decide +kernel
theorem dX9_isAt_45 : decode cX9_isAt 45 = .ok (.iconst 0, 1) := by decide +kernel
theorem dX9_isAt_46 : decode cX9_isAt 46 = .ok (.if_icmp .ne 28, 3) := by decide +kernel
theorem dX9_isAt_49 : decode cX9_isAt 49 = .ok (.iload_n 3, 1) := by decide +kernel
theorem dX9_isAt_50 : decode cX9_isAt 50 = .ok (.iload 6, 2) := by decide +kernel
theorem dX9_isAt_52 : decode cX9_isAt 52 = .ok (.iadd, 1) := by decide +kernel
theorem dX9_isAt_53 : decode cX9_isAt 53 = .ok (.iload 4, 2) := by decide +kernel
theorem dX9_isAt_55 : decode cX9_isAt 55 = .ok (.if_icmp .ge 15, 3) := by decide +kernel
theorem dX9_isAt_58 : decode cX9_isAt 58 = .ok (.aload_n 0, 1) := by decide +kernel
theorem dX9_isAt_59 : decode cX9_isAt 59 = .ok (.getfield 13, 3) := by decide +kernel
theorem dX9_isAt_62 : decode cX9_isAt 62 = .ok (.iload_n 3, 1) := by decide +kernel
theorem dX9_isAt_63 : decode cX9_isAt 63 = .ok (.iload 6, 2) := by decide +kernel
theorem dX9_isAt_65 : decode cX9_isAt 65 = .ok (.iadd, 1) := by decide +kernel
theorem dX9_isAt_66 : decode cX9_isAt 66 = .ok (.iaload, 1) := by decide +kernel
theorem dX9_isAt_67 : decode cX9_isAt 67 = .ok (.ifCond .eq 7, 3) := by decide +kernel
theorem dX9_isAt_70 : decode cX9_isAt 70 = .ok (.iconst 1, 1) := by decide +kernel
theorem dX9_isAt_71 : decode cX9_isAt 71 = .ok (.goto 4, 3) := by decide +kernel
theorem dX9_isAt_74 : decode cX9_isAt 74 = .ok (.iconst 0, 1) := by decide +kernel
theorem dX9_isAt_75 : decode cX9_isAt 75 = .ok (.istore 5, 2) := by decide +kernel
theorem dX9_isAt_77 : decode cX9_isAt 77 = .ok (.iinc 6 1, 3) := by decide +kernel
theorem dX9_isAt_80 : decode cX9_isAt 80 = .ok (.goto (-74), 3) := by decide +kernel
theorem dX9_isAt_83 : decode cX9_isAt 83 = .ok (.iload 5, 2) := by decide +kernel
theorem dX9_isAt_85 : decode cX9_isAt 85 = .ok (.ifCond .eq 16, 3) := by decide +kernel
theorem dX9_isAt_88 : decode cX9_isAt 88 = .ok (.iload 4, 2) := by decide +kernel
theorem dX9_isAt_90 : decode cX9_isAt 90 = .ok (.iload_n 3, 1) := by decide +kernel
theorem dX9_isAt_91 : decode cX9_isAt 91 = .ok (.isub, 1) := by decide +kernel
theorem dX9_isAt_92 : decode cX9_isAt 92 = .ok (.bipush 6, 2) := by decide +kernel
theorem dX9_isAt_94 : decode cX9_isAt 94 = .ok (.if_icmp .gt 7, 3) := by decide +kernel
theorem dX9_isAt_97 : decode cX9_isAt 97 = .ok (.iconst 1, 1) := by decide +kernel
theorem dX9_isAt_98 : decode cX9_isAt 98 = .ok (.goto 4, 3) := by decide +kernel
theorem dX9_isAt_101 : decode cX9_isAt 101 = .ok (.iconst 0, 1) := by decide +kernel
theorem dX9_isAt_102 : decode cX9_isAt 102 = .ok (.ireturn, 1) := by decide +kernel
theorem dX9_keeps_0 : decode cX9_keeps 0 = .ok (.iconst 0, 1) := by decide +kernel
theorem dX9_keeps_1 : decode cX9_keeps 1 = .ok (.istore_n 3, 1) := by decide +kernel
theorem dX9_keeps_2 : decode cX9_keeps 2 = .ok (.iload_n 3, 1) := by decide +kernel
theorem dX9_keeps_3 : decode cX9_keeps 3 = .ok (.bipush 6, 2) := by decide +kernel
theorem dX9_keeps_5 : decode cX9_keeps 5 = .ok (.if_icmp .ge 42, 3) := by decide +kernel
theorem dX9_keeps_8 : decode cX9_keeps 8 = .ok (.aload_n 1, 1) := by decide +kernel
theorem dX9_keeps_9 : decode cX9_keeps 9 = .ok (.iload_n 2, 1) := by decide +kernel
theorem dX9_keeps_10 : decode cX9_keeps 10 = .ok (.iload_n 3, 1) := by decide +kernel
theorem dX9_keeps_11 : decode cX9_keeps 11 = .ok (.iadd, 1) := by decide +kernel
theorem dX9_keeps_12 : decode cX9_keeps 12 = .ok (.aload_n 0, 1) := by decide +kernel
theorem dX9_keeps_13 : decode cX9_keeps 13 = .ok (.getfield 126, 3) := by decide +kernel
theorem dX9_keeps_16 : decode cX9_keeps 16 = .ok (.iload_n 3, 1) := by decide +kernel
theorem dX9_keeps_17 : decode cX9_keeps 17 = .ok (.iadd, 1) := by decide +kernel
theorem dX9_keeps_18 : decode cX9_keeps 18 = .ok (.aload_n 0, 1) := by decide +kernel
theorem dX9_keeps_19 : decode cX9_keeps 19 = .ok (.getfield 119, 3) := by decide +kernel
theorem dX9_keeps_22 : decode cX9_keeps 22 = .ok (.if_icmp .ge 17, 3) := by decide +kernel
theorem dX9_keeps_25 : decode cX9_keeps 25 = .ok (.aload_n 0, 1) := by decide +kernel
theorem dX9_keeps_26 : decode cX9_keeps 26 = .ok (.getfield 13, 3) := by decide +kernel
theorem dX9_keeps_29 : decode cX9_keeps 29 = .ok (.aload_n 0, 1) := by decide +kernel
theorem dX9_keeps_30 : decode cX9_keeps 30 = .ok (.getfield 126, 3) := by decide +kernel
theorem dX9_keeps_33 : decode cX9_keeps 33 = .ok (.iload_n 3, 1) := by decide +kernel
theorem dX9_keeps_34 : decode cX9_keeps 34 = .ok (.iadd, 1) := by decide +kernel
theorem dX9_keeps_35 : decode cX9_keeps 35 = .ok (.iaload, 1) := by decide +kernel
theorem dX9_keeps_36 : decode cX9_keeps 36 = .ok (.goto 4, 3) := by decide +kernel
theorem dX9_keeps_39 : decode cX9_keeps 39 = .ok (.iconst 0, 1) := by decide +kernel
theorem dX9_keeps_40 : decode cX9_keeps 40 = .ok (.iastore, 1) := by decide +kernel
theorem dX9_keeps_41 : decode cX9_keeps 41 = .ok (.iinc 3 1, 3) := by decide +kernel
theorem dX9_keeps_44 : decode cX9_keeps 44 = .ok (.goto (-42), 3) := by decide +kernel
theorem dX9_keeps_47 : decode cX9_keeps 47 = .ok (.return_, 1) := by decide +kernel
theorem dX9_funHere_0 : decode cX9_funHere 0 = .ok (.iconst 0, 1) := by decide +kernel
theorem dX9_funHere_1 : decode cX9_funHere 1 = .ok (.istore_n 1, 1) := by decide +kernel
theorem dX9_funHere_2 : decode cX9_funHere 2 = .ok (.iload_n 1, 1) := by decide +kernel
theorem dX9_funHere_3 : decode cX9_funHere 3 = .ok (.aload_n 0, 1) := by decide +kernel
theorem dX9_funHere_4 : decode cX9_funHere 4 = .ok (.getfield 166, 3) := by decide +kernel
theorem dX9_funHere_7 : decode cX9_funHere 7 = .ok (.if_icmp .ge 34, 3) := by decide +kernel
theorem dX9_funHere_10 : decode cX9_funHere 10 = .ok (.aload_n 0, 1) := by decide +kernel
theorem dX9_funHere_11 : decode cX9_funHere 11 = .ok (.aload_n 0, 1) := by decide +kernel
theorem dX9_funHere_12 : decode cX9_funHere 12 = .ok (.getfield 29, 3) := by decide +kernel
theorem dX9_funHere_15 : decode cX9_funHere 15 = .ok (.bipush 6, 2) := by decide +kernel
theorem dX9_funHere_17 : decode cX9_funHere 17 = .ok (.iload_n 1, 1) := by decide +kernel
theorem dX9_funHere_18 : decode cX9_funHere 18 = .ok (.imul, 1) := by decide +kernel
theorem dX9_funHere_19 : decode cX9_funHere 19 = .ok (.aload_n 0, 1) := by decide +kernel
theorem dX9_funHere_20 : decode cX9_funHere 20 = .ok (.getfield 126, 3) := by decide +kernel
theorem dX9_funHere_23 : decode cX9_funHere 23 = .ok (.aload_n 0, 1) := by decide +kernel
theorem dX9_funHere_24 : decode cX9_funHere 24 = .ok (.getfield 119, 3) := by decide +kernel
theorem dX9_funHere_27 : decode cX9_funHere 27 = .ok (.invokevirtual 169, 3) := by decide +kernel
theorem dX9_funHere_30 : decode cX9_funHere 30 = .ok (.ifCond .eq 5, 3) := by decide +kernel
theorem dX9_funHere_33 : decode cX9_funHere 33 = .ok (.iload_n 1, 1) := by decide +kernel
theorem dX9_funHere_34 : decode cX9_funHere 34 = .ok (.ireturn, 1) := by decide +kernel
theorem dX9_funHere_35 : decode cX9_funHere 35 = .ok (.iinc 1 1, 3) := by decide +kernel
theorem dX9_funHere_38 : decode cX9_funHere 38 = .ok (.goto (-36), 3) := by decide +kernel
theorem dX9_funHere_41 : decode cX9_funHere 41 = .ok (.iconst (-1), 1) := by decide +kernel
theorem dX9_funHere_42 : decode cX9_funHere 42 = .ok (.ireturn, 1) := by decide +kernel
theorem dX9_termHere_0 : decode cX9_termHere 0 = .ok (.iconst 0, 1) := by decide +kernel
theorem dX9_termHere_1 : decode cX9_termHere 1 = .ok (.istore_n 1, 1) := by decide +kernel
theorem dX9_termHere_2 : decode cX9_termHere 2 = .ok (.iload_n 1, 1) := by decide +kernel
theorem dX9_termHere_3 : decode cX9_termHere 3 = .ok (.aload_n 0, 1) := by decide +kernel
theorem dX9_termHere_4 : decode cX9_termHere 4 = .ok (.getfield 173, 3) := by decide +kernel
theorem dX9_termHere_7 : decode cX9_termHere 7 = .ok (.if_icmp .ge 37, 3) := by decide +kernel
theorem dX9_termHere_10 : decode cX9_termHere 10 = .ok (.aload_n 0, 1) := by decide +kernel
theorem dX9_termHere_11 : decode cX9_termHere 11 = .ok (.aload_n 0, 1) := by decide +kernel
theorem dX9_termHere_12 : decode cX9_termHere 12 = .ok (.getfield 26, 3) := by decide +kernel
theorem dX9_termHere_15 : decode cX9_termHere 15 = .ok (.bipush 6, 2) := by decide +kernel
theorem dX9_termHere_17 : decode cX9_termHere 17 = .ok (.bipush 24, 2) := by decide +kernel
theorem dX9_termHere_19 : decode cX9_termHere 19 = .ok (.iload_n 1, 1) := by decide +kernel
theorem dX9_termHere_20 : decode cX9_termHere 20 = .ok (.iadd, 1) := by decide +kernel
theorem dX9_termHere_21 : decode cX9_termHere 21 = .ok (.imul, 1) := by decide +kernel
theorem dX9_termHere_22 : decode cX9_termHere 22 = .ok (.aload_n 0, 1) := by decide +kernel
theorem dX9_termHere_23 : decode cX9_termHere 23 = .ok (.getfield 126, 3) := by decide +kernel
theorem dX9_termHere_26 : decode cX9_termHere 26 = .ok (.aload_n 0, 1) := by decide +kernel
theorem dX9_termHere_27 : decode cX9_termHere 27 = .ok (.getfield 119, 3) := by decide +kernel
theorem dX9_termHere_30 : decode cX9_termHere 30 = .ok (.invokevirtual 169, 3) := by decide +kernel
theorem dX9_termHere_33 : decode cX9_termHere 33 = .ok (.ifCond .eq 5, 3) := by decide +kernel
theorem dX9_termHere_36 : decode cX9_termHere 36 = .ok (.iload_n 1, 1) := by decide +kernel
theorem dX9_termHere_37 : decode cX9_termHere 37 = .ok (.ireturn, 1) := by decide +kernel
theorem dX9_termHere_38 : decode cX9_termHere 38 = .ok (.iinc 1 1, 3) := by decide +kernel
theorem dX9_termHere_41 : decode cX9_termHere 41 = .ok (.goto (-39), 3) := by decide +kernel
theorem dX9_termHere_44 : decode cX9_termHere 44 = .ok (.iconst (-1), 1) := by decide +kernel
theorem dX9_termHere_45 : decode cX9_termHere 45 = .ok (.ireturn, 1) := by decide +kernel
theorem dX9_readFun_0 : decode cX9_readFun 0 = .ok (.aload_n 0, 1) := by decide +kernel
theorem dX9_readFun_1 : decode cX9_readFun 1 = .ok (.getfield 166, 3) := by decide +kernel
theorem dX9_readFun_4 : decode cX9_readFun 4 = .ok (.bipush 8, 2) := by decide +kernel
theorem dX9_readFun_6 : decode cX9_readFun 6 = .ok (.if_icmp .ne 9, 3) := by decide +kernel
theorem dX9_readFun_9 : decode cX9_readFun 9 = .ok (.aload_n 0, 1) := by decide +kernel
theorem dX9_readFun_10 : decode cX9_readFun 10 = .ok (.iconst 4, 1) := by decide +kernel
theorem dX9_readFun_11 : decode cX9_readFun 11 = .ok (.invokevirtual 176, 3) := by decide +kernel
theorem dX9_readFun_14 : decode cX9_readFun 14 = .ok (.ireturn, 1) := by decide +kernel
theorem dX9_readFun_15 : decode cX9_readFun 15 = .ok (.aload_n 0, 1) := by decide +kernel
theorem dX9_readFun_16 : decode cX9_readFun 16 = .ok (.invokevirtual 180, 3) := by decide +kernel
theorem dX9_readFun_19 : decode cX9_readFun 19 = .ok (.aload_n 0, 1) := by decide +kernel
theorem dX9_readFun_20 : decode cX9_readFun 20 = .ok (.invokevirtual 183, 3) := by decide +kernel
theorem dX9_readFun_23 : decode cX9_readFun 23 = .ok (.ifCond .ne 9, 3) := by decide +kernel
theorem dX9_readFun_26 : decode cX9_readFun 26 = .ok (.aload_n 0, 1) := by decide +kernel
theorem dX9_readFun_27 : decode cX9_readFun 27 = .ok (.iconst 1, 1) := by decide +kernel
theorem dX9_readFun_28 : decode cX9_readFun 28 = .ok (.invokevirtual 176, 3) := by decide +kernel
theorem dX9_readFun_31 : decode cX9_readFun 31 = .ok (.ireturn, 1) := by decide +kernel
theorem dX9_readFun_32 : decode cX9_readFun 32 = .ok (.aload_n 0, 1) := by decide +kernel
theorem dX9_readFun_33 : decode cX9_readFun 33 = .ok (.invokevirtual 187, 3) := by decide +kernel
theorem dX9_readFun_36 : decode cX9_readFun 36 = .ok (.iconst (-1), 1) := by decide +kernel
theorem dX9_readFun_37 : decode cX9_readFun 37 = .ok (.if_icmp .ne 11, 3) := by decide +kernel
theorem dX9_readFun_40 : decode cX9_readFun 40 = .ok (.aload_n 0, 1) := by decide +kernel
theorem dX9_readFun_41 : decode cX9_readFun 41 = .ok (.invokevirtual 190, 3) := by decide +kernel
theorem dX9_readFun_44 : decode cX9_readFun 44 = .ok (.iconst (-1), 1) := by decide +kernel
theorem dX9_readFun_45 : decode cX9_readFun 45 = .ok (.if_icmp .eq 9, 3) := by decide +kernel
theorem dX9_readFun_48 : decode cX9_readFun 48 = .ok (.aload_n 0, 1) := by decide +kernel
theorem dX9_readFun_49 : decode cX9_readFun 49 = .ok (.iconst 3, 1) := by decide +kernel
theorem dX9_readFun_50 : decode cX9_readFun 50 = .ok (.invokevirtual 176, 3) := by decide +kernel
theorem dX9_readFun_53 : decode cX9_readFun 53 = .ok (.ireturn, 1) := by decide +kernel
theorem dX9_readFun_54 : decode cX9_readFun 54 = .ok (.aload_n 0, 1) := by decide +kernel
theorem dX9_readFun_55 : decode cX9_readFun 55 = .ok (.aload_n 0, 1) := by decide +kernel
theorem dX9_readFun_56 : decode cX9_readFun 56 = .ok (.getfield 29, 3) := by decide +kernel
theorem dX9_readFun_59 : decode cX9_readFun 59 = .ok (.bipush 6, 2) := by decide +kernel
theorem dX9_readFun_61 : decode cX9_readFun 61 = .ok (.aload_n 0, 1) := by decide +kernel
theorem dX9_readFun_62 : decode cX9_readFun 62 = .ok (.getfield 166, 3) := by decide +kernel
theorem dX9_readFun_65 : decode cX9_readFun 65 = .ok (.imul, 1) := by decide +kernel
theorem dX9_readFun_66 : decode cX9_readFun 66 = .ok (.invokevirtual 193, 3) := by decide +kernel
theorem dX9_readFun_69 : decode cX9_readFun 69 = .ok (.aload_n 0, 1) := by decide +kernel
theorem dX9_readFun_70 : decode cX9_readFun 70 = .ok (.invokevirtual 180, 3) := by decide +kernel
theorem dX9_readFun_73 : decode cX9_readFun 73 = .ok (.aload_n 0, 1) := by decide +kernel
theorem dX9_readFun_74 : decode cX9_readFun 74 = .ok (.getfield 129, 3) := by decide +kernel
theorem dX9_readFun_77 : decode cX9_readFun 77 = .ok (.iconst 3, 1) := by decide +kernel
theorem dX9_readFun_78 : decode cX9_readFun 78 = .ok (.if_icmp .eq 9, 3) := by decide +kernel
theorem dX9_readFun_81 : decode cX9_readFun 81 = .ok (.aload_n 0, 1) := by decide +kernel
theorem dX9_readFun_82 : decode cX9_readFun 82 = .ok (.iconst 1, 1) := by decide +kernel
theorem dX9_readFun_83 : decode cX9_readFun 83 = .ok (.invokevirtual 176, 3) := by decide +kernel
theorem dX9_readFun_86 : decode cX9_readFun 86 = .ok (.ireturn, 1) := by decide +kernel
theorem dX9_readFun_87 : decode cX9_readFun 87 = .ok (.aload_n 0, 1) := by decide +kernel
theorem dX9_readFun_88 : decode cX9_readFun 88 = .ok (.getfield 136, 3) := by decide +kernel
theorem dX9_readFun_91 : decode cX9_readFun 91 = .ok (.iconst 3, 1) := by decide +kernel
theorem dX9_readFun_92 : decode cX9_readFun 92 = .ok (.if_icmp .le 9, 3) := by decide +kernel
theorem dX9_readFun_95 : decode cX9_readFun 95 = .ok (.aload_n 0, 1) := by decide +kernel
theorem dX9_readFun_96 : decode cX9_readFun 96 = .ok (.iconst 2, 1) := by decide +kernel
theorem dX9_readFun_97 : decode cX9_readFun 97 = .ok (.invokevirtual 176, 3) := by decide +kernel
theorem dX9_readFun_100 : decode cX9_readFun 100 = .ok (.ireturn, 1) := by decide +kernel
theorem dX9_readFun_101 : decode cX9_readFun 101 = .ok (.aload_n 0, 1) := by decide +kernel
theorem dX9_readFun_102 : decode cX9_readFun 102 = .ok (.getfield 17, 3) := by decide +kernel
theorem dX9_readFun_105 : decode cX9_readFun 105 = .ok (.bipush 8, 2) := by decide +kernel
theorem dX9_readFun_107 : decode cX9_readFun 107 = .ok (.aload_n 0, 1) := by decide +kernel
theorem dX9_readFun_108 : decode cX9_readFun 108 = .ok (.getfield 166, 3) := by decide +kernel
theorem dX9_readFun_111 : decode cX9_readFun 111 = .ok (.iadd, 1) := by decide +kernel
theorem dX9_readFun_112 : decode cX9_readFun 112 = .ok (.aload_n 0, 1) := by decide +kernel
theorem dX9_readFun_113 : decode cX9_readFun 113 = .ok (.getfield 136, 3) := by decide +kernel
theorem dX9_readFun_116 : decode cX9_readFun 116 = .ok (.iastore, 1) := by decide +kernel
theorem dX9_readFun_117 : decode cX9_readFun 117 = .ok (.aload_n 0, 1) := by decide +kernel
theorem dX9_readFun_118 : decode cX9_readFun 118 = .ok (.dup, 1) := by decide +kernel
theorem dX9_readFun_119 : decode cX9_readFun 119 = .ok (.getfield 166, 3) := by decide +kernel
theorem dX9_readFun_122 : decode cX9_readFun 122 = .ok (.iconst 1, 1) := by decide +kernel
theorem dX9_readFun_123 : decode cX9_readFun 123 = .ok (.iadd, 1) := by decide +kernel
theorem dX9_readFun_124 : decode cX9_readFun 124 = .ok (.putfield 166, 3) := by decide +kernel
theorem dX9_readFun_127 : decode cX9_readFun 127 = .ok (.aload_n 0, 1) := by decide +kernel
theorem dX9_readFun_128 : decode cX9_readFun 128 = .ok (.invokevirtual 180, 3) := by decide +kernel
theorem dX9_readFun_131 : decode cX9_readFun 131 = .ok (.iconst 1, 1) := by decide +kernel
theorem dX9_readFun_132 : decode cX9_readFun 132 = .ok (.ireturn, 1) := by decide +kernel
theorem dX9_readParts_0 : decode cX9_readParts 0 = .ok (.aload_n 0, 1) := by decide +kernel
theorem dX9_readParts_1 : decode cX9_readParts 1 = .ok (.getfield 129, 3) := by decide +kernel
theorem dX9_readParts_4 : decode cX9_readParts 4 = .ok (.bipush 40, 2) := by decide +kernel
theorem dX9_readParts_6 : decode cX9_readParts 6 = .ok (.if_icmp .eq 41, 3) := by decide +kernel
theorem dX9_readParts_9 : decode cX9_readParts 9 = .ok (.iload_n 2, 1) := by decide +kernel
theorem dX9_readParts_10 : decode cX9_readParts 10 = .ok (.ifCond .eq 31, 3) := by decide +kernel
theorem dX9_readParts_13 : decode cX9_readParts 13 = .ok (.aload_n 0, 1) := by decide +kernel
theorem dX9_readParts_14 : decode cX9_readParts 14 = .ok (.aload_n 0, 1) := by decide +kernel
theorem dX9_readParts_15 : decode cX9_readParts 15 = .ok (.getfield 129, 3) := by decide +kernel
theorem dX9_readParts_18 : decode cX9_readParts 18 = .ok (.bipush 59, 2) := by decide +kernel
theorem dX9_readParts_20 : decode cX9_readParts 20 = .ok (.if_icmp .eq 10, 3) := by decide +kernel
theorem dX9_readParts_23 : decode cX9_readParts 23 = .ok (.aload_n 0, 1) := by decide +kernel
theorem dX9_readParts_24 : decode cX9_readParts 24 = .ok (.getfield 129, 3) := by decide +kernel
theorem dX9_readParts_27 : decode cX9_readParts 27 = .ok (.ifCond .ne 7, 3) := by decide +kernel
theorem dX9_readParts_30 : decode cX9_readParts 30 = .ok (.iconst 5, 1) := by decide +kernel
theorem dX9_readParts_31 : decode cX9_readParts 31 = .ok (.goto 4, 3) := by decide +kernel
theorem dX9_readParts_34 : decode cX9_readParts 34 = .ok (.iconst 1, 1) := by decide +kernel
theorem dX9_readParts_35 : decode cX9_readParts 35 = .ok (.invokevirtual 176, 3) := by decide +kernel
theorem dX9_readParts_38 : decode cX9_readParts 38 = .ok (.ifCond .eq 7, 3) := by decide +kernel
theorem dX9_readParts_41 : decode cX9_readParts 41 = .ok (.iconst 1, 1) := by decide +kernel
theorem dX9_readParts_42 : decode cX9_readParts 42 = .ok (.goto 4, 3) := by decide +kernel
theorem dX9_readParts_45 : decode cX9_readParts 45 = .ok (.iconst 0, 1) := by decide +kernel
theorem dX9_readParts_46 : decode cX9_readParts 46 = .ok (.ireturn, 1) := by decide +kernel
theorem dX9_readParts_47 : decode cX9_readParts 47 = .ok (.iload_n 2, 1) := by decide +kernel
theorem dX9_readParts_48 : decode cX9_readParts 48 = .ok (.ifCond .ne 9, 3) := by decide +kernel
theorem dX9_readParts_51 : decode cX9_readParts 51 = .ok (.aload_n 0, 1) := by decide +kernel
theorem dX9_readParts_52 : decode cX9_readParts 52 = .ok (.iconst 5, 1) := by decide +kernel
theorem dX9_readParts_53 : decode cX9_readParts 53 = .ok (.invokevirtual 176, 3) := by decide +kernel
theorem dX9_readParts_56 : decode cX9_readParts 56 = .ok (.ireturn, 1) := by decide +kernel
theorem dX9_readParts_57 : decode cX9_readParts 57 = .ok (.iconst 0, 1) := by decide +kernel
theorem dX9_readParts_58 : decode cX9_readParts 58 = .ok (.istore_n 3, 1) := by decide +kernel
theorem dX9_readParts_59 : decode cX9_readParts 59 = .ok (.iload_n 3, 1) := by decide +kernel
theorem dX9_readParts_60 : decode cX9_readParts 60 = .ok (.iload_n 2, 1) := by decide +kernel
theorem dX9_readParts_61 : decode cX9_readParts 61 = .ok (.if_icmp .ge 117, 3) := by decide +kernel
theorem dX9_readParts_64 : decode cX9_readParts 64 = .ok (.aload_n 0, 1) := by decide +kernel
theorem dX9_readParts_65 : decode cX9_readParts 65 = .ok (.invokevirtual 180, 3) := by decide +kernel
theorem dX9_readParts_68 : decode cX9_readParts 68 = .ok (.aload_n 0, 1) := by decide +kernel
theorem dX9_readParts_69 : decode cX9_readParts 69 = .ok (.invokevirtual 183, 3) := by decide +kernel
theorem dX9_readParts_72 : decode cX9_readParts 72 = .ok (.ifCond .ne 9, 3) := by decide +kernel
theorem dX9_readParts_75 : decode cX9_readParts 75 = .ok (.aload_n 0, 1) := by decide +kernel
theorem dX9_readParts_76 : decode cX9_readParts 76 = .ok (.iconst 1, 1) := by decide +kernel
theorem dX9_readParts_77 : decode cX9_readParts 77 = .ok (.invokevirtual 176, 3) := by decide +kernel
theorem dX9_readParts_80 : decode cX9_readParts 80 = .ok (.ireturn, 1) := by decide +kernel
theorem dX9_readParts_81 : decode cX9_readParts 81 = .ok (.aload_n 0, 1) := by decide +kernel
theorem dX9_readParts_82 : decode cX9_readParts 82 = .ok (.getfield 23, 3) := by decide +kernel
theorem dX9_readParts_85 : decode cX9_readParts 85 = .ok (.iload_n 1, 1) := by decide +kernel
theorem dX9_readParts_86 : decode cX9_readParts 86 = .ok (.iconst 1, 1) := by decide +kernel
theorem dX9_readParts_87 : decode cX9_readParts 87 = .ok (.iadd, 1) := by decide +kernel
theorem dX9_readParts_88 : decode cX9_readParts 88 = .ok (.iload_n 3, 1) := by decide +kernel
theorem dX9_readParts_89 : decode cX9_readParts 89 = .ok (.iadd, 1) := by decide +kernel
theorem dX9_readParts_90 : decode cX9_readParts 90 = .ok (.aload_n 0, 1) := by decide +kernel
theorem dX9_readParts_91 : decode cX9_readParts 91 = .ok (.invokevirtual 190, 3) := by decide +kernel
theorem dX9_readParts_94 : decode cX9_readParts 94 = .ok (.iastore, 1) := by decide +kernel
theorem dX9_readParts_95 : decode cX9_readParts 95 = .ok (.aload_n 0, 1) := by decide +kernel
theorem dX9_readParts_96 : decode cX9_readParts 96 = .ok (.getfield 23, 3) := by decide +kernel
theorem dX9_readParts_99 : decode cX9_readParts 99 = .ok (.iload_n 1, 1) := by decide +kernel
theorem dX9_readParts_100 : decode cX9_readParts 100 = .ok (.iconst 1, 1) := by decide +kernel
theorem dX9_readParts_101 : decode cX9_readParts 101 = .ok (.iadd, 1) := by decide +kernel
theorem dX9_readParts_102 : decode cX9_readParts 102 = .ok (.iload_n 3, 1) := by decide +kernel
theorem dX9_readParts_103 : decode cX9_readParts 103 = .ok (.iadd, 1) := by decide +kernel
theorem dX9_readParts_104 : decode cX9_readParts 104 = .ok (.iaload, 1) := by decide +kernel
theorem dX9_readParts_105 : decode cX9_readParts 105 = .ok (.iconst (-1), 1) := by decide +kernel
theorem dX9_readParts_106 : decode cX9_readParts 106 = .ok (.if_icmp .ne 9, 3) := by decide +kernel
theorem dX9_readParts_109 : decode cX9_readParts 109 = .ok (.aload_n 0, 1) := by decide +kernel
theorem dX9_readParts_110 : decode cX9_readParts 110 = .ok (.iconst 3, 1) := by decide +kernel
theorem dX9_readParts_111 : decode cX9_readParts 111 = .ok (.invokevirtual 176, 3) := by decide +kernel
theorem dX9_readParts_114 : decode cX9_readParts 114 = .ok (.ireturn, 1) := by decide +kernel
theorem dX9_readParts_115 : decode cX9_readParts 115 = .ok (.aload_n 0, 1) := by decide +kernel
theorem dX9_readParts_116 : decode cX9_readParts 116 = .ok (.invokevirtual 180, 3) := by decide +kernel
theorem dX9_readParts_119 : decode cX9_readParts 119 = .ok (.iload_n 3, 1) := by decide +kernel
theorem dX9_readParts_120 : decode cX9_readParts 120 = .ok (.iload_n 2, 1) := by decide +kernel
theorem dX9_readParts_121 : decode cX9_readParts 121 = .ok (.iconst 1, 1) := by decide +kernel
theorem dX9_readParts_122 : decode cX9_readParts 122 = .ok (.isub, 1) := by decide +kernel
theorem dX9_readParts_123 : decode cX9_readParts 123 = .ok (.if_icmp .ne 8, 3) := by decide +kernel
theorem dX9_readParts_126 : decode cX9_readParts 126 = .ok (.bipush 41, 2) := by decide +kernel
theorem dX9_readParts_128 : decode cX9_readParts 128 = .ok (.goto 5, 3) := by decide +kernel
theorem dX9_readParts_131 : decode cX9_readParts 131 = .ok (.bipush 44, 2) := by decide +kernel
theorem dX9_readParts_133 : decode cX9_readParts 133 = .ok (.istore 4, 2) := by decide +kernel
theorem dX9_readParts_135 : decode cX9_readParts 135 = .ok (.aload_n 0, 1) := by decide +kernel
theorem dX9_readParts_136 : decode cX9_readParts 136 = .ok (.getfield 129, 3) := by decide +kernel
theorem dX9_readParts_139 : decode cX9_readParts 139 = .ok (.iload 4, 2) := by decide +kernel
theorem dX9_readParts_141 : decode cX9_readParts 141 = .ok (.if_icmp .eq 31, 3) := by decide +kernel
theorem dX9_readParts_144 : decode cX9_readParts 144 = .ok (.aload_n 0, 1) := by decide +kernel
theorem dX9_readParts_145 : decode cX9_readParts 145 = .ok (.aload_n 0, 1) := by decide +kernel
theorem dX9_readParts_146 : decode cX9_readParts 146 = .ok (.getfield 129, 3) := by decide +kernel
theorem dX9_readParts_149 : decode cX9_readParts 149 = .ok (.bipush 44, 2) := by decide +kernel
theorem dX9_readParts_151 : decode cX9_readParts 151 = .ok (.if_icmp .eq 12, 3) := by decide +kernel
theorem dX9_readParts_154 : decode cX9_readParts 154 = .ok (.aload_n 0, 1) := by decide +kernel
theorem dX9_readParts_155 : decode cX9_readParts 155 = .ok (.getfield 129, 3) := by decide +kernel
theorem dX9_readParts_158 : decode cX9_readParts 158 = .ok (.bipush 41, 2) := by decide +kernel
theorem dX9_readParts_160 : decode cX9_readParts 160 = .ok (.if_icmp .ne 7, 3) := by decide +kernel
theorem dX9_readParts_163 : decode cX9_readParts 163 = .ok (.iconst 5, 1) := by decide +kernel
theorem dX9_readParts_164 : decode cX9_readParts 164 = .ok (.goto 4, 3) := by decide +kernel
theorem dX9_readParts_167 : decode cX9_readParts 167 = .ok (.iconst 1, 1) := by decide +kernel
theorem dX9_readParts_168 : decode cX9_readParts 168 = .ok (.invokevirtual 176, 3) := by decide +kernel
theorem dX9_readParts_171 : decode cX9_readParts 171 = .ok (.ireturn, 1) := by decide +kernel
theorem dX9_readParts_172 : decode cX9_readParts 172 = .ok (.iinc 3 1, 3) := by decide +kernel
theorem dX9_readParts_175 : decode cX9_readParts 175 = .ok (.goto (-116), 3) := by decide +kernel
theorem dX9_readParts_178 : decode cX9_readParts 178 = .ok (.aload_n 0, 1) := by decide +kernel
theorem dX9_readParts_179 : decode cX9_readParts 179 = .ok (.invokevirtual 180, 3) := by decide +kernel
theorem dX9_readParts_182 : decode cX9_readParts 182 = .ok (.iconst 1, 1) := by decide +kernel
theorem dX9_readParts_183 : decode cX9_readParts 183 = .ok (.ireturn, 1) := by decide +kernel
theorem dX9_readTerm_0 : decode cX9_readTerm 0 = .ok (.aload_n 0, 1) := by decide +kernel
theorem dX9_readTerm_1 : decode cX9_readTerm 1 = .ok (.getfield 173, 3) := by decide +kernel
theorem dX9_readTerm_4 : decode cX9_readTerm 4 = .ok (.bipush 24, 2) := by decide +kernel
theorem dX9_readTerm_6 : decode cX9_readTerm 6 = .ok (.if_icmp .ne 9, 3) := by decide +kernel
theorem dX9_readTerm_9 : decode cX9_readTerm 9 = .ok (.aload_n 0, 1) := by decide +kernel
theorem dX9_readTerm_10 : decode cX9_readTerm 10 = .ok (.iconst 4, 1) := by decide +kernel
theorem dX9_readTerm_11 : decode cX9_readTerm 11 = .ok (.invokevirtual 176, 3) := by decide +kernel
theorem dX9_readTerm_14 : decode cX9_readTerm 14 = .ok (.ireturn, 1) := by decide +kernel
theorem dX9_readTerm_15 : decode cX9_readTerm 15 = .ok (.aload_n 0, 1) := by decide +kernel
theorem dX9_readTerm_16 : decode cX9_readTerm 16 = .ok (.invokevirtual 180, 3) := by decide +kernel
theorem dX9_readTerm_19 : decode cX9_readTerm 19 = .ok (.aload_n 0, 1) := by decide +kernel
theorem dX9_readTerm_20 : decode cX9_readTerm 20 = .ok (.invokevirtual 183, 3) := by decide +kernel
theorem dX9_readTerm_23 : decode cX9_readTerm 23 = .ok (.ifCond .ne 9, 3) := by decide +kernel
theorem dX9_readTerm_26 : decode cX9_readTerm 26 = .ok (.aload_n 0, 1) := by decide +kernel
theorem dX9_readTerm_27 : decode cX9_readTerm 27 = .ok (.iconst 1, 1) := by decide +kernel
theorem dX9_readTerm_28 : decode cX9_readTerm 28 = .ok (.invokevirtual 176, 3) := by decide +kernel
theorem dX9_readTerm_31 : decode cX9_readTerm 31 = .ok (.ireturn, 1) := by decide +kernel
theorem dX9_readTerm_32 : decode cX9_readTerm 32 = .ok (.aload_n 0, 1) := by decide +kernel
theorem dX9_readTerm_33 : decode cX9_readTerm 33 = .ok (.invokevirtual 187, 3) := by decide +kernel
theorem dX9_readTerm_36 : decode cX9_readTerm 36 = .ok (.iconst (-1), 1) := by decide +kernel
theorem dX9_readTerm_37 : decode cX9_readTerm 37 = .ok (.if_icmp .ne 11, 3) := by decide +kernel
theorem dX9_readTerm_40 : decode cX9_readTerm 40 = .ok (.aload_n 0, 1) := by decide +kernel
theorem dX9_readTerm_41 : decode cX9_readTerm 41 = .ok (.invokevirtual 190, 3) := by decide +kernel
theorem dX9_readTerm_44 : decode cX9_readTerm 44 = .ok (.iconst (-1), 1) := by decide +kernel
theorem dX9_readTerm_45 : decode cX9_readTerm 45 = .ok (.if_icmp .eq 9, 3) := by decide +kernel
theorem dX9_readTerm_48 : decode cX9_readTerm 48 = .ok (.aload_n 0, 1) := by decide +kernel
theorem dX9_readTerm_49 : decode cX9_readTerm 49 = .ok (.iconst 3, 1) := by decide +kernel
theorem dX9_readTerm_50 : decode cX9_readTerm 50 = .ok (.invokevirtual 176, 3) := by decide +kernel
theorem dX9_readTerm_53 : decode cX9_readTerm 53 = .ok (.ireturn, 1) := by decide +kernel
theorem dX9_readTerm_54 : decode cX9_readTerm 54 = .ok (.aload_n 0, 1) := by decide +kernel
theorem dX9_readTerm_55 : decode cX9_readTerm 55 = .ok (.aload_n 0, 1) := by decide +kernel
theorem dX9_readTerm_56 : decode cX9_readTerm 56 = .ok (.getfield 26, 3) := by decide +kernel
theorem dX9_readTerm_59 : decode cX9_readTerm 59 = .ok (.bipush 6, 2) := by decide +kernel
theorem dX9_readTerm_61 : decode cX9_readTerm 61 = .ok (.bipush 24, 2) := by decide +kernel
theorem dX9_readTerm_63 : decode cX9_readTerm 63 = .ok (.aload_n 0, 1) := by decide +kernel
theorem dX9_readTerm_64 : decode cX9_readTerm 64 = .ok (.getfield 173, 3) := by decide +kernel
theorem dX9_readTerm_67 : decode cX9_readTerm 67 = .ok (.iadd, 1) := by decide +kernel
theorem dX9_readTerm_68 : decode cX9_readTerm 68 = .ok (.imul, 1) := by decide +kernel
theorem dX9_readTerm_69 : decode cX9_readTerm 69 = .ok (.invokevirtual 193, 3) := by decide +kernel
theorem dX9_readTerm_72 : decode cX9_readTerm 72 = .ok (.aload_n 0, 1) := by decide +kernel
theorem dX9_readTerm_73 : decode cX9_readTerm 73 = .ok (.invokevirtual 180, 3) := by decide +kernel
theorem dX9_readTerm_76 : decode cX9_readTerm 76 = .ok (.aload_n 0, 1) := by decide +kernel
theorem dX9_readTerm_77 : decode cX9_readTerm 77 = .ok (.getfield 129, 3) := by decide +kernel
theorem dX9_readTerm_80 : decode cX9_readTerm 80 = .ok (.bipush 61, 2) := by decide +kernel
theorem dX9_readTerm_82 : decode cX9_readTerm 82 = .ok (.if_icmp .eq 9, 3) := by decide +kernel
theorem dX9_readTerm_85 : decode cX9_readTerm 85 = .ok (.aload_n 0, 1) := by decide +kernel
theorem dX9_readTerm_86 : decode cX9_readTerm 86 = .ok (.iconst 1, 1) := by decide +kernel
theorem dX9_readTerm_87 : decode cX9_readTerm 87 = .ok (.invokevirtual 176, 3) := by decide +kernel
theorem dX9_readTerm_90 : decode cX9_readTerm 90 = .ok (.ireturn, 1) := by decide +kernel
theorem dX9_readTerm_91 : decode cX9_readTerm 91 = .ok (.aload_n 0, 1) := by decide +kernel
theorem dX9_readTerm_92 : decode cX9_readTerm 92 = .ok (.invokevirtual 180, 3) := by decide +kernel
theorem dX9_readTerm_95 : decode cX9_readTerm 95 = .ok (.aload_n 0, 1) := by decide +kernel
theorem dX9_readTerm_96 : decode cX9_readTerm 96 = .ok (.invokevirtual 183, 3) := by decide +kernel
theorem dX9_readTerm_99 : decode cX9_readTerm 99 = .ok (.ifCond .ne 9, 3) := by decide +kernel
theorem dX9_readTerm_102 : decode cX9_readTerm 102 = .ok (.aload_n 0, 1) := by decide +kernel
theorem dX9_readTerm_103 : decode cX9_readTerm 103 = .ok (.iconst 1, 1) := by decide +kernel
theorem dX9_readTerm_104 : decode cX9_readTerm 104 = .ok (.invokevirtual 176, 3) := by decide +kernel
theorem dX9_readTerm_107 : decode cX9_readTerm 107 = .ok (.ireturn, 1) := by decide +kernel
theorem dX9_readTerm_108 : decode cX9_readTerm 108 = .ok (.aload_n 0, 1) := by decide +kernel
theorem dX9_readTerm_109 : decode cX9_readTerm 109 = .ok (.invokevirtual 187, 3) := by decide +kernel
theorem dX9_readTerm_112 : decode cX9_readTerm 112 = .ok (.istore_n 1, 1) := by decide +kernel
theorem dX9_readTerm_113 : decode cX9_readTerm 113 = .ok (.iload_n 1, 1) := by decide +kernel
theorem dX9_readTerm_114 : decode cX9_readTerm 114 = .ok (.iconst (-1), 1) := by decide +kernel
theorem dX9_readTerm_115 : decode cX9_readTerm 115 = .ok (.if_icmp .ne 9, 3) := by decide +kernel
theorem dX9_readTerm_118 : decode cX9_readTerm 118 = .ok (.aload_n 0, 1) := by decide +kernel
theorem dX9_readTerm_119 : decode cX9_readTerm 119 = .ok (.iconst 3, 1) := by decide +kernel
theorem dX9_readTerm_120 : decode cX9_readTerm 120 = .ok (.invokevirtual 176, 3) := by decide +kernel
theorem dX9_readTerm_123 : decode cX9_readTerm 123 = .ok (.ireturn, 1) := by decide +kernel
theorem dX9_readTerm_124 : decode cX9_readTerm 124 = .ok (.aload_n 0, 1) := by decide +kernel
theorem dX9_readTerm_125 : decode cX9_readTerm 125 = .ok (.invokevirtual 180, 3) := by decide +kernel
theorem dX9_readTerm_128 : decode cX9_readTerm 128 = .ok (.iconst 4, 1) := by decide +kernel
theorem dX9_readTerm_129 : decode cX9_readTerm 129 = .ok (.bipush 48, 2) := by decide +kernel
theorem dX9_readTerm_131 : decode cX9_readTerm 131 = .ok (.aload_n 0, 1) := by decide +kernel
theorem dX9_readTerm_132 : decode cX9_readTerm 132 = .ok (.getfield 197, 3) := by decide +kernel
theorem dX9_readTerm_135 : decode cX9_readTerm 135 = .ok (.iadd, 1) := by decide +kernel
theorem dX9_readTerm_136 : decode cX9_readTerm 136 = .ok (.imul, 1) := by decide +kernel
theorem dX9_readTerm_137 : decode cX9_readTerm 137 = .ok (.istore_n 2, 1) := by decide +kernel
theorem dX9_readTerm_138 : decode cX9_readTerm 138 = .ok (.aload_n 0, 1) := by decide +kernel
theorem dX9_readTerm_139 : decode cX9_readTerm 139 = .ok (.getfield 23, 3) := by decide +kernel
theorem dX9_readTerm_142 : decode cX9_readTerm 142 = .ok (.iload_n 2, 1) := by decide +kernel
theorem dX9_readTerm_143 : decode cX9_readTerm 143 = .ok (.iload_n 1, 1) := by decide +kernel
theorem dX9_readTerm_144 : decode cX9_readTerm 144 = .ok (.iastore, 1) := by decide +kernel
theorem dX9_readTerm_145 : decode cX9_readTerm 145 = .ok (.aload_n 0, 1) := by decide +kernel
theorem dX9_readTerm_146 : decode cX9_readTerm 146 = .ok (.iload_n 2, 1) := by decide +kernel
theorem dX9_readTerm_147 : decode cX9_readTerm 147 = .ok (.aload_n 0, 1) := by decide +kernel
theorem dX9_readTerm_148 : decode cX9_readTerm 148 = .ok (.getfield 17, 3) := by decide +kernel
theorem dX9_readTerm_151 : decode cX9_readTerm 151 = .ok (.bipush 8, 2) := by decide +kernel
theorem dX9_readTerm_153 : decode cX9_readTerm 153 = .ok (.iload_n 1, 1) := by decide +kernel
theorem dX9_readTerm_154 : decode cX9_readTerm 154 = .ok (.iadd, 1) := by decide +kernel
theorem dX9_readTerm_155 : decode cX9_readTerm 155 = .ok (.iaload, 1) := by decide +kernel
theorem dX9_readTerm_156 : decode cX9_readTerm 156 = .ok (.invokevirtual 200, 3) := by decide +kernel
theorem dX9_readTerm_159 : decode cX9_readTerm 159 = .ok (.ifCond .ne 5, 3) := by decide +kernel
theorem dX9_readTerm_162 : decode cX9_readTerm 162 = .ok (.iconst 0, 1) := by decide +kernel
theorem dX9_readTerm_163 : decode cX9_readTerm 163 = .ok (.ireturn, 1) := by decide +kernel
theorem dX9_readTerm_164 : decode cX9_readTerm 164 = .ok (.aload_n 0, 1) := by decide +kernel
theorem dX9_readTerm_165 : decode cX9_readTerm 165 = .ok (.getfield 20, 3) := by decide +kernel
theorem dX9_readTerm_168 : decode cX9_readTerm 168 = .ok (.bipush 48, 2) := by decide +kernel
theorem dX9_readTerm_170 : decode cX9_readTerm 170 = .ok (.aload_n 0, 1) := by decide +kernel
theorem dX9_readTerm_171 : decode cX9_readTerm 171 = .ok (.getfield 197, 3) := by decide +kernel
theorem dX9_readTerm_174 : decode cX9_readTerm 174 = .ok (.iadd, 1) := by decide +kernel
theorem dX9_readTerm_175 : decode cX9_readTerm 175 = .ok (.iconst 0, 1) := by decide +kernel
theorem dX9_readTerm_176 : decode cX9_readTerm 176 = .ok (.iastore, 1) := by decide +kernel
theorem dX9_readTerm_177 : decode cX9_readTerm 177 = .ok (.aload_n 0, 1) := by decide +kernel
theorem dX9_readTerm_178 : decode cX9_readTerm 178 = .ok (.dup, 1) := by decide +kernel
theorem dX9_readTerm_179 : decode cX9_readTerm 179 = .ok (.getfield 197, 3) := by decide +kernel
theorem dX9_readTerm_182 : decode cX9_readTerm 182 = .ok (.iconst 1, 1) := by decide +kernel
theorem dX9_readTerm_183 : decode cX9_readTerm 183 = .ok (.iadd, 1) := by decide +kernel
theorem dX9_readTerm_184 : decode cX9_readTerm 184 = .ok (.putfield 197, 3) := by decide +kernel
theorem dX9_readTerm_187 : decode cX9_readTerm 187 = .ok (.aload_n 0, 1) := by decide +kernel
theorem dX9_readTerm_188 : decode cX9_readTerm 188 = .ok (.dup, 1) := by decide +kernel
theorem dX9_readTerm_189 : decode cX9_readTerm 189 = .ok (.getfield 173, 3) := by decide +kernel
theorem dX9_readTerm_192 : decode cX9_readTerm 192 = .ok (.iconst 1, 1) := by decide +kernel
theorem dX9_readTerm_193 : decode cX9_readTerm 193 = .ok (.iadd, 1) := by decide +kernel
theorem dX9_readTerm_194 : decode cX9_readTerm 194 = .ok (.putfield 173, 3) := by decide +kernel
theorem dX9_readTerm_197 : decode cX9_readTerm 197 = .ok (.iconst 1, 1) := by decide +kernel
theorem dX9_readTerm_198 : decode cX9_readTerm 198 = .ok (.ireturn, 1) := by decide +kernel
theorem dX9_readPair_0 : decode cX9_readPair 0 = .ok (.iload_n 1, 1) := by decide +kernel
theorem dX9_readPair_1 : decode cX9_readPair 1 = .ok (.ifCond .eq 15, 3) := by decide +kernel
theorem dX9_readPair_4 : decode cX9_readPair 4 = .ok (.aload_n 0, 1) := by decide +kernel
theorem dX9_readPair_5 : decode cX9_readPair 5 = .ok (.getfield 204, 3) := by decide +kernel
theorem dX9_readPair_8 : decode cX9_readPair 8 = .ok (.bipush 12, 2) := by decide +kernel
theorem dX9_readPair_10 : decode cX9_readPair 10 = .ok (.if_icmp .ne 21, 3) := by decide +kernel
theorem dX9_readPair_13 : decode cX9_readPair 13 = .ok (.goto 12, 3) := by decide +kernel
theorem dX9_readPair_16 : decode cX9_readPair 16 = .ok (.aload_n 0, 1) := by decide +kernel
theorem dX9_readPair_17 : decode cX9_readPair 17 = .ok (.getfield 207, 3) := by decide +kernel
theorem dX9_readPair_20 : decode cX9_readPair 20 = .ok (.bipush 8, 2) := by decide +kernel
theorem dX9_readPair_22 : decode cX9_readPair 22 = .ok (.if_icmp .ne 9, 3) := by decide +kernel
theorem dX9_readPair_25 : decode cX9_readPair 25 = .ok (.aload_n 0, 1) := by decide +kernel
theorem dX9_readPair_26 : decode cX9_readPair 26 = .ok (.iconst 4, 1) := by decide +kernel
theorem dX9_readPair_27 : decode cX9_readPair 27 = .ok (.invokevirtual 176, 3) := by decide +kernel
theorem dX9_readPair_30 : decode cX9_readPair 30 = .ok (.ireturn, 1) := by decide +kernel
theorem dX9_readPair_31 : decode cX9_readPair 31 = .ok (.iconst 4, 1) := by decide +kernel
theorem dX9_readPair_32 : decode cX9_readPair 32 = .ok (.bipush 48, 2) := by decide +kernel
theorem dX9_readPair_34 : decode cX9_readPair 34 = .ok (.aload_n 0, 1) := by decide +kernel
theorem dX9_readPair_35 : decode cX9_readPair 35 = .ok (.getfield 197, 3) := by decide +kernel
theorem dX9_readPair_38 : decode cX9_readPair 38 = .ok (.iadd, 1) := by decide +kernel
theorem dX9_readPair_39 : decode cX9_readPair 39 = .ok (.imul, 1) := by decide +kernel
theorem dX9_readPair_40 : decode cX9_readPair 40 = .ok (.istore_n 2, 1) := by decide +kernel
theorem dX9_readPair_41 : decode cX9_readPair 41 = .ok (.iconst 0, 1) := by decide +kernel
theorem dX9_readPair_42 : decode cX9_readPair 42 = .ok (.istore_n 3, 1) := by decide +kernel
theorem dX9_readPair_43 : decode cX9_readPair 43 = .ok (.iload_n 3, 1) := by decide +kernel
theorem dX9_readPair_44 : decode cX9_readPair 44 = .ok (.iconst 2, 1) := by decide +kernel
theorem dX9_readPair_45 : decode cX9_readPair 45 = .ok (.if_icmp .ge 56, 3) := by decide +kernel
theorem dX9_readPair_48 : decode cX9_readPair 48 = .ok (.aload_n 0, 1) := by decide +kernel
theorem dX9_readPair_49 : decode cX9_readPair 49 = .ok (.invokevirtual 180, 3) := by decide +kernel
theorem dX9_readPair_52 : decode cX9_readPair 52 = .ok (.aload_n 0, 1) := by decide +kernel
theorem dX9_readPair_53 : decode cX9_readPair 53 = .ok (.invokevirtual 183, 3) := by decide +kernel
theorem dX9_readPair_56 : decode cX9_readPair 56 = .ok (.ifCond .ne 9, 3) := by decide +kernel
theorem dX9_readPair_59 : decode cX9_readPair 59 = .ok (.aload_n 0, 1) := by decide +kernel
theorem dX9_readPair_60 : decode cX9_readPair 60 = .ok (.iconst 1, 1) := by decide +kernel
theorem dX9_readPair_61 : decode cX9_readPair 61 = .ok (.invokevirtual 176, 3) := by decide +kernel
theorem dX9_readPair_64 : decode cX9_readPair 64 = .ok (.ireturn, 1) := by decide +kernel
theorem dX9_readPair_65 : decode cX9_readPair 65 = .ok (.aload_n 0, 1) := by decide +kernel
theorem dX9_readPair_66 : decode cX9_readPair 66 = .ok (.getfield 23, 3) := by decide +kernel
theorem dX9_readPair_69 : decode cX9_readPair 69 = .ok (.iload_n 2, 1) := by decide +kernel
theorem dX9_readPair_70 : decode cX9_readPair 70 = .ok (.iload_n 3, 1) := by decide +kernel
theorem dX9_readPair_71 : decode cX9_readPair 71 = .ok (.iadd, 1) := by decide +kernel
theorem dX9_readPair_72 : decode cX9_readPair 72 = .ok (.aload_n 0, 1) := by decide +kernel
theorem dX9_readPair_73 : decode cX9_readPair 73 = .ok (.invokevirtual 190, 3) := by decide +kernel
theorem dX9_readPair_76 : decode cX9_readPair 76 = .ok (.iastore, 1) := by decide +kernel
theorem dX9_readPair_77 : decode cX9_readPair 77 = .ok (.aload_n 0, 1) := by decide +kernel
theorem dX9_readPair_78 : decode cX9_readPair 78 = .ok (.getfield 23, 3) := by decide +kernel
theorem dX9_readPair_81 : decode cX9_readPair 81 = .ok (.iload_n 2, 1) := by decide +kernel
theorem dX9_readPair_82 : decode cX9_readPair 82 = .ok (.iload_n 3, 1) := by decide +kernel
theorem dX9_readPair_83 : decode cX9_readPair 83 = .ok (.iadd, 1) := by decide +kernel
theorem dX9_readPair_84 : decode cX9_readPair 84 = .ok (.iaload, 1) := by decide +kernel
theorem dX9_readPair_85 : decode cX9_readPair 85 = .ok (.iconst (-1), 1) := by decide +kernel
theorem dX9_readPair_86 : decode cX9_readPair 86 = .ok (.if_icmp .ne 9, 3) := by decide +kernel
theorem dX9_readPair_89 : decode cX9_readPair 89 = .ok (.aload_n 0, 1) := by decide +kernel
theorem dX9_readPair_90 : decode cX9_readPair 90 = .ok (.iconst 3, 1) := by decide +kernel
theorem dX9_readPair_91 : decode cX9_readPair 91 = .ok (.invokevirtual 176, 3) := by decide +kernel
theorem dX9_readPair_94 : decode cX9_readPair 94 = .ok (.ireturn, 1) := by decide +kernel
theorem dX9_readPair_95 : decode cX9_readPair 95 = .ok (.iinc 3 1, 3) := by decide +kernel
theorem dX9_readPair_98 : decode cX9_readPair 98 = .ok (.goto (-55), 3) := by decide +kernel
theorem dX9_readPair_101 : decode cX9_readPair 101 = .ok (.aload_n 0, 1) := by decide +kernel
theorem dX9_readPair_102 : decode cX9_readPair 102 = .ok (.invokevirtual 180, 3) := by decide +kernel
theorem dX9_readPair_105 : decode cX9_readPair 105 = .ok (.aload_n 0, 1) := by decide +kernel
theorem dX9_readPair_106 : decode cX9_readPair 106 = .ok (.getfield 20, 3) := by decide +kernel
theorem dX9_readPair_109 : decode cX9_readPair 109 = .ok (.bipush 48, 2) := by decide +kernel
theorem dX9_readPair_111 : decode cX9_readPair 111 = .ok (.aload_n 0, 1) := by decide +kernel
theorem dX9_readPair_112 : decode cX9_readPair 112 = .ok (.getfield 197, 3) := by decide +kernel
theorem dX9_readPair_115 : decode cX9_readPair 115 = .ok (.iadd, 1) := by decide +kernel
theorem dX9_readPair_116 : decode cX9_readPair 116 = .ok (.iload_n 1, 1) := by decide +kernel
theorem dX9_readPair_117 : decode cX9_readPair 117 = .ok (.ifCond .eq 7, 3) := by decide +kernel
theorem dX9_readPair_120 : decode cX9_readPair 120 = .ok (.iconst 1, 1) := by decide +kernel
theorem dX9_readPair_121 : decode cX9_readPair 121 = .ok (.goto 4, 3) := by decide +kernel
theorem dX9_readPair_124 : decode cX9_readPair 124 = .ok (.iconst 2, 1) := by decide +kernel
theorem dX9_readPair_125 : decode cX9_readPair 125 = .ok (.iastore, 1) := by decide +kernel
theorem dX9_readPair_126 : decode cX9_readPair 126 = .ok (.aload_n 0, 1) := by decide +kernel
theorem dX9_readPair_127 : decode cX9_readPair 127 = .ok (.dup, 1) := by decide +kernel
theorem dX9_readPair_128 : decode cX9_readPair 128 = .ok (.getfield 197, 3) := by decide +kernel
theorem dX9_readPair_131 : decode cX9_readPair 131 = .ok (.iconst 1, 1) := by decide +kernel
theorem dX9_readPair_132 : decode cX9_readPair 132 = .ok (.iadd, 1) := by decide +kernel
theorem dX9_readPair_133 : decode cX9_readPair 133 = .ok (.putfield 197, 3) := by decide +kernel
theorem dX9_readPair_136 : decode cX9_readPair 136 = .ok (.aload_n 0, 1) := by decide +kernel
theorem dX9_readPair_137 : decode cX9_readPair 137 = .ok (.dup, 1) := by decide +kernel
theorem dX9_readPair_138 : decode cX9_readPair 138 = .ok (.getfield 204, 3) := by decide +kernel
theorem dX9_readPair_141 : decode cX9_readPair 141 = .ok (.iload_n 1, 1) := by decide +kernel
theorem dX9_readPair_142 : decode cX9_readPair 142 = .ok (.ifCond .eq 7, 3) := by decide +kernel
theorem dX9_readPair_145 : decode cX9_readPair 145 = .ok (.iconst 1, 1) := by decide +kernel
theorem dX9_readPair_146 : decode cX9_readPair 146 = .ok (.goto 4, 3) := by decide +kernel
theorem dX9_readPair_149 : decode cX9_readPair 149 = .ok (.iconst 0, 1) := by decide +kernel
theorem dX9_readPair_150 : decode cX9_readPair 150 = .ok (.iadd, 1) := by decide +kernel
theorem dX9_readPair_151 : decode cX9_readPair 151 = .ok (.putfield 204, 3) := by decide +kernel
theorem dX9_readPair_154 : decode cX9_readPair 154 = .ok (.aload_n 0, 1) := by decide +kernel
theorem dX9_readPair_155 : decode cX9_readPair 155 = .ok (.dup, 1) := by decide +kernel
theorem dX9_readPair_156 : decode cX9_readPair 156 = .ok (.getfield 207, 3) := by decide +kernel
theorem dX9_readPair_159 : decode cX9_readPair 159 = .ok (.iload_n 1, 1) := by decide +kernel
theorem dX9_readPair_160 : decode cX9_readPair 160 = .ok (.ifCond .eq 7, 3) := by decide +kernel
theorem dX9_readPair_163 : decode cX9_readPair 163 = .ok (.iconst 0, 1) := by decide +kernel
theorem dX9_readPair_164 : decode cX9_readPair 164 = .ok (.goto 4, 3) := by decide +kernel
theorem dX9_readPair_167 : decode cX9_readPair 167 = .ok (.iconst 1, 1) := by decide +kernel
theorem dX9_readPair_168 : decode cX9_readPair 168 = .ok (.iadd, 1) := by decide +kernel
theorem dX9_readPair_169 : decode cX9_readPair 169 = .ok (.putfield 207, 3) := by decide +kernel
theorem dX9_readPair_172 : decode cX9_readPair 172 = .ok (.iconst 1, 1) := by decide +kernel
theorem dX9_readPair_173 : decode cX9_readPair 173 = .ok (.ireturn, 1) := by decide +kernel
theorem dX9_readLine_0 : decode cX9_readLine 0 = .ok (.aload_n 0, 1) := by decide +kernel
theorem dX9_readLine_1 : decode cX9_readLine 1 = .ok (.ldc 155, 2) := by decide +kernel
theorem dX9_readLine_3 : decode cX9_readLine 3 = .ok (.invokevirtual 156, 3) := by decide +kernel
theorem dX9_readLine_6 : decode cX9_readLine 6 = .ok (.ifCond .eq 8, 3) := by decide +kernel
theorem dX9_readLine_9 : decode cX9_readLine 9 = .ok (.aload_n 0, 1) := by decide +kernel
theorem dX9_readLine_10 : decode cX9_readLine 10 = .ok (.invokevirtual 210, 3) := by decide +kernel
theorem dX9_readLine_13 : decode cX9_readLine 13 = .ok (.ireturn, 1) := by decide +kernel
theorem dX9_readLine_14 : decode cX9_readLine 14 = .ok (.aload_n 0, 1) := by decide +kernel
theorem dX9_readLine_15 : decode cX9_readLine 15 = .ok (.ldc 160, 2) := by decide +kernel
theorem dX9_readLine_17 : decode cX9_readLine 17 = .ok (.invokevirtual 156, 3) := by decide +kernel
theorem dX9_readLine_20 : decode cX9_readLine 20 = .ok (.ifCond .eq 8, 3) := by decide +kernel
theorem dX9_readLine_23 : decode cX9_readLine 23 = .ok (.aload_n 0, 1) := by decide +kernel
theorem dX9_readLine_24 : decode cX9_readLine 24 = .ok (.invokevirtual 213, 3) := by decide +kernel
theorem dX9_readLine_27 : decode cX9_readLine 27 = .ok (.ireturn, 1) := by decide +kernel
theorem dX9_readLine_28 : decode cX9_readLine 28 = .ok (.aload_n 0, 1) := by decide +kernel
theorem dX9_readLine_29 : decode cX9_readLine 29 = .ok (.ldc 162, 2) := by decide +kernel
theorem dX9_readLine_31 : decode cX9_readLine 31 = .ok (.invokevirtual 156, 3) := by decide +kernel
theorem dX9_readLine_34 : decode cX9_readLine 34 = .ok (.ifCond .eq 11, 3) := by decide +kernel
theorem dX9_readLine_37 : decode cX9_readLine 37 = .ok (.aload_n 0, 1) := by decide +kernel
theorem dX9_readLine_38 : decode cX9_readLine 38 = .ok (.iconst 1, 1) := by decide +kernel
theorem dX9_readLine_39 : decode cX9_readLine 39 = .ok (.invokevirtual 216, 3) := by decide +kernel
theorem dX9_readLine_42 : decode cX9_readLine 42 = .ok (.goto 25, 3) := by decide +kernel
theorem dX9_readLine_45 : decode cX9_readLine 45 = .ok (.aload_n 0, 1) := by decide +kernel
theorem dX9_readLine_46 : decode cX9_readLine 46 = .ok (.ldc 164, 2) := by decide +kernel
theorem dX9_readLine_48 : decode cX9_readLine 48 = .ok (.invokevirtual 156, 3) := by decide +kernel
theorem dX9_readLine_51 : decode cX9_readLine 51 = .ok (.ifCond .eq 11, 3) := by decide +kernel
theorem dX9_readLine_54 : decode cX9_readLine 54 = .ok (.aload_n 0, 1) := by decide +kernel
theorem dX9_readLine_55 : decode cX9_readLine 55 = .ok (.iconst 0, 1) := by decide +kernel
theorem dX9_readLine_56 : decode cX9_readLine 56 = .ok (.invokevirtual 216, 3) := by decide +kernel
theorem dX9_readLine_59 : decode cX9_readLine 59 = .ok (.goto 8, 3) := by decide +kernel
theorem dX9_readLine_62 : decode cX9_readLine 62 = .ok (.aload_n 0, 1) := by decide +kernel
theorem dX9_readLine_63 : decode cX9_readLine 63 = .ok (.iconst 1, 1) := by decide +kernel
theorem dX9_readLine_64 : decode cX9_readLine 64 = .ok (.invokevirtual 176, 3) := by decide +kernel
theorem dX9_readLine_67 : decode cX9_readLine 67 = .ok (.ireturn, 1) := by decide +kernel
theorem dX9_readAll_0 : decode cX9_readAll 0 = .ok (.aload_n 0, 1) := by decide +kernel
theorem dX9_readAll_1 : decode cX9_readAll 1 = .ok (.iload_n 1, 1) := by decide +kernel
theorem dX9_readAll_2 : decode cX9_readAll 2 = .ok (.putfield 116, 3) := by decide +kernel
theorem dX9_readAll_5 : decode cX9_readAll 5 = .ok (.aload_n 0, 1) := by decide +kernel
theorem dX9_readAll_6 : decode cX9_readAll 6 = .ok (.iconst 0, 1) := by decide +kernel
theorem dX9_readAll_7 : decode cX9_readAll 7 = .ok (.putfield 119, 3) := by decide +kernel
theorem dX9_readAll_10 : decode cX9_readAll 10 = .ok (.aload_n 0, 1) := by decide +kernel
theorem dX9_readAll_11 : decode cX9_readAll 11 = .ok (.iconst 0, 1) := by decide +kernel
theorem dX9_readAll_12 : decode cX9_readAll 12 = .ok (.putfield 166, 3) := by decide +kernel
theorem dX9_readAll_15 : decode cX9_readAll 15 = .ok (.aload_n 0, 1) := by decide +kernel
theorem dX9_readAll_16 : decode cX9_readAll 16 = .ok (.iconst 0, 1) := by decide +kernel
theorem dX9_readAll_17 : decode cX9_readAll 17 = .ok (.putfield 173, 3) := by decide +kernel
theorem dX9_readAll_20 : decode cX9_readAll 20 = .ok (.aload_n 0, 1) := by decide +kernel
theorem dX9_readAll_21 : decode cX9_readAll 21 = .ok (.iconst 0, 1) := by decide +kernel
theorem dX9_readAll_22 : decode cX9_readAll 22 = .ok (.putfield 204, 3) := by decide +kernel
theorem dX9_readAll_25 : decode cX9_readAll 25 = .ok (.aload_n 0, 1) := by decide +kernel
theorem dX9_readAll_26 : decode cX9_readAll 26 = .ok (.iconst 0, 1) := by decide +kernel
theorem dX9_readAll_27 : decode cX9_readAll 27 = .ok (.putfield 207, 3) := by decide +kernel
theorem dX9_readAll_30 : decode cX9_readAll 30 = .ok (.aload_n 0, 1) := by decide +kernel
theorem dX9_readAll_31 : decode cX9_readAll 31 = .ok (.iconst 0, 1) := by decide +kernel
theorem dX9_readAll_32 : decode cX9_readAll 32 = .ok (.putfield 197, 3) := by decide +kernel
theorem dX9_readAll_35 : decode cX9_readAll 35 = .ok (.aload_n 0, 1) := by decide +kernel
theorem dX9_readAll_36 : decode cX9_readAll 36 = .ok (.invokevirtual 180, 3) := by decide +kernel
theorem dX9_readAll_39 : decode cX9_readAll 39 = .ok (.aload_n 0, 1) := by decide +kernel
theorem dX9_readAll_40 : decode cX9_readAll 40 = .ok (.invokevirtual 220, 3) := by decide +kernel
theorem dX9_readAll_43 : decode cX9_readAll 43 = .ok (.ifCond .ne 5, 3) := by decide +kernel
theorem dX9_readAll_46 : decode cX9_readAll 46 = .ok (.iconst 0, 1) := by decide +kernel
theorem dX9_readAll_47 : decode cX9_readAll 47 = .ok (.ireturn, 1) := by decide +kernel
theorem dX9_readAll_48 : decode cX9_readAll 48 = .ok (.aload_n 0, 1) := by decide +kernel
theorem dX9_readAll_49 : decode cX9_readAll 49 = .ok (.getfield 129, 3) := by decide +kernel
theorem dX9_readAll_52 : decode cX9_readAll 52 = .ok (.bipush 59, 2) := by decide +kernel
theorem dX9_readAll_54 : decode cX9_readAll 54 = .ok (.if_icmp .ne 16, 3) := by decide +kernel
theorem dX9_readAll_57 : decode cX9_readAll 57 = .ok (.aload_n 0, 1) := by decide +kernel
theorem dX9_readAll_58 : decode cX9_readAll 58 = .ok (.invokevirtual 180, 3) := by decide +kernel
theorem dX9_readAll_61 : decode cX9_readAll 61 = .ok (.aload_n 0, 1) := by decide +kernel
theorem dX9_readAll_62 : decode cX9_readAll 62 = .ok (.invokevirtual 220, 3) := by decide +kernel
theorem dX9_readAll_65 : decode cX9_readAll 65 = .ok (.ifCond .ne (-17), 3) := by decide +kernel
theorem dX9_readAll_68 : decode cX9_readAll 68 = .ok (.iconst 0, 1) := by decide +kernel
theorem dX9_readAll_69 : decode cX9_readAll 69 = .ok (.ireturn, 1) := by decide +kernel
theorem dX9_readAll_70 : decode cX9_readAll 70 = .ok (.aload_n 0, 1) := by decide +kernel
theorem dX9_readAll_71 : decode cX9_readAll 71 = .ok (.getfield 129, 3) := by decide +kernel
theorem dX9_readAll_74 : decode cX9_readAll 74 = .ok (.ifCond .eq 11, 3) := by decide +kernel
theorem dX9_readAll_77 : decode cX9_readAll 77 = .ok (.aload_n 0, 1) := by decide +kernel
theorem dX9_readAll_78 : decode cX9_readAll 78 = .ok (.iconst 1, 1) := by decide +kernel
theorem dX9_readAll_79 : decode cX9_readAll 79 = .ok (.invokevirtual 176, 3) := by decide +kernel
theorem dX9_readAll_82 : decode cX9_readAll 82 = .ok (.ifCond .eq 7, 3) := by decide +kernel
theorem dX9_readAll_85 : decode cX9_readAll 85 = .ok (.iconst 1, 1) := by decide +kernel
theorem dX9_readAll_86 : decode cX9_readAll 86 = .ok (.goto 4, 3) := by decide +kernel
theorem dX9_readAll_89 : decode cX9_readAll 89 = .ok (.iconst 0, 1) := by decide +kernel
theorem dX9_readAll_90 : decode cX9_readAll 90 = .ok (.ireturn, 1) := by decide +kernel
theorem dX9_text_0 : decode cX9_text 0 = .ok (.aload_n 0, 1) := by decide +kernel
theorem dX9_text_1 : decode cX9_text 1 = .ok (.iload_n 1, 1) := by decide +kernel
theorem dX9_text_2 : decode cX9_text 2 = .ok (.iconst 0, 1) := by decide +kernel
theorem dX9_text_3 : decode cX9_text 3 = .ok (.aload_n 0, 1) := by decide +kernel
theorem dX9_text_4 : decode cX9_text 4 = .ok (.getfield 109, 3) := by decide +kernel
theorem dX9_text_7 : decode cX9_text 7 = .ok (.invokestatic 132, 3) := by decide +kernel
theorem dX9_text_10 : decode cX9_text 10 = .ok (.ifCond .eq 7, 3) := by decide +kernel
theorem dX9_text_13 : decode cX9_text 13 = .ok (.iconst 0, 1) := by decide +kernel
theorem dX9_text_14 : decode cX9_text 14 = .ok (.goto 4, 3) := by decide +kernel
theorem dX9_text_17 : decode cX9_text 17 = .ok (.iconst 2, 1) := by decide +kernel
theorem dX9_text_18 : decode cX9_text 18 = .ok (.invokevirtual 223, 3) := by decide +kernel
theorem dX9_text_21 : decode cX9_text 21 = .ok (.ifCond .eq 5, 3) := by decide +kernel
theorem dX9_text_24 : decode cX9_text 24 = .ok (.iconst (-1), 1) := by decide +kernel
theorem dX9_text_25 : decode cX9_text 25 = .ok (.ireturn, 1) := by decide +kernel
theorem dX9_text_26 : decode cX9_text 26 = .ok (.aload_n 0, 1) := by decide +kernel
theorem dX9_text_27 : decode cX9_text 27 = .ok (.iconst 0, 1) := by decide +kernel
theorem dX9_text_28 : decode cX9_text 28 = .ok (.putfield 109, 3) := by decide +kernel
theorem dX9_text_31 : decode cX9_text 31 = .ok (.aload_n 0, 1) := by decide +kernel
theorem dX9_text_32 : decode cX9_text 32 = .ok (.iconst 0, 1) := by decide +kernel
theorem dX9_text_33 : decode cX9_text 33 = .ok (.putfield 226, 3) := by decide +kernel
theorem dX9_text_36 : decode cX9_text 36 = .ok (.aload_n 0, 1) := by decide +kernel
theorem dX9_text_37 : decode cX9_text 37 = .ok (.iload_n 1, 1) := by decide +kernel
theorem dX9_text_38 : decode cX9_text 38 = .ok (.invokevirtual 229, 3) := by decide +kernel
theorem dX9_text_41 : decode cX9_text 41 = .ok (.ifCond .ne 25, 3) := by decide +kernel
theorem dX9_text_44 : decode cX9_text 44 = .ok (.aload_n 0, 1) := by decide +kernel
theorem dX9_text_45 : decode cX9_text 45 = .ok (.aload_n 0, 1) := by decide +kernel
theorem dX9_text_46 : decode cX9_text 46 = .ok (.getfield 149, 3) := by decide +kernel
theorem dX9_text_49 : decode cX9_text 49 = .ok (.putfield 226, 3) := by decide +kernel
theorem dX9_text_52 : decode cX9_text 52 = .ok (.aload_n 0, 1) := by decide +kernel
theorem dX9_text_53 : decode cX9_text 53 = .ok (.aload_n 0, 1) := by decide +kernel
theorem dX9_text_54 : decode cX9_text 54 = .ok (.getfield 152, 3) := by decide +kernel
theorem dX9_text_57 : decode cX9_text 57 = .ok (.putfield 9, 3) := by decide +kernel
theorem dX9_text_60 : decode cX9_text 60 = .ok (.aload_n 0, 1) := by decide +kernel
theorem dX9_text_61 : decode cX9_text 61 = .ok (.iconst 4, 1) := by decide +kernel
theorem dX9_text_62 : decode cX9_text 62 = .ok (.invokevirtual 232, 3) := by decide +kernel
theorem dX9_text_65 : decode cX9_text 65 = .ok (.ireturn, 1) := by decide +kernel
theorem dX9_text_66 : decode cX9_text 66 = .ok (.aload_n 0, 1) := by decide +kernel
theorem dX9_text_67 : decode cX9_text 67 = .ok (.aload_n 0, 1) := by decide +kernel
theorem dX9_text_68 : decode cX9_text 68 = .ok (.getfield 166, 3) := by decide +kernel
theorem dX9_text_71 : decode cX9_text 71 = .ok (.putfield 235, 3) := by decide +kernel
theorem dX9_text_74 : decode cX9_text 74 = .ok (.iconst 0, 1) := by decide +kernel
theorem dX9_text_75 : decode cX9_text 75 = .ok (.istore_n 2, 1) := by decide +kernel
theorem dX9_text_76 : decode cX9_text 76 = .ok (.iload_n 2, 1) := by decide +kernel
theorem dX9_text_77 : decode cX9_text 77 = .ok (.aload_n 0, 1) := by decide +kernel
theorem dX9_text_78 : decode cX9_text 78 = .ok (.getfield 235, 3) := by decide +kernel
theorem dX9_text_81 : decode cX9_text 81 = .ok (.if_icmp .ge 24, 3) := by decide +kernel
theorem dX9_text_84 : decode cX9_text 84 = .ok (.aload_n 0, 1) := by decide +kernel
theorem dX9_text_85 : decode cX9_text 85 = .ok (.getfield 17, 3) := by decide +kernel
theorem dX9_text_88 : decode cX9_text 88 = .ok (.iload_n 2, 1) := by decide +kernel
theorem dX9_text_89 : decode cX9_text 89 = .ok (.aload_n 0, 1) := by decide +kernel
theorem dX9_text_90 : decode cX9_text 90 = .ok (.getfield 17, 3) := by decide +kernel
theorem dX9_text_93 : decode cX9_text 93 = .ok (.bipush 8, 2) := by decide +kernel
theorem dX9_text_95 : decode cX9_text 95 = .ok (.iload_n 2, 1) := by decide +kernel
theorem dX9_text_96 : decode cX9_text 96 = .ok (.iadd, 1) := by decide +kernel
theorem dX9_text_97 : decode cX9_text 97 = .ok (.iaload, 1) := by decide +kernel
theorem dX9_text_98 : decode cX9_text 98 = .ok (.iastore, 1) := by decide +kernel
theorem dX9_text_99 : decode cX9_text 99 = .ok (.iinc 2 1, 3) := by decide +kernel
theorem dX9_text_102 : decode cX9_text 102 = .ok (.goto (-26), 3) := by decide +kernel
theorem dX9_text_105 : decode cX9_text 105 = .ok (.aload_n 0, 1) := by decide +kernel
theorem dX9_text_106 : decode cX9_text 106 = .ok (.aload_n 0, 1) := by decide +kernel
theorem dX9_text_107 : decode cX9_text 107 = .ok (.getfield 197, 3) := by decide +kernel
theorem dX9_text_110 : decode cX9_text 110 = .ok (.putfield 238, 3) := by decide +kernel
theorem dX9_text_113 : decode cX9_text 113 = .ok (.aload_n 0, 1) := by decide +kernel
theorem dX9_text_114 : decode cX9_text 114 = .ok (.aload_n 0, 1) := by decide +kernel
theorem dX9_text_115 : decode cX9_text 115 = .ok (.getfield 238, 3) := by decide +kernel
theorem dX9_text_118 : decode cX9_text 118 = .ok (.putfield 241, 3) := by decide +kernel
theorem dX9_text_121 : decode cX9_text 121 = .ok (.iconst 0, 1) := by decide +kernel
theorem dX9_text_122 : decode cX9_text 122 = .ok (.istore_n 2, 1) := by decide +kernel
theorem dX9_text_123 : decode cX9_text 123 = .ok (.iload_n 2, 1) := by decide +kernel
theorem dX9_text_124 : decode cX9_text 124 = .ok (.aload_n 0, 1) := by decide +kernel
theorem dX9_text_125 : decode cX9_text 125 = .ok (.getfield 238, 3) := by decide +kernel
theorem dX9_text_128 : decode cX9_text 128 = .ok (.if_icmp .ge 60, 3) := by decide +kernel
theorem dX9_text_131 : decode cX9_text 131 = .ok (.aload_n 0, 1) := by decide +kernel
theorem dX9_text_132 : decode cX9_text 132 = .ok (.getfield 20, 3) := by decide +kernel
theorem dX9_text_135 : decode cX9_text 135 = .ok (.iload_n 2, 1) := by decide +kernel
theorem dX9_text_136 : decode cX9_text 136 = .ok (.aload_n 0, 1) := by decide +kernel
theorem dX9_text_137 : decode cX9_text 137 = .ok (.getfield 20, 3) := by decide +kernel
theorem dX9_text_140 : decode cX9_text 140 = .ok (.bipush 48, 2) := by decide +kernel
theorem dX9_text_142 : decode cX9_text 142 = .ok (.iload_n 2, 1) := by decide +kernel
theorem dX9_text_143 : decode cX9_text 143 = .ok (.iadd, 1) := by decide +kernel
theorem dX9_text_144 : decode cX9_text 144 = .ok (.iaload, 1) := by decide +kernel
theorem dX9_text_145 : decode cX9_text 145 = .ok (.iastore, 1) := by decide +kernel
theorem dX9_text_146 : decode cX9_text 146 = .ok (.iconst 0, 1) := by decide +kernel
theorem dX9_text_147 : decode cX9_text 147 = .ok (.istore_n 3, 1) := by decide +kernel
theorem dX9_text_148 : decode cX9_text 148 = .ok (.iload_n 3, 1) := by decide +kernel
theorem dX9_text_149 : decode cX9_text 149 = .ok (.iconst 4, 1) := by decide +kernel
theorem dX9_text_150 : decode cX9_text 150 = .ok (.if_icmp .ge 32, 3) := by decide +kernel
theorem dX9_text_153 : decode cX9_text 153 = .ok (.aload_n 0, 1) := by decide +kernel
theorem dX9_text_154 : decode cX9_text 154 = .ok (.getfield 23, 3) := by decide +kernel
theorem dX9_text_157 : decode cX9_text 157 = .ok (.iconst 4, 1) := by decide +kernel
theorem dX9_text_158 : decode cX9_text 158 = .ok (.iload_n 2, 1) := by decide +kernel
theorem dX9_text_159 : decode cX9_text 159 = .ok (.imul, 1) := by decide +kernel
theorem dX9_text_160 : decode cX9_text 160 = .ok (.iload_n 3, 1) := by decide +kernel
theorem dX9_text_161 : decode cX9_text 161 = .ok (.iadd, 1) := by decide +kernel
theorem dX9_text_162 : decode cX9_text 162 = .ok (.aload_n 0, 1) := by decide +kernel
theorem dX9_text_163 : decode cX9_text 163 = .ok (.getfield 23, 3) := by decide +kernel
theorem dX9_text_166 : decode cX9_text 166 = .ok (.iconst 4, 1) := by decide +kernel
theorem dX9_text_167 : decode cX9_text 167 = .ok (.bipush 48, 2) := by decide +kernel
theorem dX9_text_169 : decode cX9_text 169 = .ok (.iload_n 2, 1) := by decide +kernel
theorem dX9_text_170 : decode cX9_text 170 = .ok (.iadd, 1) := by decide +kernel
theorem dX9_text_171 : decode cX9_text 171 = .ok (.imul, 1) := by decide +kernel
theorem dX9_text_172 : decode cX9_text 172 = .ok (.iload_n 3, 1) := by decide +kernel
theorem dX9_text_173 : decode cX9_text 173 = .ok (.iadd, 1) := by decide +kernel
theorem dX9_text_174 : decode cX9_text 174 = .ok (.iaload, 1) := by decide +kernel
theorem dX9_text_175 : decode cX9_text 175 = .ok (.iastore, 1) := by decide +kernel
theorem dX9_text_176 : decode cX9_text 176 = .ok (.iinc 3 1, 3) := by decide +kernel
theorem dX9_text_179 : decode cX9_text 179 = .ok (.goto (-31), 3) := by decide +kernel
theorem dX9_text_182 : decode cX9_text 182 = .ok (.iinc 2 1, 3) := by decide +kernel
theorem dX9_text_185 : decode cX9_text 185 = .ok (.goto (-62), 3) := by decide +kernel
theorem dX9_text_188 : decode cX9_text 188 = .ok (.aload_n 0, 1) := by decide +kernel
theorem dX9_text_189 : decode cX9_text 189 = .ok (.aload_n 0, 1) := by decide +kernel
theorem dX9_text_190 : decode cX9_text 190 = .ok (.getfield 173, 3) := by decide +kernel
theorem dX9_text_193 : decode cX9_text 193 = .ok (.putfield 244, 3) := by decide +kernel
theorem dX9_text_196 : decode cX9_text 196 = .ok (.iconst 0, 1) := by decide +kernel
theorem dX9_text_197 : decode cX9_text 197 = .ok (.istore_n 2, 1) := by decide +kernel
theorem dX9_text_198 : decode cX9_text 198 = .ok (.iload_n 2, 1) := by decide +kernel
theorem dX9_text_199 : decode cX9_text 199 = .ok (.sipush 144, 3) := by decide +kernel
theorem dX9_text_202 : decode cX9_text 202 = .ok (.if_icmp .ge 25, 3) := by decide +kernel
theorem dX9_text_205 : decode cX9_text 205 = .ok (.aload_n 0, 1) := by decide +kernel
theorem dX9_text_206 : decode cX9_text 206 = .ok (.getfield 26, 3) := by decide +kernel
theorem dX9_text_209 : decode cX9_text 209 = .ok (.iload_n 2, 1) := by decide +kernel
theorem dX9_text_210 : decode cX9_text 210 = .ok (.aload_n 0, 1) := by decide +kernel
theorem dX9_text_211 : decode cX9_text 211 = .ok (.getfield 26, 3) := by decide +kernel
theorem dX9_text_214 : decode cX9_text 214 = .ok (.sipush 144, 3) := by decide +kernel
theorem dX9_text_217 : decode cX9_text 217 = .ok (.iload_n 2, 1) := by decide +kernel
theorem dX9_text_218 : decode cX9_text 218 = .ok (.iadd, 1) := by decide +kernel
theorem dX9_text_219 : decode cX9_text 219 = .ok (.iaload, 1) := by decide +kernel
theorem dX9_text_220 : decode cX9_text 220 = .ok (.iastore, 1) := by decide +kernel
theorem dX9_text_221 : decode cX9_text 221 = .ok (.iinc 2 1, 3) := by decide +kernel
theorem dX9_text_224 : decode cX9_text 224 = .ok (.goto (-26), 3) := by decide +kernel
theorem dX9_text_227 : decode cX9_text 227 = .ok (.aload_n 0, 1) := by decide +kernel
theorem dX9_text_228 : decode cX9_text 228 = .ok (.invokevirtual 247, 3) := by decide +kernel
theorem dX9_text_231 : decode cX9_text 231 = .ok (.aload_n 0, 1) := by decide +kernel
theorem dX9_text_232 : decode cX9_text 232 = .ok (.getfield 250, 3) := by decide +kernel
theorem dX9_text_235 : decode cX9_text 235 = .ok (.ireturn, 1) := by decide +kernel
theorem dX9_fault_0 : decode cX9_fault 0 = .ok (.aload_n 0, 1) := by decide +kernel
theorem dX9_fault_1 : decode cX9_fault 1 = .ok (.iconst 0, 1) := by decide +kernel
theorem dX9_fault_2 : decode cX9_fault 2 = .ok (.putfield 103, 3) := by decide +kernel
theorem dX9_fault_5 : decode cX9_fault 5 = .ok (.aload_n 0, 1) := by decide +kernel
theorem dX9_fault_6 : decode cX9_fault 6 = .ok (.getfield 226, 3) := by decide +kernel
theorem dX9_fault_9 : decode cX9_fault 9 = .ok (.ireturn, 1) := by decide +kernel
theorem dX9_where_0 : decode cX9_where 0 = .ok (.aload_n 0, 1) := by decide +kernel
theorem dX9_where_1 : decode cX9_where 1 = .ok (.iconst 0, 1) := by decide +kernel
theorem dX9_where_2 : decode cX9_where 2 = .ok (.putfield 103, 3) := by decide +kernel
theorem dX9_where_5 : decode cX9_where 5 = .ok (.aload_n 0, 1) := by decide +kernel
theorem dX9_where_6 : decode cX9_where 6 = .ok (.getfield 106, 3) := by decide +kernel
theorem dX9_where_9 : decode cX9_where 9 = .ok (.iconst 4, 1) := by decide +kernel
theorem dX9_where_10 : decode cX9_where 10 = .ok (.if_icmp .ne 10, 3) := by decide +kernel
theorem dX9_where_13 : decode cX9_where 13 = .ok (.aload_n 0, 1) := by decide +kernel
theorem dX9_where_14 : decode cX9_where 14 = .ok (.getfield 9, 3) := by decide +kernel
theorem dX9_where_17 : decode cX9_where 17 = .ok (.goto 4, 3) := by decide +kernel
theorem dX9_where_20 : decode cX9_where 20 = .ok (.iconst (-1), 1) := by decide +kernel
theorem dX9_where_21 : decode cX9_where 21 = .ok (.ireturn, 1) := by decide +kernel
theorem dX9_takesOf_0 : decode cX9_takesOf 0 = .ok (.aload_n 0, 1) := by decide +kernel
theorem dX9_takesOf_1 : decode cX9_takesOf 1 = .ok (.getfield 17, 3) := by decide +kernel
theorem dX9_takesOf_4 : decode cX9_takesOf 4 = .ok (.aload_n 0, 1) := by decide +kernel
theorem dX9_takesOf_5 : decode cX9_takesOf 5 = .ok (.getfield 32, 3) := by decide +kernel
theorem dX9_takesOf_8 : decode cX9_takesOf 8 = .ok (.iload_n 1, 1) := by decide +kernel
theorem dX9_takesOf_9 : decode cX9_takesOf 9 = .ok (.iaload, 1) := by decide +kernel
theorem dX9_takesOf_10 : decode cX9_takesOf 10 = .ok (.iaload, 1) := by decide +kernel
theorem dX9_takesOf_11 : decode cX9_takesOf 11 = .ok (.ireturn, 1) := by decide +kernel
theorem dX9_unites_0 : decode cX9_unites 0 = .ok (.aload_n 1, 1) := by decide +kernel
theorem dX9_unites_1 : decode cX9_unites 1 = .ok (.iload_n 2, 1) := by decide +kernel
theorem dX9_unites_2 : decode cX9_unites 2 = .ok (.iaload, 1) := by decide +kernel
theorem dX9_unites_3 : decode cX9_unites 3 = .ok (.istore 4, 2) := by decide +kernel
theorem dX9_unites_5 : decode cX9_unites 5 = .ok (.aload_n 1, 1) := by decide +kernel
theorem dX9_unites_6 : decode cX9_unites 6 = .ok (.iload_n 3, 1) := by decide +kernel
theorem dX9_unites_7 : decode cX9_unites 7 = .ok (.iaload, 1) := by decide +kernel
theorem dX9_unites_8 : decode cX9_unites 8 = .ok (.istore 5, 2) := by decide +kernel
theorem dX9_unites_10 : decode cX9_unites 10 = .ok (.iload 4, 2) := by decide +kernel
theorem dX9_unites_12 : decode cX9_unites 12 = .ok (.iload 5, 2) := by decide +kernel
theorem dX9_unites_14 : decode cX9_unites 14 = .ok (.if_icmp .ge 8, 3) := by decide +kernel
theorem dX9_unites_17 : decode cX9_unites 17 = .ok (.iload 4, 2) := by decide +kernel
theorem dX9_unites_19 : decode cX9_unites 19 = .ok (.goto 5, 3) := by decide +kernel
theorem dX9_unites_22 : decode cX9_unites 22 = .ok (.iload 5, 2) := by decide +kernel
theorem dX9_unites_24 : decode cX9_unites 24 = .ok (.istore 6, 2) := by decide +kernel
theorem dX9_unites_26 : decode cX9_unites 26 = .ok (.iconst 0, 1) := by decide +kernel
theorem dX9_unites_27 : decode cX9_unites 27 = .ok (.istore 7, 2) := by decide +kernel
theorem dX9_unites_29 : decode cX9_unites 29 = .ok (.iload 7, 2) := by decide +kernel
theorem dX9_unites_31 : decode cX9_unites 31 = .ok (.aload_n 0, 1) := by decide +kernel
theorem dX9_unites_32 : decode cX9_unites 32 = .ok (.getfield 250, 3) := by decide +kernel
theorem dX9_unites_35 : decode cX9_unites 35 = .ok (.if_icmp .ge 40, 3) := by decide +kernel
theorem dX9_unites_38 : decode cX9_unites 38 = .ok (.aload_n 1, 1) := by decide +kernel
theorem dX9_unites_39 : decode cX9_unites 39 = .ok (.iload 7, 2) := by decide +kernel
theorem dX9_unites_41 : decode cX9_unites 41 = .ok (.aload_n 1, 1) := by decide +kernel
theorem dX9_unites_42 : decode cX9_unites 42 = .ok (.iload 7, 2) := by decide +kernel
theorem dX9_unites_44 : decode cX9_unites 44 = .ok (.iaload, 1) := by decide +kernel
theorem dX9_unites_45 : decode cX9_unites 45 = .ok (.iload 4, 2) := by decide +kernel
theorem dX9_unites_47 : decode cX9_unites 47 = .ok (.if_icmp .eq 12, 3) := by decide +kernel
theorem dX9_unites_50 : decode cX9_unites 50 = .ok (.aload_n 1, 1) := by decide +kernel
theorem dX9_unites_51 : decode cX9_unites 51 = .ok (.iload 7, 2) := by decide +kernel
theorem dX9_unites_53 : decode cX9_unites 53 = .ok (.iaload, 1) := by decide +kernel
theorem dX9_unites_54 : decode cX9_unites 54 = .ok (.iload 5, 2) := by decide +kernel
theorem dX9_unites_56 : decode cX9_unites 56 = .ok (.if_icmp .ne 8, 3) := by decide +kernel
theorem dX9_unites_59 : decode cX9_unites 59 = .ok (.iload 6, 2) := by decide +kernel
theorem dX9_unites_61 : decode cX9_unites 61 = .ok (.goto 7, 3) := by decide +kernel
theorem dX9_unites_64 : decode cX9_unites 64 = .ok (.aload_n 1, 1) := by decide +kernel
theorem dX9_unites_65 : decode cX9_unites 65 = .ok (.iload 7, 2) := by decide +kernel
theorem dX9_unites_67 : decode cX9_unites 67 = .ok (.iaload, 1) := by decide +kernel
theorem dX9_unites_68 : decode cX9_unites 68 = .ok (.iastore, 1) := by decide +kernel
theorem dX9_unites_69 : decode cX9_unites 69 = .ok (.iinc 7 1, 3) := by decide +kernel
theorem dX9_unites_72 : decode cX9_unites 72 = .ok (.goto (-43), 3) := by decide +kernel
theorem dX9_unites_75 : decode cX9_unites 75 = .ok (.return_, 1) := by decide +kernel
theorem dX9_isAlike_0 : decode cX9_isAlike 0 = .ok (.aload_n 0, 1) := by decide +kernel
theorem dX9_isAlike_1 : decode cX9_isAlike 1 = .ok (.getfield 32, 3) := by decide +kernel
theorem dX9_isAlike_4 : decode cX9_isAlike 4 = .ok (.iload_n 2, 1) := by decide +kernel
theorem dX9_isAlike_5 : decode cX9_isAlike 5 = .ok (.iaload, 1) := by decide +kernel
theorem dX9_isAlike_6 : decode cX9_isAlike 6 = .ok (.aload_n 0, 1) := by decide +kernel
theorem dX9_isAlike_7 : decode cX9_isAlike 7 = .ok (.getfield 32, 3) := by decide +kernel
theorem dX9_isAlike_10 : decode cX9_isAlike 10 = .ok (.iload_n 3, 1) := by decide +kernel
theorem dX9_isAlike_11 : decode cX9_isAlike 11 = .ok (.iaload, 1) := by decide +kernel
theorem dX9_isAlike_12 : decode cX9_isAlike 12 = .ok (.if_icmp .eq 5, 3) := by decide +kernel
theorem dX9_isAlike_15 : decode cX9_isAlike 15 = .ok (.iconst 0, 1) := by decide +kernel
theorem dX9_isAlike_16 : decode cX9_isAlike 16 = .ok (.ireturn, 1) := by decide +kernel
theorem dX9_isAlike_17 : decode cX9_isAlike 17 = .ok (.iconst 0, 1) := by decide +kernel
theorem dX9_isAlike_18 : decode cX9_isAlike 18 = .ok (.istore 4, 2) := by decide +kernel
theorem dX9_isAlike_20 : decode cX9_isAlike 20 = .ok (.iload 4, 2) := by decide +kernel
theorem dX9_isAlike_22 : decode cX9_isAlike 22 = .ok (.aload_n 0, 1) := by decide +kernel
theorem dX9_isAlike_23 : decode cX9_isAlike 23 = .ok (.iload_n 2, 1) := by decide +kernel
theorem dX9_isAlike_24 : decode cX9_isAlike 24 = .ok (.invokevirtual 253, 3) := by decide +kernel
theorem dX9_isAlike_27 : decode cX9_isAlike 27 = .ok (.if_icmp .ge 40, 3) := by decide +kernel
theorem dX9_isAlike_30 : decode cX9_isAlike 30 = .ok (.aload_n 1, 1) := by decide +kernel
theorem dX9_isAlike_31 : decode cX9_isAlike 31 = .ok (.aload_n 0, 1) := by decide +kernel
theorem dX9_isAlike_32 : decode cX9_isAlike 32 = .ok (.getfield 35, 3) := by decide +kernel
theorem dX9_isAlike_35 : decode cX9_isAlike 35 = .ok (.iconst 3, 1) := by decide +kernel
theorem dX9_isAlike_36 : decode cX9_isAlike 36 = .ok (.iload_n 2, 1) := by decide +kernel
theorem dX9_isAlike_37 : decode cX9_isAlike 37 = .ok (.imul, 1) := by decide +kernel
theorem dX9_isAlike_38 : decode cX9_isAlike 38 = .ok (.iload 4, 2) := by decide +kernel
theorem dX9_isAlike_40 : decode cX9_isAlike 40 = .ok (.iadd, 1) := by decide +kernel
theorem dX9_isAlike_41 : decode cX9_isAlike 41 = .ok (.iaload, 1) := by decide +kernel
theorem dX9_isAlike_42 : decode cX9_isAlike 42 = .ok (.iaload, 1) := by decide +kernel
theorem dX9_isAlike_43 : decode cX9_isAlike 43 = .ok (.aload_n 1, 1) := by decide +kernel
theorem dX9_isAlike_44 : decode cX9_isAlike 44 = .ok (.aload_n 0, 1) := by decide +kernel
theorem dX9_isAlike_45 : decode cX9_isAlike 45 = .ok (.getfield 35, 3) := by decide +kernel
theorem dX9_isAlike_48 : decode cX9_isAlike 48 = .ok (.iconst 3, 1) := by decide +kernel
theorem dX9_isAlike_49 : decode cX9_isAlike 49 = .ok (.iload_n 3, 1) := by decide +kernel
theorem dX9_isAlike_50 : decode cX9_isAlike 50 = .ok (.imul, 1) := by decide +kernel
theorem dX9_isAlike_51 : decode cX9_isAlike 51 = .ok (.iload 4, 2) := by decide +kernel
theorem dX9_isAlike_53 : decode cX9_isAlike 53 = .ok (.iadd, 1) := by decide +kernel
theorem dX9_isAlike_54 : decode cX9_isAlike 54 = .ok (.iaload, 1) := by decide +kernel
theorem dX9_isAlike_55 : decode cX9_isAlike 55 = .ok (.iaload, 1) := by decide +kernel
theorem dX9_isAlike_56 : decode cX9_isAlike 56 = .ok (.if_icmp .eq 5, 3) := by decide +kernel
theorem dX9_isAlike_59 : decode cX9_isAlike 59 = .ok (.iconst 0, 1) := by decide +kernel
theorem dX9_isAlike_60 : decode cX9_isAlike 60 = .ok (.ireturn, 1) := by decide +kernel
theorem dX9_isAlike_61 : decode cX9_isAlike 61 = .ok (.iinc 4 1, 3) := by decide +kernel
theorem dX9_isAlike_64 : decode cX9_isAlike 64 = .ok (.goto (-44), 3) := by decide +kernel
theorem dX9_isAlike_67 : decode cX9_isAlike 67 = .ok (.iconst 1, 1) := by decide +kernel
theorem dX9_isAlike_68 : decode cX9_isAlike 68 = .ok (.ireturn, 1) := by decide +kernel
theorem dX9_depthOf_0 : decode cX9_depthOf 0 = .ok (.iconst 0, 1) := by decide +kernel
theorem dX9_depthOf_1 : decode cX9_depthOf 1 = .ok (.istore_n 2, 1) := by decide +kernel
theorem dX9_depthOf_2 : decode cX9_depthOf 2 = .ok (.iload_n 1, 1) := by decide +kernel
theorem dX9_depthOf_3 : decode cX9_depthOf 3 = .ok (.istore_n 3, 1) := by decide +kernel
theorem dX9_depthOf_4 : decode cX9_depthOf 4 = .ok (.aload_n 0, 1) := by decide +kernel
theorem dX9_depthOf_5 : decode cX9_depthOf 5 = .ok (.getfield 53, 3) := by decide +kernel
theorem dX9_depthOf_8 : decode cX9_depthOf 8 = .ok (.iload_n 3, 1) := by decide +kernel
theorem dX9_depthOf_9 : decode cX9_depthOf 9 = .ok (.iaload, 1) := by decide +kernel
theorem dX9_depthOf_10 : decode cX9_depthOf 10 = .ok (.bipush (-2), 2) := by decide +kernel
theorem dX9_depthOf_12 : decode cX9_depthOf 12 = .ok (.if_icmp .eq 16, 3) := by decide +kernel
theorem dX9_depthOf_15 : decode cX9_depthOf 15 = .ok (.iinc 2 1, 3) := by decide +kernel
theorem dX9_depthOf_18 : decode cX9_depthOf 18 = .ok (.aload_n 0, 1) := by decide +kernel
theorem dX9_depthOf_19 : decode cX9_depthOf 19 = .ok (.getfield 53, 3) := by decide +kernel
theorem dX9_depthOf_22 : decode cX9_depthOf 22 = .ok (.iload_n 3, 1) := by decide +kernel
theorem dX9_depthOf_23 : decode cX9_depthOf 23 = .ok (.iaload, 1) := by decide +kernel
theorem dX9_depthOf_24 : decode cX9_depthOf 24 = .ok (.istore_n 3, 1) := by decide +kernel
theorem dX9_depthOf_25 : decode cX9_depthOf 25 = .ok (.goto (-21), 3) := by decide +kernel
theorem dX9_depthOf_28 : decode cX9_depthOf 28 = .ok (.iload_n 2, 1) := by decide +kernel
theorem dX9_depthOf_29 : decode cX9_depthOf 29 = .ok (.ireturn, 1) := by decide +kernel
theorem dX9_reasonsOf_0 : decode cX9_reasonsOf 0 = .ok (.iconst 0, 1) := by decide +kernel
theorem dX9_reasonsOf_1 : decode cX9_reasonsOf 1 = .ok (.istore_n 3, 1) := by decide +kernel
theorem dX9_reasonsOf_2 : decode cX9_reasonsOf 2 = .ok (.iload_n 1, 1) := by decide +kernel
theorem dX9_reasonsOf_3 : decode cX9_reasonsOf 3 = .ok (.istore 4, 2) := by decide +kernel
theorem dX9_reasonsOf_5 : decode cX9_reasonsOf 5 = .ok (.iload_n 2, 1) := by decide +kernel
theorem dX9_reasonsOf_6 : decode cX9_reasonsOf 6 = .ok (.istore 5, 2) := by decide +kernel
theorem dX9_reasonsOf_8 : decode cX9_reasonsOf 8 = .ok (.iload 4, 2) := by decide +kernel
theorem dX9_reasonsOf_10 : decode cX9_reasonsOf 10 = .ok (.iload 5, 2) := by decide +kernel
theorem dX9_reasonsOf_12 : decode cX9_reasonsOf 12 = .ok (.if_icmp .eq 72, 3) := by decide +kernel
theorem dX9_reasonsOf_15 : decode cX9_reasonsOf 15 = .ok (.aload_n 0, 1) := by decide +kernel
theorem dX9_reasonsOf_16 : decode cX9_reasonsOf 16 = .ok (.iload 4, 2) := by decide +kernel
theorem dX9_reasonsOf_18 : decode cX9_reasonsOf 18 = .ok (.invokevirtual 256, 3) := by decide +kernel
theorem dX9_reasonsOf_21 : decode cX9_reasonsOf 21 = .ok (.aload_n 0, 1) := by decide +kernel
theorem dX9_reasonsOf_22 : decode cX9_reasonsOf 22 = .ok (.iload 5, 2) := by decide +kernel
theorem dX9_reasonsOf_24 : decode cX9_reasonsOf 24 = .ok (.invokevirtual 256, 3) := by decide +kernel
theorem dX9_reasonsOf_27 : decode cX9_reasonsOf 27 = .ok (.if_icmp .lt 30, 3) := by decide +kernel
theorem dX9_reasonsOf_30 : decode cX9_reasonsOf 30 = .ok (.iload_n 3, 1) := by decide +kernel
theorem dX9_reasonsOf_31 : decode cX9_reasonsOf 31 = .ok (.aload_n 0, 1) := by decide +kernel
theorem dX9_reasonsOf_32 : decode cX9_reasonsOf 32 = .ok (.getfield 68, 3) := by decide +kernel
theorem dX9_reasonsOf_35 : decode cX9_reasonsOf 35 = .ok (.aload_n 0, 1) := by decide +kernel
theorem dX9_reasonsOf_36 : decode cX9_reasonsOf 36 = .ok (.getfield 56, 3) := by decide +kernel
theorem dX9_reasonsOf_39 : decode cX9_reasonsOf 39 = .ok (.iload 4, 2) := by decide +kernel
theorem dX9_reasonsOf_41 : decode cX9_reasonsOf 41 = .ok (.iaload, 1) := by decide +kernel
theorem dX9_reasonsOf_42 : decode cX9_reasonsOf 42 = .ok (.iaload, 1) := by decide +kernel
theorem dX9_reasonsOf_43 : decode cX9_reasonsOf 43 = .ok (.ior, 1) := by decide +kernel
theorem dX9_reasonsOf_44 : decode cX9_reasonsOf 44 = .ok (.istore_n 3, 1) := by decide +kernel
theorem dX9_reasonsOf_45 : decode cX9_reasonsOf 45 = .ok (.aload_n 0, 1) := by decide +kernel
theorem dX9_reasonsOf_46 : decode cX9_reasonsOf 46 = .ok (.getfield 53, 3) := by decide +kernel
theorem dX9_reasonsOf_49 : decode cX9_reasonsOf 49 = .ok (.iload 4, 2) := by decide +kernel
theorem dX9_reasonsOf_51 : decode cX9_reasonsOf 51 = .ok (.iaload, 1) := by decide +kernel
theorem dX9_reasonsOf_52 : decode cX9_reasonsOf 52 = .ok (.istore 4, 2) := by decide +kernel
theorem dX9_reasonsOf_54 : decode cX9_reasonsOf 54 = .ok (.goto (-46), 3) := by decide +kernel
theorem dX9_reasonsOf_57 : decode cX9_reasonsOf 57 = .ok (.iload_n 3, 1) := by decide +kernel
theorem dX9_reasonsOf_58 : decode cX9_reasonsOf 58 = .ok (.aload_n 0, 1) := by decide +kernel
theorem dX9_reasonsOf_59 : decode cX9_reasonsOf 59 = .ok (.getfield 68, 3) := by decide +kernel
theorem dX9_reasonsOf_62 : decode cX9_reasonsOf 62 = .ok (.aload_n 0, 1) := by decide +kernel
theorem dX9_reasonsOf_63 : decode cX9_reasonsOf 63 = .ok (.getfield 56, 3) := by decide +kernel
theorem dX9_reasonsOf_66 : decode cX9_reasonsOf 66 = .ok (.iload 5, 2) := by decide +kernel
theorem dX9_reasonsOf_68 : decode cX9_reasonsOf 68 = .ok (.iaload, 1) := by decide +kernel
theorem dX9_reasonsOf_69 : decode cX9_reasonsOf 69 = .ok (.iaload, 1) := by decide +kernel
theorem dX9_reasonsOf_70 : decode cX9_reasonsOf 70 = .ok (.ior, 1) := by decide +kernel
theorem dX9_reasonsOf_71 : decode cX9_reasonsOf 71 = .ok (.istore_n 3, 1) := by decide +kernel
theorem dX9_reasonsOf_72 : decode cX9_reasonsOf 72 = .ok (.aload_n 0, 1) := by decide +kernel
theorem dX9_reasonsOf_73 : decode cX9_reasonsOf 73 = .ok (.getfield 53, 3) := by decide +kernel
theorem dX9_reasonsOf_76 : decode cX9_reasonsOf 76 = .ok (.iload 5, 2) := by decide +kernel
theorem dX9_reasonsOf_78 : decode cX9_reasonsOf 78 = .ok (.iaload, 1) := by decide +kernel
theorem dX9_reasonsOf_79 : decode cX9_reasonsOf 79 = .ok (.istore 5, 2) := by decide +kernel
theorem dX9_reasonsOf_81 : decode cX9_reasonsOf 81 = .ok (.goto (-73), 3) := by decide +kernel
theorem dX9_reasonsOf_84 : decode cX9_reasonsOf 84 = .ok (.iload_n 3, 1) := by decide +kernel
theorem dX9_reasonsOf_85 : decode cX9_reasonsOf 85 = .ok (.ireturn, 1) := by decide +kernel
theorem dX9_turns_0 : decode cX9_turns 0 = .ok (.iload_n 1, 1) := by decide +kernel
theorem dX9_turns_1 : decode cX9_turns 1 = .ok (.istore_n 2, 1) := by decide +kernel
theorem dX9_turns_2 : decode cX9_turns 2 = .ok (.bipush (-2), 2) := by decide +kernel
theorem dX9_turns_4 : decode cX9_turns 4 = .ok (.istore_n 3, 1) := by decide +kernel
theorem dX9_turns_5 : decode cX9_turns 5 = .ok (.iconst (-1), 1) := by decide +kernel
theorem dX9_turns_6 : decode cX9_turns 6 = .ok (.istore 4, 2) := by decide +kernel
theorem dX9_turns_8 : decode cX9_turns 8 = .ok (.iload_n 2, 1) := by decide +kernel
theorem dX9_turns_9 : decode cX9_turns 9 = .ok (.bipush (-2), 2) := by decide +kernel
theorem dX9_turns_11 : decode cX9_turns 11 = .ok (.if_icmp .eq 46, 3) := by decide +kernel
theorem dX9_turns_14 : decode cX9_turns 14 = .ok (.aload_n 0, 1) := by decide +kernel
theorem dX9_turns_15 : decode cX9_turns 15 = .ok (.getfield 53, 3) := by decide +kernel
theorem dX9_turns_18 : decode cX9_turns 18 = .ok (.iload_n 2, 1) := by decide +kernel
theorem dX9_turns_19 : decode cX9_turns 19 = .ok (.iaload, 1) := by decide +kernel
theorem dX9_turns_20 : decode cX9_turns 20 = .ok (.istore 5, 2) := by decide +kernel
theorem dX9_turns_22 : decode cX9_turns 22 = .ok (.aload_n 0, 1) := by decide +kernel
theorem dX9_turns_23 : decode cX9_turns 23 = .ok (.getfield 56, 3) := by decide +kernel
theorem dX9_turns_26 : decode cX9_turns 26 = .ok (.iload_n 2, 1) := by decide +kernel
theorem dX9_turns_27 : decode cX9_turns 27 = .ok (.iaload, 1) := by decide +kernel
theorem dX9_turns_28 : decode cX9_turns 28 = .ok (.istore 6, 2) := by decide +kernel
theorem dX9_turns_30 : decode cX9_turns 30 = .ok (.aload_n 0, 1) := by decide +kernel
theorem dX9_turns_31 : decode cX9_turns 31 = .ok (.getfield 53, 3) := by decide +kernel
theorem dX9_turns_34 : decode cX9_turns 34 = .ok (.iload_n 2, 1) := by decide +kernel
theorem dX9_turns_35 : decode cX9_turns 35 = .ok (.iload_n 3, 1) := by decide +kernel
theorem dX9_turns_36 : decode cX9_turns 36 = .ok (.iastore, 1) := by decide +kernel
theorem dX9_turns_37 : decode cX9_turns 37 = .ok (.aload_n 0, 1) := by decide +kernel
theorem dX9_turns_38 : decode cX9_turns 38 = .ok (.getfield 56, 3) := by decide +kernel
theorem dX9_turns_41 : decode cX9_turns 41 = .ok (.iload_n 2, 1) := by decide +kernel
theorem dX9_turns_42 : decode cX9_turns 42 = .ok (.iload 4, 2) := by decide +kernel
theorem dX9_turns_44 : decode cX9_turns 44 = .ok (.iastore, 1) := by decide +kernel
theorem dX9_turns_45 : decode cX9_turns 45 = .ok (.iload_n 2, 1) := by decide +kernel
theorem dX9_turns_46 : decode cX9_turns 46 = .ok (.istore_n 3, 1) := by decide +kernel
theorem dX9_turns_47 : decode cX9_turns 47 = .ok (.iload 6, 2) := by decide +kernel
theorem dX9_turns_49 : decode cX9_turns 49 = .ok (.istore 4, 2) := by decide +kernel
theorem dX9_turns_51 : decode cX9_turns 51 = .ok (.iload 5, 2) := by decide +kernel
theorem dX9_turns_53 : decode cX9_turns 53 = .ok (.istore_n 2, 1) := by decide +kernel
theorem dX9_turns_54 : decode cX9_turns 54 = .ok (.goto (-46), 3) := by decide +kernel
theorem dX9_turns_57 : decode cX9_turns 57 = .ok (.return_, 1) := by decide +kernel
theorem dX9_joinsTwo_0 : decode cX9_joinsTwo 0 = .ok (.aload_n 0, 1) := by decide +kernel
theorem dX9_joinsTwo_1 : decode cX9_joinsTwo 1 = .ok (.getfield 59, 3) := by decide +kernel
theorem dX9_joinsTwo_4 : decode cX9_joinsTwo 4 = .ok (.aload_n 0, 1) := by decide +kernel
theorem dX9_joinsTwo_5 : decode cX9_joinsTwo 5 = .ok (.getfield 259, 3) := by decide +kernel
theorem dX9_joinsTwo_8 : decode cX9_joinsTwo 8 = .ok (.iload_n 1, 1) := by decide +kernel
theorem dX9_joinsTwo_9 : decode cX9_joinsTwo 9 = .ok (.iastore, 1) := by decide +kernel
theorem dX9_joinsTwo_10 : decode cX9_joinsTwo 10 = .ok (.aload_n 0, 1) := by decide +kernel
theorem dX9_joinsTwo_11 : decode cX9_joinsTwo 11 = .ok (.getfield 62, 3) := by decide +kernel
theorem dX9_joinsTwo_14 : decode cX9_joinsTwo 14 = .ok (.aload_n 0, 1) := by decide +kernel
theorem dX9_joinsTwo_15 : decode cX9_joinsTwo 15 = .ok (.getfield 259, 3) := by decide +kernel
theorem dX9_joinsTwo_18 : decode cX9_joinsTwo 18 = .ok (.iload_n 2, 1) := by decide +kernel
theorem dX9_joinsTwo_19 : decode cX9_joinsTwo 19 = .ok (.iastore, 1) := by decide +kernel
theorem dX9_joinsTwo_20 : decode cX9_joinsTwo 20 = .ok (.aload_n 0, 1) := by decide +kernel
theorem dX9_joinsTwo_21 : decode cX9_joinsTwo 21 = .ok (.getfield 65, 3) := by decide +kernel
theorem dX9_joinsTwo_24 : decode cX9_joinsTwo 24 = .ok (.aload_n 0, 1) := by decide +kernel
theorem dX9_joinsTwo_25 : decode cX9_joinsTwo 25 = .ok (.getfield 259, 3) := by decide +kernel
theorem dX9_joinsTwo_28 : decode cX9_joinsTwo 28 = .ok (.iload_n 3, 1) := by decide +kernel
theorem dX9_joinsTwo_29 : decode cX9_joinsTwo 29 = .ok (.iastore, 1) := by decide +kernel
theorem dX9_joinsTwo_30 : decode cX9_joinsTwo 30 = .ok (.aload_n 0, 1) := by decide +kernel
theorem dX9_joinsTwo_31 : decode cX9_joinsTwo 31 = .ok (.getfield 68, 3) := by decide +kernel
theorem dX9_joinsTwo_34 : decode cX9_joinsTwo 34 = .ok (.aload_n 0, 1) := by decide +kernel
theorem dX9_joinsTwo_35 : decode cX9_joinsTwo 35 = .ok (.getfield 259, 3) := by decide +kernel
theorem dX9_joinsTwo_38 : decode cX9_joinsTwo 38 = .ok (.iload_n 3, 1) := by decide +kernel
theorem dX9_joinsTwo_39 : decode cX9_joinsTwo 39 = .ok (.bipush (-2), 2) := by decide +kernel
theorem dX9_joinsTwo_41 : decode cX9_joinsTwo 41 = .ok (.if_icmp .eq 9, 3) := by decide +kernel
theorem dX9_joinsTwo_44 : decode cX9_joinsTwo 44 = .ok (.iconst 1, 1) := by decide +kernel
theorem dX9_joinsTwo_45 : decode cX9_joinsTwo 45 = .ok (.iload_n 3, 1) := by decide +kernel
theorem dX9_joinsTwo_46 : decode cX9_joinsTwo 46 = .ok (.ishl, 1) := by decide +kernel
theorem dX9_joinsTwo_47 : decode cX9_joinsTwo 47 = .ok (.goto 4, 3) := by decide +kernel
theorem dX9_joinsTwo_50 : decode cX9_joinsTwo 50 = .ok (.iconst 0, 1) := by decide +kernel
theorem dX9_joinsTwo_51 : decode cX9_joinsTwo 51 = .ok (.iastore, 1) := by decide +kernel
theorem dX9_joinsTwo_52 : decode cX9_joinsTwo 52 = .ok (.iconst 0, 1) := by decide +kernel
theorem dX9_joinsTwo_53 : decode cX9_joinsTwo 53 = .ok (.istore 4, 2) := by decide +kernel
theorem dX9_joinsTwo_55 : decode cX9_joinsTwo 55 = .ok (.iload_n 3, 1) := by decide +kernel
theorem dX9_joinsTwo_56 : decode cX9_joinsTwo 56 = .ok (.bipush (-2), 2) := by decide +kernel
theorem dX9_joinsTwo_58 : decode cX9_joinsTwo 58 = .ok (.if_icmp .ne 57, 3) := by decide +kernel
theorem dX9_joinsTwo_61 : decode cX9_joinsTwo 61 = .ok (.iload 4, 2) := by decide +kernel
theorem dX9_joinsTwo_63 : decode cX9_joinsTwo 63 = .ok (.aload_n 0, 1) := by decide +kernel
theorem dX9_joinsTwo_64 : decode cX9_joinsTwo 64 = .ok (.iload_n 1, 1) := by decide +kernel
theorem dX9_joinsTwo_65 : decode cX9_joinsTwo 65 = .ok (.invokevirtual 253, 3) := by decide +kernel
theorem dX9_joinsTwo_68 : decode cX9_joinsTwo 68 = .ok (.if_icmp .ge 47, 3) := by decide +kernel
theorem dX9_joinsTwo_71 : decode cX9_joinsTwo 71 = .ok (.aload_n 0, 1) := by decide +kernel
theorem dX9_joinsTwo_72 : decode cX9_joinsTwo 72 = .ok (.getfield 68, 3) := by decide +kernel
theorem dX9_joinsTwo_75 : decode cX9_joinsTwo 75 = .ok (.aload_n 0, 1) := by decide +kernel
theorem dX9_joinsTwo_76 : decode cX9_joinsTwo 76 = .ok (.getfield 259, 3) := by decide +kernel
theorem dX9_joinsTwo_79 : decode cX9_joinsTwo 79 = .ok (.dup2, 1) := by decide +kernel
theorem dX9_joinsTwo_80 : decode cX9_joinsTwo 80 = .ok (.iaload, 1) := by decide +kernel
theorem dX9_joinsTwo_81 : decode cX9_joinsTwo 81 = .ok (.aload_n 0, 1) := by decide +kernel
theorem dX9_joinsTwo_82 : decode cX9_joinsTwo 82 = .ok (.aload_n 0, 1) := by decide +kernel
theorem dX9_joinsTwo_83 : decode cX9_joinsTwo 83 = .ok (.getfield 35, 3) := by decide +kernel
theorem dX9_joinsTwo_86 : decode cX9_joinsTwo 86 = .ok (.iconst 3, 1) := by decide +kernel
theorem dX9_joinsTwo_87 : decode cX9_joinsTwo 87 = .ok (.iload_n 1, 1) := by decide +kernel
theorem dX9_joinsTwo_88 : decode cX9_joinsTwo 88 = .ok (.imul, 1) := by decide +kernel
theorem dX9_joinsTwo_89 : decode cX9_joinsTwo 89 = .ok (.iload 4, 2) := by decide +kernel
theorem dX9_joinsTwo_91 : decode cX9_joinsTwo 91 = .ok (.iadd, 1) := by decide +kernel
theorem dX9_joinsTwo_92 : decode cX9_joinsTwo 92 = .ok (.iaload, 1) := by decide +kernel
theorem dX9_joinsTwo_93 : decode cX9_joinsTwo 93 = .ok (.aload_n 0, 1) := by decide +kernel
theorem dX9_joinsTwo_94 : decode cX9_joinsTwo 94 = .ok (.getfield 35, 3) := by decide +kernel
theorem dX9_joinsTwo_97 : decode cX9_joinsTwo 97 = .ok (.iconst 3, 1) := by decide +kernel
theorem dX9_joinsTwo_98 : decode cX9_joinsTwo 98 = .ok (.iload_n 2, 1) := by decide +kernel
theorem dX9_joinsTwo_99 : decode cX9_joinsTwo 99 = .ok (.imul, 1) := by decide +kernel
theorem dX9_joinsTwo_100 : decode cX9_joinsTwo 100 = .ok (.iload 4, 2) := by decide +kernel
theorem dX9_joinsTwo_102 : decode cX9_joinsTwo 102 = .ok (.iadd, 1) := by decide +kernel
theorem dX9_joinsTwo_103 : decode cX9_joinsTwo 103 = .ok (.iaload, 1) := by decide +kernel
theorem dX9_joinsTwo_104 : decode cX9_joinsTwo 104 = .ok (.invokevirtual 262, 3) := by decide +kernel
theorem dX9_joinsTwo_107 : decode cX9_joinsTwo 107 = .ok (.ior, 1) := by decide +kernel
theorem dX9_joinsTwo_108 : decode cX9_joinsTwo 108 = .ok (.iastore, 1) := by decide +kernel
theorem dX9_joinsTwo_109 : decode cX9_joinsTwo 109 = .ok (.iinc 4 1, 3) := by decide +kernel
theorem dX9_joinsTwo_112 : decode cX9_joinsTwo 112 = .ok (.goto (-57), 3) := by decide +kernel
theorem dX9_joinsTwo_115 : decode cX9_joinsTwo 115 = .ok (.aload_n 0, 1) := by decide +kernel
theorem dX9_joinsTwo_116 : decode cX9_joinsTwo 116 = .ok (.iload_n 2, 1) := by decide +kernel
theorem dX9_joinsTwo_117 : decode cX9_joinsTwo 117 = .ok (.invokevirtual 266, 3) := by decide +kernel
theorem dX9_joinsTwo_120 : decode cX9_joinsTwo 120 = .ok (.aload_n 0, 1) := by decide +kernel
theorem dX9_joinsTwo_121 : decode cX9_joinsTwo 121 = .ok (.getfield 53, 3) := by decide +kernel
theorem dX9_joinsTwo_124 : decode cX9_joinsTwo 124 = .ok (.iload_n 2, 1) := by decide +kernel
theorem dX9_joinsTwo_125 : decode cX9_joinsTwo 125 = .ok (.iload_n 1, 1) := by decide +kernel
theorem dX9_joinsTwo_126 : decode cX9_joinsTwo 126 = .ok (.iastore, 1) := by decide +kernel
theorem dX9_joinsTwo_127 : decode cX9_joinsTwo 127 = .ok (.aload_n 0, 1) := by decide +kernel
theorem dX9_joinsTwo_128 : decode cX9_joinsTwo 128 = .ok (.getfield 56, 3) := by decide +kernel
theorem dX9_joinsTwo_131 : decode cX9_joinsTwo 131 = .ok (.iload_n 2, 1) := by decide +kernel
theorem dX9_joinsTwo_132 : decode cX9_joinsTwo 132 = .ok (.aload_n 0, 1) := by decide +kernel
theorem dX9_joinsTwo_133 : decode cX9_joinsTwo 133 = .ok (.getfield 259, 3) := by decide +kernel
theorem dX9_joinsTwo_136 : decode cX9_joinsTwo 136 = .ok (.iastore, 1) := by decide +kernel
theorem dX9_joinsTwo_137 : decode cX9_joinsTwo 137 = .ok (.aload_n 0, 1) := by decide +kernel
theorem dX9_joinsTwo_138 : decode cX9_joinsTwo 138 = .ok (.dup, 1) := by decide +kernel
theorem dX9_joinsTwo_139 : decode cX9_joinsTwo 139 = .ok (.getfield 259, 3) := by decide +kernel
theorem dX9_joinsTwo_142 : decode cX9_joinsTwo 142 = .ok (.iconst 1, 1) := by decide +kernel
theorem dX9_joinsTwo_143 : decode cX9_joinsTwo 143 = .ok (.iadd, 1) := by decide +kernel
theorem dX9_joinsTwo_144 : decode cX9_joinsTwo 144 = .ok (.putfield 259, 3) := by decide +kernel
theorem dX9_joinsTwo_147 : decode cX9_joinsTwo 147 = .ok (.aload_n 0, 1) := by decide +kernel
theorem dX9_joinsTwo_148 : decode cX9_joinsTwo 148 = .ok (.aload_n 0, 1) := by decide +kernel
theorem dX9_joinsTwo_149 : decode cX9_joinsTwo 149 = .ok (.getfield 50, 3) := by decide +kernel
theorem dX9_joinsTwo_152 : decode cX9_joinsTwo 152 = .ok (.iload_n 1, 1) := by decide +kernel
theorem dX9_joinsTwo_153 : decode cX9_joinsTwo 153 = .ok (.iload_n 2, 1) := by decide +kernel
theorem dX9_joinsTwo_154 : decode cX9_joinsTwo 154 = .ok (.invokevirtual 269, 3) := by decide +kernel
theorem dX9_joinsTwo_157 : decode cX9_joinsTwo 157 = .ok (.return_, 1) := by decide +kernel
theorem dX9_joinsNext_0 : decode cX9_joinsNext 0 = .ok (.iconst 0, 1) := by decide +kernel
theorem dX9_joinsNext_1 : decode cX9_joinsNext 1 = .ok (.istore_n 1, 1) := by decide +kernel
theorem dX9_joinsNext_2 : decode cX9_joinsNext 2 = .ok (.iload_n 1, 1) := by decide +kernel
theorem dX9_joinsNext_3 : decode cX9_joinsNext 3 = .ok (.aload_n 0, 1) := by decide +kernel
theorem dX9_joinsNext_4 : decode cX9_joinsNext 4 = .ok (.getfield 250, 3) := by decide +kernel
theorem dX9_joinsNext_7 : decode cX9_joinsNext 7 = .ok (.if_icmp .ge 65, 3) := by decide +kernel
theorem dX9_joinsNext_10 : decode cX9_joinsNext 10 = .ok (.iload_n 1, 1) := by decide +kernel
theorem dX9_joinsNext_11 : decode cX9_joinsNext 11 = .ok (.iconst 1, 1) := by decide +kernel
theorem dX9_joinsNext_12 : decode cX9_joinsNext 12 = .ok (.iadd, 1) := by decide +kernel
theorem dX9_joinsNext_13 : decode cX9_joinsNext 13 = .ok (.istore_n 2, 1) := by decide +kernel
theorem dX9_joinsNext_14 : decode cX9_joinsNext 14 = .ok (.iload_n 2, 1) := by decide +kernel
theorem dX9_joinsNext_15 : decode cX9_joinsNext 15 = .ok (.aload_n 0, 1) := by decide +kernel
theorem dX9_joinsNext_16 : decode cX9_joinsNext 16 = .ok (.getfield 250, 3) := by decide +kernel
theorem dX9_joinsNext_19 : decode cX9_joinsNext 19 = .ok (.if_icmp .ge 47, 3) := by decide +kernel
theorem dX9_joinsNext_22 : decode cX9_joinsNext 22 = .ok (.aload_n 0, 1) := by decide +kernel
theorem dX9_joinsNext_23 : decode cX9_joinsNext 23 = .ok (.getfield 50, 3) := by decide +kernel
theorem dX9_joinsNext_26 : decode cX9_joinsNext 26 = .ok (.iload_n 1, 1) := by decide +kernel
theorem dX9_joinsNext_27 : decode cX9_joinsNext 27 = .ok (.iaload, 1) := by decide +kernel
theorem dX9_joinsNext_28 : decode cX9_joinsNext 28 = .ok (.aload_n 0, 1) := by decide +kernel
theorem dX9_joinsNext_29 : decode cX9_joinsNext 29 = .ok (.getfield 50, 3) := by decide +kernel
theorem dX9_joinsNext_32 : decode cX9_joinsNext 32 = .ok (.iload_n 2, 1) := by decide +kernel
theorem dX9_joinsNext_33 : decode cX9_joinsNext 33 = .ok (.iaload, 1) := by decide +kernel
theorem dX9_joinsNext_34 : decode cX9_joinsNext 34 = .ok (.if_icmp .eq 26, 3) := by decide +kernel
theorem dX9_joinsNext_37 : decode cX9_joinsNext 37 = .ok (.aload_n 0, 1) := by decide +kernel
theorem dX9_joinsNext_38 : decode cX9_joinsNext 38 = .ok (.aload_n 0, 1) := by decide +kernel
theorem dX9_joinsNext_39 : decode cX9_joinsNext 39 = .ok (.getfield 50, 3) := by decide +kernel
theorem dX9_joinsNext_42 : decode cX9_joinsNext 42 = .ok (.iload_n 1, 1) := by decide +kernel
theorem dX9_joinsNext_43 : decode cX9_joinsNext 43 = .ok (.iload_n 2, 1) := by decide +kernel
theorem dX9_joinsNext_44 : decode cX9_joinsNext 44 = .ok (.invokevirtual 273, 3) := by decide +kernel
theorem dX9_joinsNext_47 : decode cX9_joinsNext 47 = .ok (.ifCond .eq 13, 3) := by decide +kernel
theorem dX9_joinsNext_50 : decode cX9_joinsNext 50 = .ok (.aload_n 0, 1) := by decide +kernel
theorem dX9_joinsNext_51 : decode cX9_joinsNext 51 = .ok (.iload_n 1, 1) := by decide +kernel
theorem dX9_joinsNext_52 : decode cX9_joinsNext 52 = .ok (.iload_n 2, 1) := by decide +kernel
theorem dX9_joinsNext_53 : decode cX9_joinsNext 53 = .ok (.bipush (-2), 2) := by decide +kernel
theorem dX9_joinsNext_55 : decode cX9_joinsNext 55 = .ok (.invokevirtual 277, 3) := by decide +kernel
theorem dX9_joinsNext_58 : decode cX9_joinsNext 58 = .ok (.iconst 1, 1) := by decide +kernel
theorem dX9_joinsNext_59 : decode cX9_joinsNext 59 = .ok (.ireturn, 1) := by decide +kernel
theorem dX9_joinsNext_60 : decode cX9_joinsNext 60 = .ok (.iinc 2 1, 3) := by decide +kernel
theorem dX9_joinsNext_63 : decode cX9_joinsNext 63 = .ok (.goto (-49), 3) := by decide +kernel
theorem dX9_joinsNext_66 : decode cX9_joinsNext 66 = .ok (.iinc 1 1, 3) := by decide +kernel
theorem dX9_joinsNext_69 : decode cX9_joinsNext 69 = .ok (.goto (-67), 3) := by decide +kernel
theorem dX9_joinsNext_72 : decode cX9_joinsNext 72 = .ok (.iconst 0, 1) := by decide +kernel
theorem dX9_joinsNext_73 : decode cX9_joinsNext 73 = .ok (.ireturn, 1) := by decide +kernel
theorem dX9_closes_0 : decode cX9_closes 0 = .ok (.aload_n 0, 1) := by decide +kernel
theorem dX9_closes_1 : decode cX9_closes 1 = .ok (.invokevirtual 281, 3) := by decide +kernel
theorem dX9_closes_4 : decode cX9_closes 4 = .ok (.ifCond .eq 11, 3) := by decide +kernel
theorem dX9_closes_7 : decode cX9_closes 7 = .ok (.aload_n 0, 1) := by decide +kernel
theorem dX9_closes_8 : decode cX9_closes 8 = .ok (.iconst 0, 1) := by decide +kernel
theorem dX9_closes_9 : decode cX9_closes 9 = .ok (.putfield 103, 3) := by decide +kernel
theorem dX9_closes_12 : decode cX9_closes 12 = .ok (.goto (-12), 3) := by decide +kernel
theorem dX9_closes_15 : decode cX9_closes 15 = .ok (.return_, 1) := by decide +kernel
theorem dX9_comesTerm_0 : decode cX9_comesTerm 0 = .ok (.aload_n 0, 1) := by decide +kernel
theorem dX9_comesTerm_1 : decode cX9_comesTerm 1 = .ok (.getfield 32, 3) := by decide +kernel
theorem dX9_comesTerm_4 : decode cX9_comesTerm 4 = .ok (.aload_n 0, 1) := by decide +kernel
theorem dX9_comesTerm_5 : decode cX9_comesTerm 5 = .ok (.getfield 250, 3) := by decide +kernel
theorem dX9_comesTerm_8 : decode cX9_comesTerm 8 = .ok (.aload_n 0, 1) := by decide +kernel
theorem dX9_comesTerm_9 : decode cX9_comesTerm 9 = .ok (.getfield 23, 3) := by decide +kernel
theorem dX9_comesTerm_12 : decode cX9_comesTerm 12 = .ok (.iload_n 1, 1) := by decide +kernel
theorem dX9_comesTerm_13 : decode cX9_comesTerm 13 = .ok (.iaload, 1) := by decide +kernel
theorem dX9_comesTerm_14 : decode cX9_comesTerm 14 = .ok (.iastore, 1) := by decide +kernel
theorem dX9_comesTerm_15 : decode cX9_comesTerm 15 = .ok (.iconst 0, 1) := by decide +kernel
theorem dX9_comesTerm_16 : decode cX9_comesTerm 16 = .ok (.istore_n 2, 1) := by decide +kernel
theorem dX9_comesTerm_17 : decode cX9_comesTerm 17 = .ok (.iload_n 2, 1) := by decide +kernel
theorem dX9_comesTerm_18 : decode cX9_comesTerm 18 = .ok (.iconst 3, 1) := by decide +kernel
theorem dX9_comesTerm_19 : decode cX9_comesTerm 19 = .ok (.if_icmp .ge 51, 3) := by decide +kernel
theorem dX9_comesTerm_22 : decode cX9_comesTerm 22 = .ok (.aload_n 0, 1) := by decide +kernel
theorem dX9_comesTerm_23 : decode cX9_comesTerm 23 = .ok (.getfield 35, 3) := by decide +kernel
theorem dX9_comesTerm_26 : decode cX9_comesTerm 26 = .ok (.iconst 3, 1) := by decide +kernel
theorem dX9_comesTerm_27 : decode cX9_comesTerm 27 = .ok (.aload_n 0, 1) := by decide +kernel
theorem dX9_comesTerm_28 : decode cX9_comesTerm 28 = .ok (.getfield 250, 3) := by decide +kernel
theorem dX9_comesTerm_31 : decode cX9_comesTerm 31 = .ok (.imul, 1) := by decide +kernel
theorem dX9_comesTerm_32 : decode cX9_comesTerm 32 = .ok (.iload_n 2, 1) := by decide +kernel
theorem dX9_comesTerm_33 : decode cX9_comesTerm 33 = .ok (.iadd, 1) := by decide +kernel
theorem dX9_comesTerm_34 : decode cX9_comesTerm 34 = .ok (.iload_n 2, 1) := by decide +kernel
theorem dX9_comesTerm_35 : decode cX9_comesTerm 35 = .ok (.aload_n 0, 1) := by decide +kernel
theorem dX9_comesTerm_36 : decode cX9_comesTerm 36 = .ok (.getfield 17, 3) := by decide +kernel
theorem dX9_comesTerm_39 : decode cX9_comesTerm 39 = .ok (.aload_n 0, 1) := by decide +kernel
theorem dX9_comesTerm_40 : decode cX9_comesTerm 40 = .ok (.getfield 23, 3) := by decide +kernel
theorem dX9_comesTerm_43 : decode cX9_comesTerm 43 = .ok (.iload_n 1, 1) := by decide +kernel
theorem dX9_comesTerm_44 : decode cX9_comesTerm 44 = .ok (.iaload, 1) := by decide +kernel
theorem dX9_comesTerm_45 : decode cX9_comesTerm 45 = .ok (.iaload, 1) := by decide +kernel
theorem dX9_comesTerm_46 : decode cX9_comesTerm 46 = .ok (.if_icmp .ge 16, 3) := by decide +kernel
theorem dX9_comesTerm_49 : decode cX9_comesTerm 49 = .ok (.aload_n 0, 1) := by decide +kernel
theorem dX9_comesTerm_50 : decode cX9_comesTerm 50 = .ok (.getfield 23, 3) := by decide +kernel
theorem dX9_comesTerm_53 : decode cX9_comesTerm 53 = .ok (.iload_n 1, 1) := by decide +kernel
theorem dX9_comesTerm_54 : decode cX9_comesTerm 54 = .ok (.iconst 1, 1) := by decide +kernel
theorem dX9_comesTerm_55 : decode cX9_comesTerm 55 = .ok (.iadd, 1) := by decide +kernel
theorem dX9_comesTerm_56 : decode cX9_comesTerm 56 = .ok (.iload_n 2, 1) := by decide +kernel
theorem dX9_comesTerm_57 : decode cX9_comesTerm 57 = .ok (.iadd, 1) := by decide +kernel
theorem dX9_comesTerm_58 : decode cX9_comesTerm 58 = .ok (.iaload, 1) := by decide +kernel
theorem dX9_comesTerm_59 : decode cX9_comesTerm 59 = .ok (.goto 4, 3) := by decide +kernel
theorem dX9_comesTerm_62 : decode cX9_comesTerm 62 = .ok (.iconst 0, 1) := by decide +kernel
theorem dX9_comesTerm_63 : decode cX9_comesTerm 63 = .ok (.iastore, 1) := by decide +kernel
theorem dX9_comesTerm_64 : decode cX9_comesTerm 64 = .ok (.iinc 2 1, 3) := by decide +kernel
theorem dX9_comesTerm_67 : decode cX9_comesTerm 67 = .ok (.goto (-50), 3) := by decide +kernel
theorem dX9_comesTerm_70 : decode cX9_comesTerm 70 = .ok (.aload_n 0, 1) := by decide +kernel
theorem dX9_comesTerm_71 : decode cX9_comesTerm 71 = .ok (.getfield 50, 3) := by decide +kernel
theorem dX9_comesTerm_74 : decode cX9_comesTerm 74 = .ok (.aload_n 0, 1) := by decide +kernel
theorem dX9_comesTerm_75 : decode cX9_comesTerm 75 = .ok (.getfield 250, 3) := by decide +kernel
theorem dX9_comesTerm_78 : decode cX9_comesTerm 78 = .ok (.aload_n 0, 1) := by decide +kernel
theorem dX9_comesTerm_79 : decode cX9_comesTerm 79 = .ok (.getfield 250, 3) := by decide +kernel
theorem dX9_comesTerm_82 : decode cX9_comesTerm 82 = .ok (.iastore, 1) := by decide +kernel
theorem dX9_comesTerm_83 : decode cX9_comesTerm 83 = .ok (.aload_n 0, 1) := by decide +kernel
theorem dX9_comesTerm_84 : decode cX9_comesTerm 84 = .ok (.getfield 53, 3) := by decide +kernel
theorem dX9_comesTerm_87 : decode cX9_comesTerm 87 = .ok (.aload_n 0, 1) := by decide +kernel
theorem dX9_comesTerm_88 : decode cX9_comesTerm 88 = .ok (.getfield 250, 3) := by decide +kernel
theorem dX9_comesTerm_91 : decode cX9_comesTerm 91 = .ok (.bipush (-2), 2) := by decide +kernel
theorem dX9_comesTerm_93 : decode cX9_comesTerm 93 = .ok (.iastore, 1) := by decide +kernel
theorem dX9_comesTerm_94 : decode cX9_comesTerm 94 = .ok (.aload_n 0, 1) := by decide +kernel
theorem dX9_comesTerm_95 : decode cX9_comesTerm 95 = .ok (.getfield 56, 3) := by decide +kernel
theorem dX9_comesTerm_98 : decode cX9_comesTerm 98 = .ok (.aload_n 0, 1) := by decide +kernel
theorem dX9_comesTerm_99 : decode cX9_comesTerm 99 = .ok (.getfield 250, 3) := by decide +kernel
theorem dX9_comesTerm_102 : decode cX9_comesTerm 102 = .ok (.iconst (-1), 1) := by decide +kernel
theorem dX9_comesTerm_103 : decode cX9_comesTerm 103 = .ok (.iastore, 1) := by decide +kernel
theorem dX9_comesTerm_104 : decode cX9_comesTerm 104 = .ok (.aload_n 0, 1) := by decide +kernel
theorem dX9_comesTerm_105 : decode cX9_comesTerm 105 = .ok (.dup, 1) := by decide +kernel
theorem dX9_comesTerm_106 : decode cX9_comesTerm 106 = .ok (.getfield 250, 3) := by decide +kernel
theorem dX9_comesTerm_109 : decode cX9_comesTerm 109 = .ok (.iconst 1, 1) := by decide +kernel
theorem dX9_comesTerm_110 : decode cX9_comesTerm 110 = .ok (.iadd, 1) := by decide +kernel
theorem dX9_comesTerm_111 : decode cX9_comesTerm 111 = .ok (.putfield 250, 3) := by decide +kernel
theorem dX9_comesTerm_114 : decode cX9_comesTerm 114 = .ok (.aload_n 0, 1) := by decide +kernel
theorem dX9_comesTerm_115 : decode cX9_comesTerm 115 = .ok (.invokevirtual 284, 3) := by decide +kernel
theorem dX9_comesTerm_118 : decode cX9_comesTerm 118 = .ok (.return_, 1) := by decide +kernel
theorem dX9_comesSame_0 : decode cX9_comesSame 0 = .ok (.aload_n 0, 1) := by decide +kernel
theorem dX9_comesSame_1 : decode cX9_comesSame 1 = .ok (.getfield 38, 3) := by decide +kernel
theorem dX9_comesSame_4 : decode cX9_comesSame 4 = .ok (.aload_n 0, 1) := by decide +kernel
theorem dX9_comesSame_5 : decode cX9_comesSame 5 = .ok (.getfield 287, 3) := by decide +kernel
theorem dX9_comesSame_8 : decode cX9_comesSame 8 = .ok (.iload_n 1, 1) := by decide +kernel
theorem dX9_comesSame_9 : decode cX9_comesSame 9 = .ok (.iastore, 1) := by decide +kernel
theorem dX9_comesSame_10 : decode cX9_comesSame 10 = .ok (.aload_n 0, 1) := by decide +kernel
theorem dX9_comesSame_11 : decode cX9_comesSame 11 = .ok (.getfield 41, 3) := by decide +kernel
theorem dX9_comesSame_14 : decode cX9_comesSame 14 = .ok (.aload_n 0, 1) := by decide +kernel
theorem dX9_comesSame_15 : decode cX9_comesSame 15 = .ok (.getfield 287, 3) := by decide +kernel
theorem dX9_comesSame_18 : decode cX9_comesSame 18 = .ok (.iload_n 2, 1) := by decide +kernel
theorem dX9_comesSame_19 : decode cX9_comesSame 19 = .ok (.iastore, 1) := by decide +kernel
theorem dX9_comesSame_20 : decode cX9_comesSame 20 = .ok (.aload_n 0, 1) := by decide +kernel
theorem dX9_comesSame_21 : decode cX9_comesSame 21 = .ok (.dup, 1) := by decide +kernel
theorem dX9_comesSame_22 : decode cX9_comesSame 22 = .ok (.getfield 287, 3) := by decide +kernel
theorem dX9_comesSame_25 : decode cX9_comesSame 25 = .ok (.iconst 1, 1) := by decide +kernel
theorem dX9_comesSame_26 : decode cX9_comesSame 26 = .ok (.iadd, 1) := by decide +kernel
theorem dX9_comesSame_27 : decode cX9_comesSame 27 = .ok (.putfield 287, 3) := by decide +kernel
theorem dX9_comesSame_30 : decode cX9_comesSame 30 = .ok (.aload_n 0, 1) := by decide +kernel
theorem dX9_comesSame_31 : decode cX9_comesSame 31 = .ok (.getfield 50, 3) := by decide +kernel
theorem dX9_comesSame_34 : decode cX9_comesSame 34 = .ok (.iload_n 1, 1) := by decide +kernel
theorem dX9_comesSame_35 : decode cX9_comesSame 35 = .ok (.iaload, 1) := by decide +kernel
theorem dX9_comesSame_36 : decode cX9_comesSame 36 = .ok (.aload_n 0, 1) := by decide +kernel
theorem dX9_comesSame_37 : decode cX9_comesSame 37 = .ok (.getfield 50, 3) := by decide +kernel
theorem dX9_comesSame_40 : decode cX9_comesSame 40 = .ok (.iload_n 2, 1) := by decide +kernel
theorem dX9_comesSame_41 : decode cX9_comesSame 41 = .ok (.iaload, 1) := by decide +kernel
theorem dX9_comesSame_42 : decode cX9_comesSame 42 = .ok (.if_icmp .eq 19, 3) := by decide +kernel
theorem dX9_comesSame_45 : decode cX9_comesSame 45 = .ok (.aload_n 0, 1) := by decide +kernel
theorem dX9_comesSame_46 : decode cX9_comesSame 46 = .ok (.iload_n 1, 1) := by decide +kernel
theorem dX9_comesSame_47 : decode cX9_comesSame 47 = .ok (.iload_n 2, 1) := by decide +kernel
theorem dX9_comesSame_48 : decode cX9_comesSame 48 = .ok (.aload_n 0, 1) := by decide +kernel
theorem dX9_comesSame_49 : decode cX9_comesSame 49 = .ok (.getfield 287, 3) := by decide +kernel
theorem dX9_comesSame_52 : decode cX9_comesSame 52 = .ok (.iconst 1, 1) := by decide +kernel
theorem dX9_comesSame_53 : decode cX9_comesSame 53 = .ok (.isub, 1) := by decide +kernel
theorem dX9_comesSame_54 : decode cX9_comesSame 54 = .ok (.invokevirtual 277, 3) := by decide +kernel
theorem dX9_comesSame_57 : decode cX9_comesSame 57 = .ok (.aload_n 0, 1) := by decide +kernel
theorem dX9_comesSame_58 : decode cX9_comesSame 58 = .ok (.invokevirtual 284, 3) := by decide +kernel
theorem dX9_comesSame_61 : decode cX9_comesSame 61 = .ok (.return_, 1) := by decide +kernel
theorem dX9_comes_0 : decode cX9_comes 0 = .ok (.iconst 4, 1) := by decide +kernel
theorem dX9_comes_1 : decode cX9_comes 1 = .ok (.iload_n 1, 1) := by decide +kernel
theorem dX9_comes_2 : decode cX9_comes 2 = .ok (.imul, 1) := by decide +kernel
theorem dX9_comes_3 : decode cX9_comes 3 = .ok (.istore_n 2, 1) := by decide +kernel
theorem dX9_comes_4 : decode cX9_comes 4 = .ok (.aload_n 0, 1) := by decide +kernel
theorem dX9_comes_5 : decode cX9_comes 5 = .ok (.getfield 20, 3) := by decide +kernel
theorem dX9_comes_8 : decode cX9_comes 8 = .ok (.iload_n 1, 1) := by decide +kernel
theorem dX9_comes_9 : decode cX9_comes 9 = .ok (.iaload, 1) := by decide +kernel
theorem dX9_comes_10 : decode cX9_comes 10 = .ok (.ifCond .ne 11, 3) := by decide +kernel
theorem dX9_comes_13 : decode cX9_comes 13 = .ok (.aload_n 0, 1) := by decide +kernel
theorem dX9_comes_14 : decode cX9_comes 14 = .ok (.iload_n 2, 1) := by decide +kernel
theorem dX9_comes_15 : decode cX9_comes 15 = .ok (.invokevirtual 290, 3) := by decide +kernel
theorem dX9_comes_18 : decode cX9_comes 18 = .ok (.goto 76, 3) := by decide +kernel
theorem dX9_comes_21 : decode cX9_comes 21 = .ok (.aload_n 0, 1) := by decide +kernel
theorem dX9_comes_22 : decode cX9_comes 22 = .ok (.getfield 20, 3) := by decide +kernel
theorem dX9_comes_25 : decode cX9_comes 25 = .ok (.iload_n 1, 1) := by decide +kernel
theorem dX9_comes_26 : decode cX9_comes 26 = .ok (.iaload, 1) := by decide +kernel
theorem dX9_comes_27 : decode cX9_comes 27 = .ok (.iconst 1, 1) := by decide +kernel
theorem dX9_comes_28 : decode cX9_comes 28 = .ok (.if_icmp .ne 24, 3) := by decide +kernel
theorem dX9_comes_31 : decode cX9_comes 31 = .ok (.aload_n 0, 1) := by decide +kernel
theorem dX9_comes_32 : decode cX9_comes 32 = .ok (.aload_n 0, 1) := by decide +kernel
theorem dX9_comes_33 : decode cX9_comes 33 = .ok (.getfield 23, 3) := by decide +kernel
theorem dX9_comes_36 : decode cX9_comes 36 = .ok (.iload_n 2, 1) := by decide +kernel
theorem dX9_comes_37 : decode cX9_comes 37 = .ok (.iaload, 1) := by decide +kernel
theorem dX9_comes_38 : decode cX9_comes 38 = .ok (.aload_n 0, 1) := by decide +kernel
theorem dX9_comes_39 : decode cX9_comes 39 = .ok (.getfield 23, 3) := by decide +kernel
theorem dX9_comes_42 : decode cX9_comes 42 = .ok (.iload_n 2, 1) := by decide +kernel
theorem dX9_comes_43 : decode cX9_comes 43 = .ok (.iconst 1, 1) := by decide +kernel
theorem dX9_comes_44 : decode cX9_comes 44 = .ok (.iadd, 1) := by decide +kernel
theorem dX9_comes_45 : decode cX9_comes 45 = .ok (.iaload, 1) := by decide +kernel
theorem dX9_comes_46 : decode cX9_comes 46 = .ok (.invokevirtual 293, 3) := by decide +kernel
theorem dX9_comes_49 : decode cX9_comes 49 = .ok (.goto 45, 3) := by decide +kernel
theorem dX9_comes_52 : decode cX9_comes 52 = .ok (.aload_n 0, 1) := by decide +kernel
theorem dX9_comes_53 : decode cX9_comes 53 = .ok (.getfield 44, 3) := by decide +kernel
theorem dX9_comes_56 : decode cX9_comes 56 = .ok (.aload_n 0, 1) := by decide +kernel
theorem dX9_comes_57 : decode cX9_comes 57 = .ok (.getfield 297, 3) := by decide +kernel
theorem dX9_comes_60 : decode cX9_comes 60 = .ok (.aload_n 0, 1) := by decide +kernel
theorem dX9_comes_61 : decode cX9_comes 61 = .ok (.getfield 23, 3) := by decide +kernel
theorem dX9_comes_64 : decode cX9_comes 64 = .ok (.iload_n 2, 1) := by decide +kernel
theorem dX9_comes_65 : decode cX9_comes 65 = .ok (.iaload, 1) := by decide +kernel
theorem dX9_comes_66 : decode cX9_comes 66 = .ok (.iastore, 1) := by decide +kernel
theorem dX9_comes_67 : decode cX9_comes 67 = .ok (.aload_n 0, 1) := by decide +kernel
theorem dX9_comes_68 : decode cX9_comes 68 = .ok (.getfield 47, 3) := by decide +kernel
theorem dX9_comes_71 : decode cX9_comes 71 = .ok (.aload_n 0, 1) := by decide +kernel
theorem dX9_comes_72 : decode cX9_comes 72 = .ok (.getfield 297, 3) := by decide +kernel
theorem dX9_comes_75 : decode cX9_comes 75 = .ok (.aload_n 0, 1) := by decide +kernel
theorem dX9_comes_76 : decode cX9_comes 76 = .ok (.getfield 23, 3) := by decide +kernel
theorem dX9_comes_79 : decode cX9_comes 79 = .ok (.iload_n 2, 1) := by decide +kernel
theorem dX9_comes_80 : decode cX9_comes 80 = .ok (.iconst 1, 1) := by decide +kernel
theorem dX9_comes_81 : decode cX9_comes 81 = .ok (.iadd, 1) := by decide +kernel
theorem dX9_comes_82 : decode cX9_comes 82 = .ok (.iaload, 1) := by decide +kernel
theorem dX9_comes_83 : decode cX9_comes 83 = .ok (.iastore, 1) := by decide +kernel
theorem dX9_comes_84 : decode cX9_comes 84 = .ok (.aload_n 0, 1) := by decide +kernel
theorem dX9_comes_85 : decode cX9_comes 85 = .ok (.dup, 1) := by decide +kernel
theorem dX9_comes_86 : decode cX9_comes 86 = .ok (.getfield 297, 3) := by decide +kernel
theorem dX9_comes_89 : decode cX9_comes 89 = .ok (.iconst 1, 1) := by decide +kernel
theorem dX9_comes_90 : decode cX9_comes 90 = .ok (.iadd, 1) := by decide +kernel
theorem dX9_comes_91 : decode cX9_comes 91 = .ok (.putfield 297, 3) := by decide +kernel
theorem dX9_comes_94 : decode cX9_comes 94 = .ok (.return_, 1) := by decide +kernel
theorem dX9_makes_0 : decode cX9_makes 0 = .ok (.aload_n 0, 1) := by decide +kernel
theorem dX9_makes_1 : decode cX9_makes 1 = .ok (.iconst 0, 1) := by decide +kernel
theorem dX9_makes_2 : decode cX9_makes 2 = .ok (.putfield 250, 3) := by decide +kernel
theorem dX9_makes_5 : decode cX9_makes 5 = .ok (.aload_n 0, 1) := by decide +kernel
theorem dX9_makes_6 : decode cX9_makes 6 = .ok (.iconst 0, 1) := by decide +kernel
theorem dX9_makes_7 : decode cX9_makes 7 = .ok (.putfield 287, 3) := by decide +kernel
theorem dX9_makes_10 : decode cX9_makes 10 = .ok (.aload_n 0, 1) := by decide +kernel
theorem dX9_makes_11 : decode cX9_makes 11 = .ok (.iconst 0, 1) := by decide +kernel
theorem dX9_makes_12 : decode cX9_makes 12 = .ok (.putfield 297, 3) := by decide +kernel
theorem dX9_makes_15 : decode cX9_makes 15 = .ok (.aload_n 0, 1) := by decide +kernel
theorem dX9_makes_16 : decode cX9_makes 16 = .ok (.iconst 0, 1) := by decide +kernel
theorem dX9_makes_17 : decode cX9_makes 17 = .ok (.putfield 259, 3) := by decide +kernel
theorem dX9_makes_20 : decode cX9_makes 20 = .ok (.iconst 0, 1) := by decide +kernel
theorem dX9_makes_21 : decode cX9_makes 21 = .ok (.istore_n 1, 1) := by decide +kernel
theorem dX9_makes_22 : decode cX9_makes 22 = .ok (.iload_n 1, 1) := by decide +kernel
theorem dX9_makes_23 : decode cX9_makes 23 = .ok (.aload_n 0, 1) := by decide +kernel
theorem dX9_makes_24 : decode cX9_makes 24 = .ok (.getfield 238, 3) := by decide +kernel
theorem dX9_makes_27 : decode cX9_makes 27 = .ok (.if_icmp .ge 14, 3) := by decide +kernel
theorem dX9_makes_30 : decode cX9_makes 30 = .ok (.aload_n 0, 1) := by decide +kernel
theorem dX9_makes_31 : decode cX9_makes 31 = .ok (.iload_n 1, 1) := by decide +kernel
theorem dX9_makes_32 : decode cX9_makes 32 = .ok (.invokevirtual 300, 3) := by decide +kernel
theorem dX9_makes_35 : decode cX9_makes 35 = .ok (.iinc 1 1, 3) := by decide +kernel
theorem dX9_makes_38 : decode cX9_makes 38 = .ok (.goto (-16), 3) := by decide +kernel
theorem dX9_makes_41 : decode cX9_makes 41 = .ok (.return_, 1) := by decide +kernel
theorem dX9_closesBy_0 : decode cX9_closesBy 0 = .ok (.iconst 0, 1) := by decide +kernel
theorem dX9_closesBy_1 : decode cX9_closesBy 1 = .ok (.istore_n 2, 1) := by decide +kernel
theorem dX9_closesBy_2 : decode cX9_closesBy 2 = .ok (.iload_n 2, 1) := by decide +kernel
theorem dX9_closesBy_3 : decode cX9_closesBy 3 = .ok (.aload_n 0, 1) := by decide +kernel
theorem dX9_closesBy_4 : decode cX9_closesBy 4 = .ok (.getfield 250, 3) := by decide +kernel
theorem dX9_closesBy_7 : decode cX9_closesBy 7 = .ok (.if_icmp .ge 16, 3) := by decide +kernel
theorem dX9_closesBy_10 : decode cX9_closesBy 10 = .ok (.aload_n 0, 1) := by decide +kernel
theorem dX9_closesBy_11 : decode cX9_closesBy 11 = .ok (.getfield 71, 3) := by decide +kernel
theorem dX9_closesBy_14 : decode cX9_closesBy 14 = .ok (.iload_n 2, 1) := by decide +kernel
theorem dX9_closesBy_15 : decode cX9_closesBy 15 = .ok (.iload_n 2, 1) := by decide +kernel
theorem dX9_closesBy_16 : decode cX9_closesBy 16 = .ok (.iastore, 1) := by decide +kernel
theorem dX9_closesBy_17 : decode cX9_closesBy 17 = .ok (.iinc 2 1, 3) := by decide +kernel
theorem dX9_closesBy_20 : decode cX9_closesBy 20 = .ok (.goto (-18), 3) := by decide +kernel
theorem dX9_closesBy_23 : decode cX9_closesBy 23 = .ok (.iconst 0, 1) := by decide +kernel
theorem dX9_closesBy_24 : decode cX9_closesBy 24 = .ok (.istore_n 2, 1) := by decide +kernel
theorem dX9_closesBy_25 : decode cX9_closesBy 25 = .ok (.iload_n 2, 1) := by decide +kernel
theorem dX9_closesBy_26 : decode cX9_closesBy 26 = .ok (.bipush 12, 2) := by decide +kernel
theorem dX9_closesBy_28 : decode cX9_closesBy 28 = .ok (.if_icmp .gt 38, 3) := by decide +kernel
theorem dX9_closesBy_31 : decode cX9_closesBy 31 = .ok (.iload_n 1, 1) := by decide +kernel
theorem dX9_closesBy_32 : decode cX9_closesBy 32 = .ok (.iload_n 2, 1) := by decide +kernel
theorem dX9_closesBy_33 : decode cX9_closesBy 33 = .ok (.ishr, 1) := by decide +kernel
theorem dX9_closesBy_34 : decode cX9_closesBy 34 = .ok (.iconst 1, 1) := by decide +kernel
theorem dX9_closesBy_35 : decode cX9_closesBy 35 = .ok (.iand, 1) := by decide +kernel
theorem dX9_closesBy_36 : decode cX9_closesBy 36 = .ok (.iconst 1, 1) := by decide +kernel
theorem dX9_closesBy_37 : decode cX9_closesBy 37 = .ok (.if_icmp .ne 23, 3) := by decide +kernel
theorem dX9_closesBy_40 : decode cX9_closesBy 40 = .ok (.aload_n 0, 1) := by decide +kernel
theorem dX9_closesBy_41 : decode cX9_closesBy 41 = .ok (.aload_n 0, 1) := by decide +kernel
theorem dX9_closesBy_42 : decode cX9_closesBy 42 = .ok (.getfield 71, 3) := by decide +kernel
theorem dX9_closesBy_45 : decode cX9_closesBy 45 = .ok (.aload_n 0, 1) := by decide +kernel
theorem dX9_closesBy_46 : decode cX9_closesBy 46 = .ok (.getfield 38, 3) := by decide +kernel
theorem dX9_closesBy_49 : decode cX9_closesBy 49 = .ok (.iload_n 2, 1) := by decide +kernel
theorem dX9_closesBy_50 : decode cX9_closesBy 50 = .ok (.iaload, 1) := by decide +kernel
theorem dX9_closesBy_51 : decode cX9_closesBy 51 = .ok (.aload_n 0, 1) := by decide +kernel
theorem dX9_closesBy_52 : decode cX9_closesBy 52 = .ok (.getfield 41, 3) := by decide +kernel
theorem dX9_closesBy_55 : decode cX9_closesBy 55 = .ok (.iload_n 2, 1) := by decide +kernel
theorem dX9_closesBy_56 : decode cX9_closesBy 56 = .ok (.iaload, 1) := by decide +kernel
theorem dX9_closesBy_57 : decode cX9_closesBy 57 = .ok (.invokevirtual 269, 3) := by decide +kernel
theorem dX9_closesBy_60 : decode cX9_closesBy 60 = .ok (.iinc 2 1, 3) := by decide +kernel
theorem dX9_closesBy_63 : decode cX9_closesBy 63 = .ok (.goto (-38), 3) := by decide +kernel
theorem dX9_closesBy_66 : decode cX9_closesBy 66 = .ok (.iconst 1, 1) := by decide +kernel
theorem dX9_closesBy_67 : decode cX9_closesBy 67 = .ok (.istore_n 2, 1) := by decide +kernel
theorem dX9_closesBy_68 : decode cX9_closesBy 68 = .ok (.iload_n 2, 1) := by decide +kernel
theorem dX9_closesBy_69 : decode cX9_closesBy 69 = .ok (.ifCond .eq 87, 3) := by decide +kernel
theorem dX9_closesBy_72 : decode cX9_closesBy 72 = .ok (.iconst 0, 1) := by decide +kernel
theorem dX9_closesBy_73 : decode cX9_closesBy 73 = .ok (.istore_n 2, 1) := by decide +kernel
theorem dX9_closesBy_74 : decode cX9_closesBy 74 = .ok (.iconst 0, 1) := by decide +kernel
theorem dX9_closesBy_75 : decode cX9_closesBy 75 = .ok (.istore_n 3, 1) := by decide +kernel
theorem dX9_closesBy_76 : decode cX9_closesBy 76 = .ok (.iload_n 3, 1) := by decide +kernel
theorem dX9_closesBy_77 : decode cX9_closesBy 77 = .ok (.aload_n 0, 1) := by decide +kernel
theorem dX9_closesBy_78 : decode cX9_closesBy 78 = .ok (.getfield 250, 3) := by decide +kernel
theorem dX9_closesBy_81 : decode cX9_closesBy 81 = .ok (.if_icmp .ge 72, 3) := by decide +kernel
theorem dX9_closesBy_84 : decode cX9_closesBy 84 = .ok (.iload_n 3, 1) := by decide +kernel
theorem dX9_closesBy_85 : decode cX9_closesBy 85 = .ok (.iconst 1, 1) := by decide +kernel
theorem dX9_closesBy_86 : decode cX9_closesBy 86 = .ok (.iadd, 1) := by decide +kernel
theorem dX9_closesBy_87 : decode cX9_closesBy 87 = .ok (.istore 4, 2) := by decide +kernel
theorem dX9_closesBy_89 : decode cX9_closesBy 89 = .ok (.iload 4, 2) := by decide +kernel
theorem dX9_closesBy_91 : decode cX9_closesBy 91 = .ok (.aload_n 0, 1) := by decide +kernel
theorem dX9_closesBy_92 : decode cX9_closesBy 92 = .ok (.getfield 250, 3) := by decide +kernel
theorem dX9_closesBy_95 : decode cX9_closesBy 95 = .ok (.if_icmp .ge 52, 3) := by decide +kernel
theorem dX9_closesBy_98 : decode cX9_closesBy 98 = .ok (.aload_n 0, 1) := by decide +kernel
theorem dX9_closesBy_99 : decode cX9_closesBy 99 = .ok (.getfield 71, 3) := by decide +kernel
theorem dX9_closesBy_102 : decode cX9_closesBy 102 = .ok (.iload_n 3, 1) := by decide +kernel
theorem dX9_closesBy_103 : decode cX9_closesBy 103 = .ok (.iaload, 1) := by decide +kernel
theorem dX9_closesBy_104 : decode cX9_closesBy 104 = .ok (.aload_n 0, 1) := by decide +kernel
theorem dX9_closesBy_105 : decode cX9_closesBy 105 = .ok (.getfield 71, 3) := by decide +kernel
theorem dX9_closesBy_108 : decode cX9_closesBy 108 = .ok (.iload 4, 2) := by decide +kernel
theorem dX9_closesBy_110 : decode cX9_closesBy 110 = .ok (.iaload, 1) := by decide +kernel
theorem dX9_closesBy_111 : decode cX9_closesBy 111 = .ok (.if_icmp .eq 30, 3) := by decide +kernel
theorem dX9_closesBy_114 : decode cX9_closesBy 114 = .ok (.aload_n 0, 1) := by decide +kernel
theorem dX9_closesBy_115 : decode cX9_closesBy 115 = .ok (.aload_n 0, 1) := by decide +kernel
theorem dX9_closesBy_116 : decode cX9_closesBy 116 = .ok (.getfield 71, 3) := by decide +kernel
theorem dX9_closesBy_119 : decode cX9_closesBy 119 = .ok (.iload_n 3, 1) := by decide +kernel
theorem dX9_closesBy_120 : decode cX9_closesBy 120 = .ok (.iload 4, 2) := by decide +kernel
theorem dX9_closesBy_122 : decode cX9_closesBy 122 = .ok (.invokevirtual 273, 3) := by decide +kernel
theorem dX9_closesBy_125 : decode cX9_closesBy 125 = .ok (.ifCond .eq 16, 3) := by decide +kernel
theorem dX9_closesBy_128 : decode cX9_closesBy 128 = .ok (.aload_n 0, 1) := by decide +kernel
theorem dX9_closesBy_129 : decode cX9_closesBy 129 = .ok (.aload_n 0, 1) := by decide +kernel
theorem dX9_closesBy_130 : decode cX9_closesBy 130 = .ok (.getfield 71, 3) := by decide +kernel
theorem dX9_closesBy_133 : decode cX9_closesBy 133 = .ok (.iload_n 3, 1) := by decide +kernel
theorem dX9_closesBy_134 : decode cX9_closesBy 134 = .ok (.iload 4, 2) := by decide +kernel
theorem dX9_closesBy_136 : decode cX9_closesBy 136 = .ok (.invokevirtual 269, 3) := by decide +kernel
theorem dX9_closesBy_139 : decode cX9_closesBy 139 = .ok (.iconst 1, 1) := by decide +kernel
theorem dX9_closesBy_140 : decode cX9_closesBy 140 = .ok (.istore_n 2, 1) := by decide +kernel
theorem dX9_closesBy_141 : decode cX9_closesBy 141 = .ok (.iinc 4 1, 3) := by decide +kernel
theorem dX9_closesBy_144 : decode cX9_closesBy 144 = .ok (.goto (-55), 3) := by decide +kernel
theorem dX9_closesBy_147 : decode cX9_closesBy 147 = .ok (.iinc 3 1, 3) := by decide +kernel
theorem dX9_closesBy_150 : decode cX9_closesBy 150 = .ok (.goto (-74), 3) := by decide +kernel
theorem dX9_closesBy_153 : decode cX9_closesBy 153 = .ok (.goto (-85), 3) := by decide +kernel
theorem dX9_closesBy_156 : decode cX9_closesBy 156 = .ok (.return_, 1) := by decide +kernel
theorem dX9_isOneBy_0 : decode cX9_isOneBy 0 = .ok (.aload_n 0, 1) := by decide +kernel
theorem dX9_isOneBy_1 : decode cX9_isOneBy 1 = .ok (.iload_n 1, 1) := by decide +kernel
theorem dX9_isOneBy_2 : decode cX9_isOneBy 2 = .ok (.invokevirtual 303, 3) := by decide +kernel
theorem dX9_isOneBy_5 : decode cX9_isOneBy 5 = .ok (.aload_n 0, 1) := by decide +kernel
theorem dX9_isOneBy_6 : decode cX9_isOneBy 6 = .ok (.getfield 71, 3) := by decide +kernel
theorem dX9_isOneBy_9 : decode cX9_isOneBy 9 = .ok (.iload_n 2, 1) := by decide +kernel
theorem dX9_isOneBy_10 : decode cX9_isOneBy 10 = .ok (.iaload, 1) := by decide +kernel
theorem dX9_isOneBy_11 : decode cX9_isOneBy 11 = .ok (.aload_n 0, 1) := by decide +kernel
theorem dX9_isOneBy_12 : decode cX9_isOneBy 12 = .ok (.getfield 71, 3) := by decide +kernel
theorem dX9_isOneBy_15 : decode cX9_isOneBy 15 = .ok (.iload_n 3, 1) := by decide +kernel
theorem dX9_isOneBy_16 : decode cX9_isOneBy 16 = .ok (.iaload, 1) := by decide +kernel
theorem dX9_isOneBy_17 : decode cX9_isOneBy 17 = .ok (.if_icmp .ne 7, 3) := by decide +kernel
theorem dX9_isOneBy_20 : decode cX9_isOneBy 20 = .ok (.iconst 1, 1) := by decide +kernel
theorem dX9_isOneBy_21 : decode cX9_isOneBy 21 = .ok (.goto 4, 3) := by decide +kernel
theorem dX9_isOneBy_24 : decode cX9_isOneBy 24 = .ok (.iconst 0, 1) := by decide +kernel
theorem dX9_isOneBy_25 : decode cX9_isOneBy 25 = .ok (.ireturn, 1) := by decide +kernel
theorem dX9_groupsIn_0 : decode cX9_groupsIn 0 = .ok (.iconst 0, 1) := by decide +kernel
theorem dX9_groupsIn_1 : decode cX9_groupsIn 1 = .ok (.istore_n 2, 1) := by decide +kernel
theorem dX9_groupsIn_2 : decode cX9_groupsIn 2 = .ok (.iconst 0, 1) := by decide +kernel
theorem dX9_groupsIn_3 : decode cX9_groupsIn 3 = .ok (.istore_n 3, 1) := by decide +kernel
theorem dX9_groupsIn_4 : decode cX9_groupsIn 4 = .ok (.iload_n 3, 1) := by decide +kernel
theorem dX9_groupsIn_5 : decode cX9_groupsIn 5 = .ok (.aload_n 0, 1) := by decide +kernel
theorem dX9_groupsIn_6 : decode cX9_groupsIn 6 = .ok (.getfield 250, 3) := by decide +kernel
theorem dX9_groupsIn_9 : decode cX9_groupsIn 9 = .ok (.if_icmp .ge 24, 3) := by decide +kernel
theorem dX9_groupsIn_12 : decode cX9_groupsIn 12 = .ok (.iload_n 2, 1) := by decide +kernel
theorem dX9_groupsIn_13 : decode cX9_groupsIn 13 = .ok (.aload_n 1, 1) := by decide +kernel
theorem dX9_groupsIn_14 : decode cX9_groupsIn 14 = .ok (.iload_n 3, 1) := by decide +kernel
theorem dX9_groupsIn_15 : decode cX9_groupsIn 15 = .ok (.iaload, 1) := by decide +kernel
theorem dX9_groupsIn_16 : decode cX9_groupsIn 16 = .ok (.iload_n 3, 1) := by decide +kernel
theorem dX9_groupsIn_17 : decode cX9_groupsIn 17 = .ok (.if_icmp .ne 7, 3) := by decide +kernel
theorem dX9_groupsIn_20 : decode cX9_groupsIn 20 = .ok (.iconst 1, 1) := by decide +kernel
theorem dX9_groupsIn_21 : decode cX9_groupsIn 21 = .ok (.goto 4, 3) := by decide +kernel
theorem dX9_groupsIn_24 : decode cX9_groupsIn 24 = .ok (.iconst 0, 1) := by decide +kernel
theorem dX9_groupsIn_25 : decode cX9_groupsIn 25 = .ok (.iadd, 1) := by decide +kernel
theorem dX9_groupsIn_26 : decode cX9_groupsIn 26 = .ok (.istore_n 2, 1) := by decide +kernel
theorem dX9_groupsIn_27 : decode cX9_groupsIn 27 = .ok (.iinc 3 1, 3) := by decide +kernel
theorem dX9_groupsIn_30 : decode cX9_groupsIn 30 = .ok (.goto (-26), 3) := by decide +kernel
theorem dX9_groupsIn_33 : decode cX9_groupsIn 33 = .ok (.iload_n 2, 1) := by decide +kernel
theorem dX9_groupsIn_34 : decode cX9_groupsIn 34 = .ok (.ireturn, 1) := by decide +kernel
theorem dX9_clashIn_0 : decode cX9_clashIn 0 = .ok (.iconst 0, 1) := by decide +kernel
theorem dX9_clashIn_1 : decode cX9_clashIn 1 = .ok (.istore_n 2, 1) := by decide +kernel
theorem dX9_clashIn_2 : decode cX9_clashIn 2 = .ok (.iload_n 2, 1) := by decide +kernel
theorem dX9_clashIn_3 : decode cX9_clashIn 3 = .ok (.aload_n 0, 1) := by decide +kernel
theorem dX9_clashIn_4 : decode cX9_clashIn 4 = .ok (.getfield 297, 3) := by decide +kernel
theorem dX9_clashIn_7 : decode cX9_clashIn 7 = .ok (.if_icmp .ge 30, 3) := by decide +kernel
theorem dX9_clashIn_10 : decode cX9_clashIn 10 = .ok (.aload_n 1, 1) := by decide +kernel
theorem dX9_clashIn_11 : decode cX9_clashIn 11 = .ok (.aload_n 0, 1) := by decide +kernel
theorem dX9_clashIn_12 : decode cX9_clashIn 12 = .ok (.getfield 44, 3) := by decide +kernel
theorem dX9_clashIn_15 : decode cX9_clashIn 15 = .ok (.iload_n 2, 1) := by decide +kernel
theorem dX9_clashIn_16 : decode cX9_clashIn 16 = .ok (.iaload, 1) := by decide +kernel
theorem dX9_clashIn_17 : decode cX9_clashIn 17 = .ok (.iaload, 1) := by decide +kernel
theorem dX9_clashIn_18 : decode cX9_clashIn 18 = .ok (.aload_n 1, 1) := by decide +kernel
theorem dX9_clashIn_19 : decode cX9_clashIn 19 = .ok (.aload_n 0, 1) := by decide +kernel
theorem dX9_clashIn_20 : decode cX9_clashIn 20 = .ok (.getfield 47, 3) := by decide +kernel
theorem dX9_clashIn_23 : decode cX9_clashIn 23 = .ok (.iload_n 2, 1) := by decide +kernel
theorem dX9_clashIn_24 : decode cX9_clashIn 24 = .ok (.iaload, 1) := by decide +kernel
theorem dX9_clashIn_25 : decode cX9_clashIn 25 = .ok (.iaload, 1) := by decide +kernel
theorem dX9_clashIn_26 : decode cX9_clashIn 26 = .ok (.if_icmp .ne 5, 3) := by decide +kernel
theorem dX9_clashIn_29 : decode cX9_clashIn 29 = .ok (.iload_n 2, 1) := by decide +kernel
theorem dX9_clashIn_30 : decode cX9_clashIn 30 = .ok (.ireturn, 1) := by decide +kernel
theorem dX9_clashIn_31 : decode cX9_clashIn 31 = .ok (.iinc 2 1, 3) := by decide +kernel
theorem dX9_clashIn_34 : decode cX9_clashIn 34 = .ok (.goto (-32), 3) := by decide +kernel
theorem dX9_clashIn_37 : decode cX9_clashIn 37 = .ok (.bipush (-2), 2) := by decide +kernel
theorem dX9_clashIn_39 : decode cX9_clashIn 39 = .ok (.ireturn, 1) := by decide +kernel
theorem dX9_allSames_0 : decode cX9_allSames 0 = .ok (.iconst 1, 1) := by decide +kernel
theorem dX9_allSames_1 : decode cX9_allSames 1 = .ok (.aload_n 0, 1) := by decide +kernel
theorem dX9_allSames_2 : decode cX9_allSames 2 = .ok (.getfield 287, 3) := by decide +kernel
theorem dX9_allSames_5 : decode cX9_allSames 5 = .ok (.ishl, 1) := by decide +kernel
theorem dX9_allSames_6 : decode cX9_allSames 6 = .ok (.iconst 1, 1) := by decide +kernel
theorem dX9_allSames_7 : decode cX9_allSames 7 = .ok (.isub, 1) := by decide +kernel
theorem dX9_allSames_8 : decode cX9_allSames 8 = .ok (.ireturn, 1) := by decide +kernel
theorem dX9_isTerm_0 : decode cX9_isTerm 0 = .ok (.iload_n 1, 1) := by decide +kernel
theorem dX9_isTerm_1 : decode cX9_isTerm 1 = .ok (.iconst 0, 1) := by decide +kernel
theorem dX9_isTerm_2 : decode cX9_isTerm 2 = .ok (.aload_n 0, 1) := by decide +kernel
theorem dX9_isTerm_3 : decode cX9_isTerm 3 = .ok (.getfield 250, 3) := by decide +kernel
theorem dX9_isTerm_6 : decode cX9_isTerm 6 = .ok (.iconst 1, 1) := by decide +kernel
theorem dX9_isTerm_7 : decode cX9_isTerm 7 = .ok (.isub, 1) := by decide +kernel
theorem dX9_isTerm_8 : decode cX9_isTerm 8 = .ok (.invokestatic 132, 3) := by decide +kernel
theorem dX9_isTerm_11 : decode cX9_isTerm 11 = .ok (.ireturn, 1) := by decide +kernel
theorem dX9_about_0 : decode cX9_about 0 = .ok (.aload_n 0, 1) := by decide +kernel
theorem dX9_about_1 : decode cX9_about 1 = .ok (.iload_n 1, 1) := by decide +kernel
theorem dX9_about_2 : decode cX9_about 2 = .ok (.iconst 0, 1) := by decide +kernel
theorem dX9_about_3 : decode cX9_about 3 = .ok (.bipush 7, 2) := by decide +kernel
theorem dX9_about_5 : decode cX9_about 5 = .ok (.invokestatic 132, 3) := by decide +kernel
theorem dX9_about_8 : decode cX9_about 8 = .ok (.invokestatic 306, 3) := by decide +kernel
theorem dX9_about_11 : decode cX9_about 11 = .ok (.invokevirtual 223, 3) := by decide +kernel
theorem dX9_about_14 : decode cX9_about 14 = .ok (.ifCond .eq 5, 3) := by decide +kernel
theorem dX9_about_17 : decode cX9_about 17 = .ok (.iconst (-1), 1) := by decide +kernel
theorem dX9_about_18 : decode cX9_about 18 = .ok (.ireturn, 1) := by decide +kernel
theorem dX9_about_19 : decode cX9_about 19 = .ok (.iload_n 1, 1) := by decide +kernel
theorem dX9_about_20 : decode cX9_about 20 = .ok (.tableswitch 88 0 6 #[44, 49, 54, 59, 64, 73, 83], 44) := by decide +kernel
theorem dX9_about_64 : decode cX9_about 64 = .ok (.aload_n 0, 1) := by decide +kernel
theorem dX9_about_65 : decode cX9_about 65 = .ok (.getfield 235, 3) := by decide +kernel
theorem dX9_about_68 : decode cX9_about 68 = .ok (.ireturn, 1) := by decide +kernel
theorem dX9_about_69 : decode cX9_about 69 = .ok (.aload_n 0, 1) := by decide +kernel
theorem dX9_about_70 : decode cX9_about 70 = .ok (.getfield 250, 3) := by decide +kernel
theorem dX9_about_73 : decode cX9_about 73 = .ok (.ireturn, 1) := by decide +kernel
theorem dX9_about_74 : decode cX9_about 74 = .ok (.aload_n 0, 1) := by decide +kernel
theorem dX9_about_75 : decode cX9_about 75 = .ok (.getfield 287, 3) := by decide +kernel
theorem dX9_about_78 : decode cX9_about 78 = .ok (.ireturn, 1) := by decide +kernel
theorem dX9_about_79 : decode cX9_about 79 = .ok (.aload_n 0, 1) := by decide +kernel
theorem dX9_about_80 : decode cX9_about 80 = .ok (.getfield 297, 3) := by decide +kernel
theorem dX9_about_83 : decode cX9_about 83 = .ok (.ireturn, 1) := by decide +kernel
theorem dX9_about_84 : decode cX9_about 84 = .ok (.aload_n 0, 1) := by decide +kernel
theorem dX9_about_85 : decode cX9_about 85 = .ok (.aload_n 0, 1) := by decide +kernel
theorem dX9_about_86 : decode cX9_about 86 = .ok (.getfield 50, 3) := by decide +kernel
theorem dX9_about_89 : decode cX9_about 89 = .ok (.invokevirtual 310, 3) := by decide +kernel
theorem dX9_about_92 : decode cX9_about 92 = .ok (.ireturn, 1) := by decide +kernel
theorem dX9_about_93 : decode cX9_about 93 = .ok (.aload_n 0, 1) := by decide +kernel
theorem dX9_about_94 : decode cX9_about 94 = .ok (.getfield 238, 3) := by decide +kernel
theorem dX9_about_97 : decode cX9_about 97 = .ok (.aload_n 0, 1) := by decide +kernel
theorem dX9_about_98 : decode cX9_about 98 = .ok (.getfield 241, 3) := by decide +kernel
theorem dX9_about_101 : decode cX9_about 101 = .ok (.isub, 1) := by decide +kernel
theorem dX9_about_102 : decode cX9_about 102 = .ok (.ireturn, 1) := by decide +kernel
theorem dX9_about_103 : decode cX9_about 103 = .ok (.aload_n 0, 1) := by decide +kernel
theorem dX9_about_104 : decode cX9_about 104 = .ok (.getfield 259, 3) := by decide +kernel
theorem dX9_about_107 : decode cX9_about 107 = .ok (.ireturn, 1) := by decide +kernel
theorem dX9_about_108 : decode cX9_about 108 = .ok (.aload_n 0, 1) := by decide +kernel
theorem dX9_about_109 : decode cX9_about 109 = .ok (.aload_n 0, 1) := by decide +kernel
theorem dX9_about_110 : decode cX9_about 110 = .ok (.getfield 50, 3) := by decide +kernel
theorem dX9_about_113 : decode cX9_about 113 = .ok (.invokevirtual 314, 3) := by decide +kernel
theorem dX9_about_116 : decode cX9_about 116 = .ok (.ireturn, 1) := by decide +kernel
theorem dX9_function_0 : decode cX9_function 0 = .ok (.aload_n 0, 1) := by decide +kernel
theorem dX9_function_1 : decode cX9_function 1 = .ok (.iload_n 1, 1) := by decide +kernel
theorem dX9_function_2 : decode cX9_function 2 = .ok (.iconst 0, 1) := by decide +kernel
theorem dX9_function_3 : decode cX9_function 3 = .ok (.aload_n 0, 1) := by decide +kernel
theorem dX9_function_4 : decode cX9_function 4 = .ok (.getfield 235, 3) := by decide +kernel
theorem dX9_function_7 : decode cX9_function 7 = .ok (.iconst 1, 1) := by decide +kernel
theorem dX9_function_8 : decode cX9_function 8 = .ok (.isub, 1) := by decide +kernel
theorem dX9_function_9 : decode cX9_function 9 = .ok (.invokestatic 132, 3) := by decide +kernel
theorem dX9_function_12 : decode cX9_function 12 = .ok (.ifCond .eq 16, 3) := by decide +kernel
theorem dX9_function_15 : decode cX9_function 15 = .ok (.iload_n 2, 1) := by decide +kernel
theorem dX9_function_16 : decode cX9_function 16 = .ok (.iconst 0, 1) := by decide +kernel
theorem dX9_function_17 : decode cX9_function 17 = .ok (.iconst 2, 1) := by decide +kernel
theorem dX9_function_18 : decode cX9_function 18 = .ok (.invokestatic 132, 3) := by decide +kernel
theorem dX9_function_21 : decode cX9_function 21 = .ok (.ifCond .eq 7, 3) := by decide +kernel
theorem dX9_function_24 : decode cX9_function 24 = .ok (.iconst 1, 1) := by decide +kernel
theorem dX9_function_25 : decode cX9_function 25 = .ok (.goto 4, 3) := by decide +kernel
theorem dX9_function_28 : decode cX9_function 28 = .ok (.iconst 0, 1) := by decide +kernel
theorem dX9_function_29 : decode cX9_function 29 = .ok (.invokestatic 306, 3) := by decide +kernel
theorem dX9_function_32 : decode cX9_function 32 = .ok (.invokevirtual 223, 3) := by decide +kernel
theorem dX9_function_35 : decode cX9_function 35 = .ok (.ifCond .eq 5, 3) := by decide +kernel
theorem dX9_function_38 : decode cX9_function 38 = .ok (.iconst (-1), 1) := by decide +kernel
theorem dX9_function_39 : decode cX9_function 39 = .ok (.ireturn, 1) := by decide +kernel
theorem dX9_function_40 : decode cX9_function 40 = .ok (.iconst 0, 1) := by decide +kernel
theorem dX9_function_41 : decode cX9_function 41 = .ok (.istore_n 3, 1) := by decide +kernel
theorem dX9_function_42 : decode cX9_function 42 = .ok (.iconst 0, 1) := by decide +kernel
theorem dX9_function_43 : decode cX9_function 43 = .ok (.istore 4, 2) := by decide +kernel
theorem dX9_function_45 : decode cX9_function 45 = .ok (.iconst 0, 1) := by decide +kernel
theorem dX9_function_46 : decode cX9_function 46 = .ok (.istore 5, 2) := by decide +kernel
theorem dX9_function_48 : decode cX9_function 48 = .ok (.iconst 0, 1) := by decide +kernel
theorem dX9_function_49 : decode cX9_function 49 = .ok (.istore 6, 2) := by decide +kernel
theorem dX9_function_51 : decode cX9_function 51 = .ok (.iload 6, 2) := by decide +kernel
theorem dX9_function_53 : decode cX9_function 53 = .ok (.aload_n 0, 1) := by decide +kernel
theorem dX9_function_54 : decode cX9_function 54 = .ok (.getfield 250, 3) := by decide +kernel
theorem dX9_function_57 : decode cX9_function 57 = .ok (.if_icmp .ge 62, 3) := by decide +kernel
theorem dX9_function_60 : decode cX9_function 60 = .ok (.aload_n 0, 1) := by decide +kernel
theorem dX9_function_61 : decode cX9_function 61 = .ok (.getfield 32, 3) := by decide +kernel
theorem dX9_function_64 : decode cX9_function 64 = .ok (.iload 6, 2) := by decide +kernel
theorem dX9_function_66 : decode cX9_function 66 = .ok (.iaload, 1) := by decide +kernel
theorem dX9_function_67 : decode cX9_function 67 = .ok (.iload_n 1, 1) := by decide +kernel
theorem dX9_function_68 : decode cX9_function 68 = .ok (.if_icmp .ne 45, 3) := by decide +kernel
theorem dX9_function_71 : decode cX9_function 71 = .ok (.iinc 3 1, 3) := by decide +kernel
theorem dX9_function_74 : decode cX9_function 74 = .ok (.iload 4, 2) := by decide +kernel
theorem dX9_function_76 : decode cX9_function 76 = .ok (.iload 5, 2) := by decide +kernel
theorem dX9_function_78 : decode cX9_function 78 = .ok (.aload_n 0, 1) := by decide +kernel
theorem dX9_function_79 : decode cX9_function 79 = .ok (.getfield 50, 3) := by decide +kernel
theorem dX9_function_82 : decode cX9_function 82 = .ok (.iload 6, 2) := by decide +kernel
theorem dX9_function_84 : decode cX9_function 84 = .ok (.iaload, 1) := by decide +kernel
theorem dX9_function_85 : decode cX9_function 85 = .ok (.ishr, 1) := by decide +kernel
theorem dX9_function_86 : decode cX9_function 86 = .ok (.iconst 1, 1) := by decide +kernel
theorem dX9_function_87 : decode cX9_function 87 = .ok (.iand, 1) := by decide +kernel
theorem dX9_function_88 : decode cX9_function 88 = .ok (.ifCond .ne 7, 3) := by decide +kernel
theorem dX9_function_91 : decode cX9_function 91 = .ok (.iconst 1, 1) := by decide +kernel
theorem dX9_function_92 : decode cX9_function 92 = .ok (.goto 4, 3) := by decide +kernel
theorem dX9_function_95 : decode cX9_function 95 = .ok (.iconst 0, 1) := by decide +kernel
theorem dX9_function_96 : decode cX9_function 96 = .ok (.iadd, 1) := by decide +kernel
theorem dX9_function_97 : decode cX9_function 97 = .ok (.istore 4, 2) := by decide +kernel
theorem dX9_function_99 : decode cX9_function 99 = .ok (.iload 5, 2) := by decide +kernel
theorem dX9_function_101 : decode cX9_function 101 = .ok (.iconst 1, 1) := by decide +kernel
theorem dX9_function_102 : decode cX9_function 102 = .ok (.aload_n 0, 1) := by decide +kernel
theorem dX9_function_103 : decode cX9_function 103 = .ok (.getfield 50, 3) := by decide +kernel
theorem dX9_function_106 : decode cX9_function 106 = .ok (.iload 6, 2) := by decide +kernel
theorem dX9_function_108 : decode cX9_function 108 = .ok (.iaload, 1) := by decide +kernel
theorem dX9_function_109 : decode cX9_function 109 = .ok (.ishl, 1) := by decide +kernel
theorem dX9_function_110 : decode cX9_function 110 = .ok (.ior, 1) := by decide +kernel
theorem dX9_function_111 : decode cX9_function 111 = .ok (.istore 5, 2) := by decide +kernel
theorem dX9_function_113 : decode cX9_function 113 = .ok (.iinc 6 1, 3) := by decide +kernel
theorem dX9_function_116 : decode cX9_function 116 = .ok (.goto (-65), 3) := by decide +kernel
theorem dX9_function_119 : decode cX9_function 119 = .ok (.iload_n 2, 1) := by decide +kernel
theorem dX9_function_120 : decode cX9_function 120 = .ok (.ifCond .ne 12, 3) := by decide +kernel
theorem dX9_function_123 : decode cX9_function 123 = .ok (.aload_n 0, 1) := by decide +kernel
theorem dX9_function_124 : decode cX9_function 124 = .ok (.getfield 17, 3) := by decide +kernel
theorem dX9_function_127 : decode cX9_function 127 = .ok (.iload_n 1, 1) := by decide +kernel
theorem dX9_function_128 : decode cX9_function 128 = .ok (.iaload, 1) := by decide +kernel
theorem dX9_function_129 : decode cX9_function 129 = .ok (.goto 14, 3) := by decide +kernel
theorem dX9_function_132 : decode cX9_function 132 = .ok (.iload_n 2, 1) := by decide +kernel
theorem dX9_function_133 : decode cX9_function 133 = .ok (.iconst 1, 1) := by decide +kernel
theorem dX9_function_134 : decode cX9_function 134 = .ok (.if_icmp .ne 7, 3) := by decide +kernel
theorem dX9_function_137 : decode cX9_function 137 = .ok (.iload_n 3, 1) := by decide +kernel
theorem dX9_function_138 : decode cX9_function 138 = .ok (.goto 5, 3) := by decide +kernel
theorem dX9_function_141 : decode cX9_function 141 = .ok (.iload 4, 2) := by decide +kernel
theorem dX9_function_143 : decode cX9_function 143 = .ok (.ireturn, 1) := by decide +kernel
theorem dX9_groupMany_0 : decode cX9_groupMany 0 = .ok (.iconst 0, 1) := by decide +kernel
theorem dX9_groupMany_1 : decode cX9_groupMany 1 = .ok (.istore_n 2, 1) := by decide +kernel
theorem dX9_groupMany_2 : decode cX9_groupMany 2 = .ok (.iconst 0, 1) := by decide +kernel
theorem dX9_groupMany_3 : decode cX9_groupMany 3 = .ok (.istore_n 3, 1) := by decide +kernel
theorem dX9_groupMany_4 : decode cX9_groupMany 4 = .ok (.iload_n 3, 1) := by decide +kernel
theorem dX9_groupMany_5 : decode cX9_groupMany 5 = .ok (.aload_n 0, 1) := by decide +kernel
theorem dX9_groupMany_6 : decode cX9_groupMany 6 = .ok (.getfield 250, 3) := by decide +kernel
theorem dX9_groupMany_9 : decode cX9_groupMany 9 = .ok (.if_icmp .ge 32, 3) := by decide +kernel
theorem dX9_groupMany_12 : decode cX9_groupMany 12 = .ok (.iload_n 2, 1) := by decide +kernel
theorem dX9_groupMany_13 : decode cX9_groupMany 13 = .ok (.aload_n 0, 1) := by decide +kernel
theorem dX9_groupMany_14 : decode cX9_groupMany 14 = .ok (.getfield 50, 3) := by decide +kernel
theorem dX9_groupMany_17 : decode cX9_groupMany 17 = .ok (.iload_n 3, 1) := by decide +kernel
theorem dX9_groupMany_18 : decode cX9_groupMany 18 = .ok (.iaload, 1) := by decide +kernel
theorem dX9_groupMany_19 : decode cX9_groupMany 19 = .ok (.aload_n 0, 1) := by decide +kernel
theorem dX9_groupMany_20 : decode cX9_groupMany 20 = .ok (.getfield 50, 3) := by decide +kernel
theorem dX9_groupMany_23 : decode cX9_groupMany 23 = .ok (.iload_n 1, 1) := by decide +kernel
theorem dX9_groupMany_24 : decode cX9_groupMany 24 = .ok (.iaload, 1) := by decide +kernel
theorem dX9_groupMany_25 : decode cX9_groupMany 25 = .ok (.if_icmp .ne 7, 3) := by decide +kernel
theorem dX9_groupMany_28 : decode cX9_groupMany 28 = .ok (.iconst 1, 1) := by decide +kernel
theorem dX9_groupMany_29 : decode cX9_groupMany 29 = .ok (.goto 4, 3) := by decide +kernel
theorem dX9_groupMany_32 : decode cX9_groupMany 32 = .ok (.iconst 0, 1) := by decide +kernel
theorem dX9_groupMany_33 : decode cX9_groupMany 33 = .ok (.iadd, 1) := by decide +kernel
theorem dX9_groupMany_34 : decode cX9_groupMany 34 = .ok (.istore_n 2, 1) := by decide +kernel
theorem dX9_groupMany_35 : decode cX9_groupMany 35 = .ok (.iinc 3 1, 3) := by decide +kernel
theorem dX9_groupMany_38 : decode cX9_groupMany 38 = .ok (.goto (-34), 3) := by decide +kernel
theorem dX9_groupMany_41 : decode cX9_groupMany 41 = .ok (.iload_n 2, 1) := by decide +kernel
theorem dX9_groupMany_42 : decode cX9_groupMany 42 = .ok (.ireturn, 1) := by decide +kernel
theorem dX9_usersOf_0 : decode cX9_usersOf 0 = .ok (.iconst 0, 1) := by decide +kernel
theorem dX9_usersOf_1 : decode cX9_usersOf 1 = .ok (.istore_n 2, 1) := by decide +kernel
theorem dX9_usersOf_2 : decode cX9_usersOf 2 = .ok (.iconst 0, 1) := by decide +kernel
theorem dX9_usersOf_3 : decode cX9_usersOf 3 = .ok (.istore_n 3, 1) := by decide +kernel
theorem dX9_usersOf_4 : decode cX9_usersOf 4 = .ok (.iload_n 3, 1) := by decide +kernel
theorem dX9_usersOf_5 : decode cX9_usersOf 5 = .ok (.aload_n 0, 1) := by decide +kernel
theorem dX9_usersOf_6 : decode cX9_usersOf 6 = .ok (.getfield 250, 3) := by decide +kernel
theorem dX9_usersOf_9 : decode cX9_usersOf 9 = .ok (.if_icmp .ge 81, 3) := by decide +kernel
theorem dX9_usersOf_12 : decode cX9_usersOf 12 = .ok (.iconst 0, 1) := by decide +kernel
theorem dX9_usersOf_13 : decode cX9_usersOf 13 = .ok (.istore 4, 2) := by decide +kernel
theorem dX9_usersOf_15 : decode cX9_usersOf 15 = .ok (.iconst 0, 1) := by decide +kernel
theorem dX9_usersOf_16 : decode cX9_usersOf 16 = .ok (.istore 5, 2) := by decide +kernel
theorem dX9_usersOf_18 : decode cX9_usersOf 18 = .ok (.iload 5, 2) := by decide +kernel
theorem dX9_usersOf_20 : decode cX9_usersOf 20 = .ok (.aload_n 0, 1) := by decide +kernel
theorem dX9_usersOf_21 : decode cX9_usersOf 21 = .ok (.iload_n 3, 1) := by decide +kernel
theorem dX9_usersOf_22 : decode cX9_usersOf 22 = .ok (.invokevirtual 253, 3) := by decide +kernel
theorem dX9_usersOf_25 : decode cX9_usersOf 25 = .ok (.if_icmp .ge 46, 3) := by decide +kernel
theorem dX9_usersOf_28 : decode cX9_usersOf 28 = .ok (.iload 4, 2) := by decide +kernel
theorem dX9_usersOf_30 : decode cX9_usersOf 30 = .ok (.ifCond .ne 28, 3) := by decide +kernel
theorem dX9_usersOf_33 : decode cX9_usersOf 33 = .ok (.aload_n 0, 1) := by decide +kernel
theorem dX9_usersOf_34 : decode cX9_usersOf 34 = .ok (.getfield 50, 3) := by decide +kernel
theorem dX9_usersOf_37 : decode cX9_usersOf 37 = .ok (.aload_n 0, 1) := by decide +kernel
theorem dX9_usersOf_38 : decode cX9_usersOf 38 = .ok (.getfield 35, 3) := by decide +kernel
theorem dX9_usersOf_41 : decode cX9_usersOf 41 = .ok (.iconst 3, 1) := by decide +kernel
theorem dX9_usersOf_42 : decode cX9_usersOf 42 = .ok (.iload_n 3, 1) := by decide +kernel
theorem dX9_usersOf_43 : decode cX9_usersOf 43 = .ok (.imul, 1) := by decide +kernel
theorem dX9_usersOf_44 : decode cX9_usersOf 44 = .ok (.iload 5, 2) := by decide +kernel
theorem dX9_usersOf_46 : decode cX9_usersOf 46 = .ok (.iadd, 1) := by decide +kernel
theorem dX9_usersOf_47 : decode cX9_usersOf 47 = .ok (.iaload, 1) := by decide +kernel
theorem dX9_usersOf_48 : decode cX9_usersOf 48 = .ok (.iaload, 1) := by decide +kernel
theorem dX9_usersOf_49 : decode cX9_usersOf 49 = .ok (.aload_n 0, 1) := by decide +kernel
theorem dX9_usersOf_50 : decode cX9_usersOf 50 = .ok (.getfield 50, 3) := by decide +kernel
theorem dX9_usersOf_53 : decode cX9_usersOf 53 = .ok (.iload_n 1, 1) := by decide +kernel
theorem dX9_usersOf_54 : decode cX9_usersOf 54 = .ok (.iaload, 1) := by decide +kernel
theorem dX9_usersOf_55 : decode cX9_usersOf 55 = .ok (.if_icmp .ne 7, 3) := by decide +kernel
theorem dX9_usersOf_58 : decode cX9_usersOf 58 = .ok (.iconst 1, 1) := by decide +kernel
theorem dX9_usersOf_59 : decode cX9_usersOf 59 = .ok (.goto 4, 3) := by decide +kernel
theorem dX9_usersOf_62 : decode cX9_usersOf 62 = .ok (.iconst 0, 1) := by decide +kernel
theorem dX9_usersOf_63 : decode cX9_usersOf 63 = .ok (.istore 4, 2) := by decide +kernel
theorem dX9_usersOf_65 : decode cX9_usersOf 65 = .ok (.iinc 5 1, 3) := by decide +kernel
theorem dX9_usersOf_68 : decode cX9_usersOf 68 = .ok (.goto (-50), 3) := by decide +kernel
theorem dX9_usersOf_71 : decode cX9_usersOf 71 = .ok (.iload_n 2, 1) := by decide +kernel
theorem dX9_usersOf_72 : decode cX9_usersOf 72 = .ok (.iload 4, 2) := by decide +kernel
theorem dX9_usersOf_74 : decode cX9_usersOf 74 = .ok (.ifCond .eq 7, 3) := by decide +kernel
theorem dX9_usersOf_77 : decode cX9_usersOf 77 = .ok (.iconst 1, 1) := by decide +kernel
theorem dX9_usersOf_78 : decode cX9_usersOf 78 = .ok (.goto 4, 3) := by decide +kernel
theorem dX9_usersOf_81 : decode cX9_usersOf 81 = .ok (.iconst 0, 1) := by decide +kernel
theorem dX9_usersOf_82 : decode cX9_usersOf 82 = .ok (.iadd, 1) := by decide +kernel
theorem dX9_usersOf_83 : decode cX9_usersOf 83 = .ok (.istore_n 2, 1) := by decide +kernel
theorem dX9_usersOf_84 : decode cX9_usersOf 84 = .ok (.iinc 3 1, 3) := by decide +kernel
theorem dX9_usersOf_87 : decode cX9_usersOf 87 = .ok (.goto (-83), 3) := by decide +kernel
theorem dX9_usersOf_90 : decode cX9_usersOf 90 = .ok (.iload_n 2, 1) := by decide +kernel
theorem dX9_usersOf_91 : decode cX9_usersOf 91 = .ok (.ireturn, 1) := by decide +kernel
theorem dX9_deepOf_0 : decode cX9_deepOf 0 = .ok (.iconst 0, 1) := by decide +kernel
theorem dX9_deepOf_1 : decode cX9_deepOf 1 = .ok (.istore_n 2, 1) := by decide +kernel
theorem dX9_deepOf_2 : decode cX9_deepOf 2 = .ok (.iload_n 2, 1) := by decide +kernel
theorem dX9_deepOf_3 : decode cX9_deepOf 3 = .ok (.iload_n 1, 1) := by decide +kernel
theorem dX9_deepOf_4 : decode cX9_deepOf 4 = .ok (.if_icmp .gt 80, 3) := by decide +kernel
theorem dX9_deepOf_7 : decode cX9_deepOf 7 = .ok (.aload_n 0, 1) := by decide +kernel
theorem dX9_deepOf_8 : decode cX9_deepOf 8 = .ok (.getfield 74, 3) := by decide +kernel
theorem dX9_deepOf_11 : decode cX9_deepOf 11 = .ok (.iload_n 2, 1) := by decide +kernel
theorem dX9_deepOf_12 : decode cX9_deepOf 12 = .ok (.iconst 0, 1) := by decide +kernel
theorem dX9_deepOf_13 : decode cX9_deepOf 13 = .ok (.iastore, 1) := by decide +kernel
theorem dX9_deepOf_14 : decode cX9_deepOf 14 = .ok (.iconst 0, 1) := by decide +kernel
theorem dX9_deepOf_15 : decode cX9_deepOf 15 = .ok (.istore_n 3, 1) := by decide +kernel
theorem dX9_deepOf_16 : decode cX9_deepOf 16 = .ok (.iload_n 3, 1) := by decide +kernel
theorem dX9_deepOf_17 : decode cX9_deepOf 17 = .ok (.aload_n 0, 1) := by decide +kernel
theorem dX9_deepOf_18 : decode cX9_deepOf 18 = .ok (.iload_n 2, 1) := by decide +kernel
theorem dX9_deepOf_19 : decode cX9_deepOf 19 = .ok (.invokevirtual 253, 3) := by decide +kernel
theorem dX9_deepOf_22 : decode cX9_deepOf 22 = .ok (.if_icmp .ge 56, 3) := by decide +kernel
theorem dX9_deepOf_25 : decode cX9_deepOf 25 = .ok (.aload_n 0, 1) := by decide +kernel
theorem dX9_deepOf_26 : decode cX9_deepOf 26 = .ok (.getfield 74, 3) := by decide +kernel
theorem dX9_deepOf_29 : decode cX9_deepOf 29 = .ok (.aload_n 0, 1) := by decide +kernel
theorem dX9_deepOf_30 : decode cX9_deepOf 30 = .ok (.getfield 35, 3) := by decide +kernel
theorem dX9_deepOf_33 : decode cX9_deepOf 33 = .ok (.iconst 3, 1) := by decide +kernel
theorem dX9_deepOf_34 : decode cX9_deepOf 34 = .ok (.iload_n 2, 1) := by decide +kernel
theorem dX9_deepOf_35 : decode cX9_deepOf 35 = .ok (.imul, 1) := by decide +kernel
theorem dX9_deepOf_36 : decode cX9_deepOf 36 = .ok (.iload_n 3, 1) := by decide +kernel
theorem dX9_deepOf_37 : decode cX9_deepOf 37 = .ok (.iadd, 1) := by decide +kernel
theorem dX9_deepOf_38 : decode cX9_deepOf 38 = .ok (.iaload, 1) := by decide +kernel
theorem dX9_deepOf_39 : decode cX9_deepOf 39 = .ok (.iaload, 1) := by decide +kernel
theorem dX9_deepOf_40 : decode cX9_deepOf 40 = .ok (.iconst 1, 1) := by decide +kernel
theorem dX9_deepOf_41 : decode cX9_deepOf 41 = .ok (.iadd, 1) := by decide +kernel
theorem dX9_deepOf_42 : decode cX9_deepOf 42 = .ok (.istore 4, 2) := by decide +kernel
theorem dX9_deepOf_44 : decode cX9_deepOf 44 = .ok (.aload_n 0, 1) := by decide +kernel
theorem dX9_deepOf_45 : decode cX9_deepOf 45 = .ok (.getfield 74, 3) := by decide +kernel
theorem dX9_deepOf_48 : decode cX9_deepOf 48 = .ok (.iload_n 2, 1) := by decide +kernel
theorem dX9_deepOf_49 : decode cX9_deepOf 49 = .ok (.iload 4, 2) := by decide +kernel
theorem dX9_deepOf_51 : decode cX9_deepOf 51 = .ok (.aload_n 0, 1) := by decide +kernel
theorem dX9_deepOf_52 : decode cX9_deepOf 52 = .ok (.getfield 74, 3) := by decide +kernel
theorem dX9_deepOf_55 : decode cX9_deepOf 55 = .ok (.iload_n 2, 1) := by decide +kernel
theorem dX9_deepOf_56 : decode cX9_deepOf 56 = .ok (.iaload, 1) := by decide +kernel
theorem dX9_deepOf_57 : decode cX9_deepOf 57 = .ok (.if_icmp .le 8, 3) := by decide +kernel
theorem dX9_deepOf_60 : decode cX9_deepOf 60 = .ok (.iload 4, 2) := by decide +kernel
theorem dX9_deepOf_62 : decode cX9_deepOf 62 = .ok (.goto 9, 3) := by decide +kernel
theorem dX9_deepOf_65 : decode cX9_deepOf 65 = .ok (.aload_n 0, 1) := by decide +kernel
theorem dX9_deepOf_66 : decode cX9_deepOf 66 = .ok (.getfield 74, 3) := by decide +kernel
theorem dX9_deepOf_69 : decode cX9_deepOf 69 = .ok (.iload_n 2, 1) := by decide +kernel
theorem dX9_deepOf_70 : decode cX9_deepOf 70 = .ok (.iaload, 1) := by decide +kernel
theorem dX9_deepOf_71 : decode cX9_deepOf 71 = .ok (.iastore, 1) := by decide +kernel
theorem dX9_deepOf_72 : decode cX9_deepOf 72 = .ok (.iinc 3 1, 3) := by decide +kernel
theorem dX9_deepOf_75 : decode cX9_deepOf 75 = .ok (.goto (-59), 3) := by decide +kernel
theorem dX9_deepOf_78 : decode cX9_deepOf 78 = .ok (.iinc 2 1, 3) := by decide +kernel
theorem dX9_deepOf_81 : decode cX9_deepOf 81 = .ok (.goto (-79), 3) := by decide +kernel
theorem dX9_deepOf_84 : decode cX9_deepOf 84 = .ok (.aload_n 0, 1) := by decide +kernel
theorem dX9_deepOf_85 : decode cX9_deepOf 85 = .ok (.getfield 74, 3) := by decide +kernel
theorem dX9_deepOf_88 : decode cX9_deepOf 88 = .ok (.iload_n 1, 1) := by decide +kernel
theorem dX9_deepOf_89 : decode cX9_deepOf 89 = .ok (.iaload, 1) := by decide +kernel
theorem dX9_deepOf_90 : decode cX9_deepOf 90 = .ok (.ireturn, 1) := by decide +kernel
theorem dX9_term_0 : decode cX9_term 0 = .ok (.aload_n 0, 1) := by decide +kernel
theorem dX9_term_1 : decode cX9_term 1 = .ok (.aload_n 0, 1) := by decide +kernel
theorem dX9_term_2 : decode cX9_term 2 = .ok (.iload_n 1, 1) := by decide +kernel
theorem dX9_term_3 : decode cX9_term 3 = .ok (.invokevirtual 317, 3) := by decide +kernel
theorem dX9_term_6 : decode cX9_term 6 = .ok (.ifCond .eq 16, 3) := by decide +kernel
theorem dX9_term_9 : decode cX9_term 9 = .ok (.iload_n 2, 1) := by decide +kernel
theorem dX9_term_10 : decode cX9_term 10 = .ok (.iconst 0, 1) := by decide +kernel
theorem dX9_term_11 : decode cX9_term 11 = .ok (.iconst 5, 1) := by decide +kernel
theorem dX9_term_12 : decode cX9_term 12 = .ok (.invokestatic 132, 3) := by decide +kernel
theorem dX9_term_15 : decode cX9_term 15 = .ok (.ifCond .eq 7, 3) := by decide +kernel
theorem dX9_term_18 : decode cX9_term 18 = .ok (.iconst 1, 1) := by decide +kernel
theorem dX9_term_19 : decode cX9_term 19 = .ok (.goto 4, 3) := by decide +kernel
theorem dX9_term_22 : decode cX9_term 22 = .ok (.iconst 0, 1) := by decide +kernel
theorem dX9_term_23 : decode cX9_term 23 = .ok (.invokestatic 306, 3) := by decide +kernel
theorem dX9_term_26 : decode cX9_term 26 = .ok (.invokevirtual 223, 3) := by decide +kernel
theorem dX9_term_29 : decode cX9_term 29 = .ok (.ifCond .eq 5, 3) := by decide +kernel
theorem dX9_term_32 : decode cX9_term 32 = .ok (.iconst (-1), 1) := by decide +kernel
theorem dX9_term_33 : decode cX9_term 33 = .ok (.ireturn, 1) := by decide +kernel
theorem dX9_term_34 : decode cX9_term 34 = .ok (.iload_n 2, 1) := by decide +kernel
theorem dX9_term_35 : decode cX9_term 35 = .ok (.tableswitch 65 0 4 #[33, 40, 47, 53, 59], 33) := by decide +kernel
theorem dX9_term_68 : decode cX9_term 68 = .ok (.aload_n 0, 1) := by decide +kernel
theorem dX9_term_69 : decode cX9_term 69 = .ok (.getfield 32, 3) := by decide +kernel
theorem dX9_term_72 : decode cX9_term 72 = .ok (.iload_n 1, 1) := by decide +kernel
theorem dX9_term_73 : decode cX9_term 73 = .ok (.iaload, 1) := by decide +kernel
theorem dX9_term_74 : decode cX9_term 74 = .ok (.ireturn, 1) := by decide +kernel
theorem dX9_term_75 : decode cX9_term 75 = .ok (.aload_n 0, 1) := by decide +kernel
theorem dX9_term_76 : decode cX9_term 76 = .ok (.getfield 50, 3) := by decide +kernel
theorem dX9_term_79 : decode cX9_term 79 = .ok (.iload_n 1, 1) := by decide +kernel
theorem dX9_term_80 : decode cX9_term 80 = .ok (.iaload, 1) := by decide +kernel
theorem dX9_term_81 : decode cX9_term 81 = .ok (.ireturn, 1) := by decide +kernel
theorem dX9_term_82 : decode cX9_term 82 = .ok (.aload_n 0, 1) := by decide +kernel
theorem dX9_term_83 : decode cX9_term 83 = .ok (.iload_n 1, 1) := by decide +kernel
theorem dX9_term_84 : decode cX9_term 84 = .ok (.invokevirtual 320, 3) := by decide +kernel
theorem dX9_term_87 : decode cX9_term 87 = .ok (.ireturn, 1) := by decide +kernel
theorem dX9_term_88 : decode cX9_term 88 = .ok (.aload_n 0, 1) := by decide +kernel
theorem dX9_term_89 : decode cX9_term 89 = .ok (.iload_n 1, 1) := by decide +kernel
theorem dX9_term_90 : decode cX9_term 90 = .ok (.invokevirtual 323, 3) := by decide +kernel
theorem dX9_term_93 : decode cX9_term 93 = .ok (.ireturn, 1) := by decide +kernel
theorem dX9_term_94 : decode cX9_term 94 = .ok (.aload_n 0, 1) := by decide +kernel
theorem dX9_term_95 : decode cX9_term 95 = .ok (.iload_n 1, 1) := by decide +kernel
theorem dX9_term_96 : decode cX9_term 96 = .ok (.invokevirtual 326, 3) := by decide +kernel
theorem dX9_term_99 : decode cX9_term 99 = .ok (.ireturn, 1) := by decide +kernel
theorem dX9_term_100 : decode cX9_term 100 = .ok (.aload_n 0, 1) := by decide +kernel
theorem dX9_term_101 : decode cX9_term 101 = .ok (.getfield 53, 3) := by decide +kernel
theorem dX9_term_104 : decode cX9_term 104 = .ok (.iload_n 1, 1) := by decide +kernel
theorem dX9_term_105 : decode cX9_term 105 = .ok (.iaload, 1) := by decide +kernel
theorem dX9_term_106 : decode cX9_term 106 = .ok (.ireturn, 1) := by decide +kernel
theorem dX9_height_0 : decode cX9_height 0 = .ok (.aload_n 0, 1) := by decide +kernel
theorem dX9_height_1 : decode cX9_height 1 = .ok (.aload_n 0, 1) := by decide +kernel
theorem dX9_height_2 : decode cX9_height 2 = .ok (.iload_n 1, 1) := by decide +kernel
theorem dX9_height_3 : decode cX9_height 3 = .ok (.invokevirtual 317, 3) := by decide +kernel
theorem dX9_height_6 : decode cX9_height 6 = .ok (.invokestatic 306, 3) := by decide +kernel
theorem dX9_height_9 : decode cX9_height 9 = .ok (.invokevirtual 223, 3) := by decide +kernel
theorem dX9_height_12 : decode cX9_height 12 = .ok (.ifCond .eq 7, 3) := by decide +kernel
theorem dX9_height_15 : decode cX9_height 15 = .ok (.iconst (-1), 1) := by decide +kernel
theorem dX9_height_16 : decode cX9_height 16 = .ok (.goto 8, 3) := by decide +kernel
theorem dX9_height_19 : decode cX9_height 19 = .ok (.aload_n 0, 1) := by decide +kernel
theorem dX9_height_20 : decode cX9_height 20 = .ok (.iload_n 1, 1) := by decide +kernel
theorem dX9_height_21 : decode cX9_height 21 = .ok (.invokevirtual 256, 3) := by decide +kernel
theorem dX9_height_24 : decode cX9_height 24 = .ok (.ireturn, 1) := by decide +kernel
theorem dX9_hung_0 : decode cX9_hung 0 = .ok (.aload_n 0, 1) := by decide +kernel
theorem dX9_hung_1 : decode cX9_hung 1 = .ok (.aload_n 0, 1) := by decide +kernel
theorem dX9_hung_2 : decode cX9_hung 2 = .ok (.iload_n 1, 1) := by decide +kernel
theorem dX9_hung_3 : decode cX9_hung 3 = .ok (.invokevirtual 317, 3) := by decide +kernel
theorem dX9_hung_6 : decode cX9_hung 6 = .ok (.ifCond .eq 11, 3) := by decide +kernel
theorem dX9_hung_9 : decode cX9_hung 9 = .ok (.iload_n 2, 1) := by decide +kernel
theorem dX9_hung_10 : decode cX9_hung 10 = .ok (.ifCond .lt 7, 3) := by decide +kernel
theorem dX9_hung_13 : decode cX9_hung 13 = .ok (.iconst 1, 1) := by decide +kernel
theorem dX9_hung_14 : decode cX9_hung 14 = .ok (.goto 4, 3) := by decide +kernel
theorem dX9_hung_17 : decode cX9_hung 17 = .ok (.iconst 0, 1) := by decide +kernel
theorem dX9_hung_18 : decode cX9_hung 18 = .ok (.invokestatic 306, 3) := by decide +kernel
theorem dX9_hung_21 : decode cX9_hung 21 = .ok (.invokevirtual 223, 3) := by decide +kernel
theorem dX9_hung_24 : decode cX9_hung 24 = .ok (.ifCond .eq 5, 3) := by decide +kernel
theorem dX9_hung_27 : decode cX9_hung 27 = .ok (.iconst (-1), 1) := by decide +kernel
theorem dX9_hung_28 : decode cX9_hung 28 = .ok (.ireturn, 1) := by decide +kernel
theorem dX9_hung_29 : decode cX9_hung 29 = .ok (.iload_n 2, 1) := by decide +kernel
theorem dX9_hung_30 : decode cX9_hung 30 = .ok (.istore_n 3, 1) := by decide +kernel
theorem dX9_hung_31 : decode cX9_hung 31 = .ok (.iconst 0, 1) := by decide +kernel
theorem dX9_hung_32 : decode cX9_hung 32 = .ok (.istore 4, 2) := by decide +kernel
theorem dX9_hung_34 : decode cX9_hung 34 = .ok (.iload 4, 2) := by decide +kernel
theorem dX9_hung_36 : decode cX9_hung 36 = .ok (.aload_n 0, 1) := by decide +kernel
theorem dX9_hung_37 : decode cX9_hung 37 = .ok (.getfield 250, 3) := by decide +kernel
theorem dX9_hung_40 : decode cX9_hung 40 = .ok (.if_icmp .ge 30, 3) := by decide +kernel
theorem dX9_hung_43 : decode cX9_hung 43 = .ok (.aload_n 0, 1) := by decide +kernel
theorem dX9_hung_44 : decode cX9_hung 44 = .ok (.getfield 53, 3) := by decide +kernel
theorem dX9_hung_47 : decode cX9_hung 47 = .ok (.iload 4, 2) := by decide +kernel
theorem dX9_hung_49 : decode cX9_hung 49 = .ok (.iaload, 1) := by decide +kernel
theorem dX9_hung_50 : decode cX9_hung 50 = .ok (.iload_n 1, 1) := by decide +kernel
theorem dX9_hung_51 : decode cX9_hung 51 = .ok (.if_icmp .ne 13, 3) := by decide +kernel
theorem dX9_hung_54 : decode cX9_hung 54 = .ok (.iload_n 3, 1) := by decide +kernel
theorem dX9_hung_55 : decode cX9_hung 55 = .ok (.ifCond .ne 6, 3) := by decide +kernel
theorem dX9_hung_58 : decode cX9_hung 58 = .ok (.iload 4, 2) := by decide +kernel
theorem dX9_hung_60 : decode cX9_hung 60 = .ok (.ireturn, 1) := by decide +kernel
theorem dX9_hung_61 : decode cX9_hung 61 = .ok (.iinc 3 (-1), 3) := by decide +kernel
theorem dX9_hung_64 : decode cX9_hung 64 = .ok (.iinc 4 1, 3) := by decide +kernel
theorem dX9_hung_67 : decode cX9_hung 67 = .ok (.goto (-33), 3) := by decide +kernel
theorem dX9_hung_70 : decode cX9_hung 70 = .ok (.bipush (-2), 2) := by decide +kernel
theorem dX9_hung_72 : decode cX9_hung 72 = .ok (.ireturn, 1) := by decide +kernel
theorem dX9_partOf_0 : decode cX9_partOf 0 = .ok (.aload_n 0, 1) := by decide +kernel
theorem dX9_partOf_1 : decode cX9_partOf 1 = .ok (.aload_n 0, 1) := by decide +kernel
theorem dX9_partOf_2 : decode cX9_partOf 2 = .ok (.iload_n 1, 1) := by decide +kernel
theorem dX9_partOf_3 : decode cX9_partOf 3 = .ok (.invokevirtual 317, 3) := by decide +kernel
theorem dX9_partOf_6 : decode cX9_partOf 6 = .ok (.ifCond .eq 11, 3) := by decide +kernel
theorem dX9_partOf_9 : decode cX9_partOf 9 = .ok (.iload_n 2, 1) := by decide +kernel
theorem dX9_partOf_10 : decode cX9_partOf 10 = .ok (.ifCond .lt 7, 3) := by decide +kernel
theorem dX9_partOf_13 : decode cX9_partOf 13 = .ok (.iconst 1, 1) := by decide +kernel
theorem dX9_partOf_14 : decode cX9_partOf 14 = .ok (.goto 4, 3) := by decide +kernel
theorem dX9_partOf_17 : decode cX9_partOf 17 = .ok (.iconst 0, 1) := by decide +kernel
theorem dX9_partOf_18 : decode cX9_partOf 18 = .ok (.invokestatic 306, 3) := by decide +kernel
theorem dX9_partOf_21 : decode cX9_partOf 21 = .ok (.invokevirtual 223, 3) := by decide +kernel
theorem dX9_partOf_24 : decode cX9_partOf 24 = .ok (.ifCond .eq 5, 3) := by decide +kernel
theorem dX9_partOf_27 : decode cX9_partOf 27 = .ok (.iconst (-1), 1) := by decide +kernel
theorem dX9_partOf_28 : decode cX9_partOf 28 = .ok (.ireturn, 1) := by decide +kernel
theorem dX9_partOf_29 : decode cX9_partOf 29 = .ok (.iload_n 2, 1) := by decide +kernel
theorem dX9_partOf_30 : decode cX9_partOf 30 = .ok (.aload_n 0, 1) := by decide +kernel
theorem dX9_partOf_31 : decode cX9_partOf 31 = .ok (.iload_n 1, 1) := by decide +kernel
theorem dX9_partOf_32 : decode cX9_partOf 32 = .ok (.invokevirtual 253, 3) := by decide +kernel
theorem dX9_partOf_35 : decode cX9_partOf 35 = .ok (.if_icmp .ge 16, 3) := by decide +kernel
theorem dX9_partOf_38 : decode cX9_partOf 38 = .ok (.aload_n 0, 1) := by decide +kernel
theorem dX9_partOf_39 : decode cX9_partOf 39 = .ok (.getfield 35, 3) := by decide +kernel
theorem dX9_partOf_42 : decode cX9_partOf 42 = .ok (.iconst 3, 1) := by decide +kernel
theorem dX9_partOf_43 : decode cX9_partOf 43 = .ok (.iload_n 1, 1) := by decide +kernel
theorem dX9_partOf_44 : decode cX9_partOf 44 = .ok (.imul, 1) := by decide +kernel
theorem dX9_partOf_45 : decode cX9_partOf 45 = .ok (.iload_n 2, 1) := by decide +kernel
theorem dX9_partOf_46 : decode cX9_partOf 46 = .ok (.iadd, 1) := by decide +kernel
theorem dX9_partOf_47 : decode cX9_partOf 47 = .ok (.iaload, 1) := by decide +kernel
theorem dX9_partOf_48 : decode cX9_partOf 48 = .ok (.goto 5, 3) := by decide +kernel
theorem dX9_partOf_51 : decode cX9_partOf 51 = .ok (.bipush (-2), 2) := by decide +kernel
theorem dX9_partOf_53 : decode cX9_partOf 53 = .ok (.ireturn, 1) := by decide +kernel
theorem dX9_sameOf_0 : decode cX9_sameOf 0 = .ok (.aload_n 0, 1) := by decide +kernel
theorem dX9_sameOf_1 : decode cX9_sameOf 1 = .ok (.iload_n 1, 1) := by decide +kernel
theorem dX9_sameOf_2 : decode cX9_sameOf 2 = .ok (.iconst 0, 1) := by decide +kernel
theorem dX9_sameOf_3 : decode cX9_sameOf 3 = .ok (.aload_n 0, 1) := by decide +kernel
theorem dX9_sameOf_4 : decode cX9_sameOf 4 = .ok (.getfield 287, 3) := by decide +kernel
theorem dX9_sameOf_7 : decode cX9_sameOf 7 = .ok (.iconst 1, 1) := by decide +kernel
theorem dX9_sameOf_8 : decode cX9_sameOf 8 = .ok (.isub, 1) := by decide +kernel
theorem dX9_sameOf_9 : decode cX9_sameOf 9 = .ok (.invokestatic 132, 3) := by decide +kernel
theorem dX9_sameOf_12 : decode cX9_sameOf 12 = .ok (.ifCond .eq 16, 3) := by decide +kernel
theorem dX9_sameOf_15 : decode cX9_sameOf 15 = .ok (.iload_n 2, 1) := by decide +kernel
theorem dX9_sameOf_16 : decode cX9_sameOf 16 = .ok (.iconst 0, 1) := by decide +kernel
theorem dX9_sameOf_17 : decode cX9_sameOf 17 = .ok (.iconst 2, 1) := by decide +kernel
theorem dX9_sameOf_18 : decode cX9_sameOf 18 = .ok (.invokestatic 132, 3) := by decide +kernel
theorem dX9_sameOf_21 : decode cX9_sameOf 21 = .ok (.ifCond .eq 7, 3) := by decide +kernel
theorem dX9_sameOf_24 : decode cX9_sameOf 24 = .ok (.iconst 1, 1) := by decide +kernel
theorem dX9_sameOf_25 : decode cX9_sameOf 25 = .ok (.goto 4, 3) := by decide +kernel
theorem dX9_sameOf_28 : decode cX9_sameOf 28 = .ok (.iconst 0, 1) := by decide +kernel
theorem dX9_sameOf_29 : decode cX9_sameOf 29 = .ok (.invokestatic 306, 3) := by decide +kernel
theorem dX9_sameOf_32 : decode cX9_sameOf 32 = .ok (.invokevirtual 223, 3) := by decide +kernel
theorem dX9_sameOf_35 : decode cX9_sameOf 35 = .ok (.ifCond .eq 5, 3) := by decide +kernel
theorem dX9_sameOf_38 : decode cX9_sameOf 38 = .ok (.iconst (-1), 1) := by decide +kernel
theorem dX9_sameOf_39 : decode cX9_sameOf 39 = .ok (.ireturn, 1) := by decide +kernel
theorem dX9_sameOf_40 : decode cX9_sameOf 40 = .ok (.iload_n 2, 1) := by decide +kernel
theorem dX9_sameOf_41 : decode cX9_sameOf 41 = .ok (.iconst 2, 1) := by decide +kernel
theorem dX9_sameOf_42 : decode cX9_sameOf 42 = .ok (.if_icmp .ge 23, 3) := by decide +kernel
theorem dX9_sameOf_45 : decode cX9_sameOf 45 = .ok (.iload_n 2, 1) := by decide +kernel
theorem dX9_sameOf_46 : decode cX9_sameOf 46 = .ok (.ifCond .ne 12, 3) := by decide +kernel
theorem dX9_sameOf_49 : decode cX9_sameOf 49 = .ok (.aload_n 0, 1) := by decide +kernel
theorem dX9_sameOf_50 : decode cX9_sameOf 50 = .ok (.getfield 38, 3) := by decide +kernel
theorem dX9_sameOf_53 : decode cX9_sameOf 53 = .ok (.iload_n 1, 1) := by decide +kernel
theorem dX9_sameOf_54 : decode cX9_sameOf 54 = .ok (.iaload, 1) := by decide +kernel
theorem dX9_sameOf_55 : decode cX9_sameOf 55 = .ok (.goto 9, 3) := by decide +kernel
theorem dX9_sameOf_58 : decode cX9_sameOf 58 = .ok (.aload_n 0, 1) := by decide +kernel
theorem dX9_sameOf_59 : decode cX9_sameOf 59 = .ok (.getfield 41, 3) := by decide +kernel
theorem dX9_sameOf_62 : decode cX9_sameOf 62 = .ok (.iload_n 1, 1) := by decide +kernel
theorem dX9_sameOf_63 : decode cX9_sameOf 63 = .ok (.iaload, 1) := by decide +kernel
theorem dX9_sameOf_64 : decode cX9_sameOf 64 = .ok (.ireturn, 1) := by decide +kernel
theorem dX9_sameOf_65 : decode cX9_sameOf 65 = .ok (.aload_n 0, 1) := by decide +kernel
theorem dX9_sameOf_66 : decode cX9_sameOf 66 = .ok (.aload_n 0, 1) := by decide +kernel
theorem dX9_sameOf_67 : decode cX9_sameOf 67 = .ok (.invokevirtual 329, 3) := by decide +kernel
theorem dX9_sameOf_70 : decode cX9_sameOf 70 = .ok (.iconst 1, 1) := by decide +kernel
theorem dX9_sameOf_71 : decode cX9_sameOf 71 = .ok (.iload_n 1, 1) := by decide +kernel
theorem dX9_sameOf_72 : decode cX9_sameOf 72 = .ok (.ishl, 1) := by decide +kernel
theorem dX9_sameOf_73 : decode cX9_sameOf 73 = .ok (.iconst (-1), 1) := by decide +kernel
theorem dX9_sameOf_74 : decode cX9_sameOf 74 = .ok (.ixor, 1) := by decide +kernel
theorem dX9_sameOf_75 : decode cX9_sameOf 75 = .ok (.iand, 1) := by decide +kernel
theorem dX9_sameOf_76 : decode cX9_sameOf 76 = .ok (.aload_n 0, 1) := by decide +kernel
theorem dX9_sameOf_77 : decode cX9_sameOf 77 = .ok (.getfield 38, 3) := by decide +kernel
theorem dX9_sameOf_80 : decode cX9_sameOf 80 = .ok (.iload_n 1, 1) := by decide +kernel
theorem dX9_sameOf_81 : decode cX9_sameOf 81 = .ok (.iaload, 1) := by decide +kernel
theorem dX9_sameOf_82 : decode cX9_sameOf 82 = .ok (.aload_n 0, 1) := by decide +kernel
theorem dX9_sameOf_83 : decode cX9_sameOf 83 = .ok (.getfield 41, 3) := by decide +kernel
theorem dX9_sameOf_86 : decode cX9_sameOf 86 = .ok (.iload_n 1, 1) := by decide +kernel
theorem dX9_sameOf_87 : decode cX9_sameOf 87 = .ok (.iaload, 1) := by decide +kernel
theorem dX9_sameOf_88 : decode cX9_sameOf 88 = .ok (.invokevirtual 332, 3) := by decide +kernel
theorem dX9_sameOf_91 : decode cX9_sameOf 91 = .ok (.ifCond .eq 7, 3) := by decide +kernel
theorem dX9_sameOf_94 : decode cX9_sameOf 94 = .ok (.iconst 1, 1) := by decide +kernel
theorem dX9_sameOf_95 : decode cX9_sameOf 95 = .ok (.goto 4, 3) := by decide +kernel
theorem dX9_sameOf_98 : decode cX9_sameOf 98 = .ok (.iconst 0, 1) := by decide +kernel
theorem dX9_sameOf_99 : decode cX9_sameOf 99 = .ok (.ireturn, 1) := by decide +kernel
theorem dX9_diffOf_0 : decode cX9_diffOf 0 = .ok (.aload_n 0, 1) := by decide +kernel
theorem dX9_diffOf_1 : decode cX9_diffOf 1 = .ok (.iload_n 1, 1) := by decide +kernel
theorem dX9_diffOf_2 : decode cX9_diffOf 2 = .ok (.iconst 0, 1) := by decide +kernel
theorem dX9_diffOf_3 : decode cX9_diffOf 3 = .ok (.aload_n 0, 1) := by decide +kernel
theorem dX9_diffOf_4 : decode cX9_diffOf 4 = .ok (.getfield 297, 3) := by decide +kernel
theorem dX9_diffOf_7 : decode cX9_diffOf 7 = .ok (.iconst 1, 1) := by decide +kernel
theorem dX9_diffOf_8 : decode cX9_diffOf 8 = .ok (.isub, 1) := by decide +kernel
theorem dX9_diffOf_9 : decode cX9_diffOf 9 = .ok (.invokestatic 132, 3) := by decide +kernel
theorem dX9_diffOf_12 : decode cX9_diffOf 12 = .ok (.ifCond .eq 16, 3) := by decide +kernel
theorem dX9_diffOf_15 : decode cX9_diffOf 15 = .ok (.iload_n 2, 1) := by decide +kernel
theorem dX9_diffOf_16 : decode cX9_diffOf 16 = .ok (.iconst 0, 1) := by decide +kernel
theorem dX9_diffOf_17 : decode cX9_diffOf 17 = .ok (.iconst 2, 1) := by decide +kernel
theorem dX9_diffOf_18 : decode cX9_diffOf 18 = .ok (.invokestatic 132, 3) := by decide +kernel
theorem dX9_diffOf_21 : decode cX9_diffOf 21 = .ok (.ifCond .eq 7, 3) := by decide +kernel
theorem dX9_diffOf_24 : decode cX9_diffOf 24 = .ok (.iconst 1, 1) := by decide +kernel
theorem dX9_diffOf_25 : decode cX9_diffOf 25 = .ok (.goto 4, 3) := by decide +kernel
theorem dX9_diffOf_28 : decode cX9_diffOf 28 = .ok (.iconst 0, 1) := by decide +kernel
theorem dX9_diffOf_29 : decode cX9_diffOf 29 = .ok (.invokestatic 306, 3) := by decide +kernel
theorem dX9_diffOf_32 : decode cX9_diffOf 32 = .ok (.invokevirtual 223, 3) := by decide +kernel
theorem dX9_diffOf_35 : decode cX9_diffOf 35 = .ok (.ifCond .eq 5, 3) := by decide +kernel
theorem dX9_diffOf_38 : decode cX9_diffOf 38 = .ok (.iconst (-1), 1) := by decide +kernel
theorem dX9_diffOf_39 : decode cX9_diffOf 39 = .ok (.ireturn, 1) := by decide +kernel
theorem dX9_diffOf_40 : decode cX9_diffOf 40 = .ok (.iload_n 2, 1) := by decide +kernel
theorem dX9_diffOf_41 : decode cX9_diffOf 41 = .ok (.iconst 2, 1) := by decide +kernel
theorem dX9_diffOf_42 : decode cX9_diffOf 42 = .ok (.if_icmp .ge 23, 3) := by decide +kernel
theorem dX9_diffOf_45 : decode cX9_diffOf 45 = .ok (.iload_n 2, 1) := by decide +kernel
theorem dX9_diffOf_46 : decode cX9_diffOf 46 = .ok (.ifCond .ne 12, 3) := by decide +kernel
theorem dX9_diffOf_49 : decode cX9_diffOf 49 = .ok (.aload_n 0, 1) := by decide +kernel
theorem dX9_diffOf_50 : decode cX9_diffOf 50 = .ok (.getfield 44, 3) := by decide +kernel
theorem dX9_diffOf_53 : decode cX9_diffOf 53 = .ok (.iload_n 1, 1) := by decide +kernel
theorem dX9_diffOf_54 : decode cX9_diffOf 54 = .ok (.iaload, 1) := by decide +kernel
theorem dX9_diffOf_55 : decode cX9_diffOf 55 = .ok (.goto 9, 3) := by decide +kernel
theorem dX9_diffOf_58 : decode cX9_diffOf 58 = .ok (.aload_n 0, 1) := by decide +kernel
theorem dX9_diffOf_59 : decode cX9_diffOf 59 = .ok (.getfield 47, 3) := by decide +kernel
theorem dX9_diffOf_62 : decode cX9_diffOf 62 = .ok (.iload_n 1, 1) := by decide +kernel
theorem dX9_diffOf_63 : decode cX9_diffOf 63 = .ok (.iaload, 1) := by decide +kernel
theorem dX9_diffOf_64 : decode cX9_diffOf 64 = .ok (.ireturn, 1) := by decide +kernel
theorem dX9_diffOf_65 : decode cX9_diffOf 65 = .ok (.aload_n 0, 1) := by decide +kernel
theorem dX9_diffOf_66 : decode cX9_diffOf 66 = .ok (.getfield 50, 3) := by decide +kernel
theorem dX9_diffOf_69 : decode cX9_diffOf 69 = .ok (.aload_n 0, 1) := by decide +kernel
theorem dX9_diffOf_70 : decode cX9_diffOf 70 = .ok (.getfield 44, 3) := by decide +kernel
theorem dX9_diffOf_73 : decode cX9_diffOf 73 = .ok (.iload_n 1, 1) := by decide +kernel
theorem dX9_diffOf_74 : decode cX9_diffOf 74 = .ok (.iaload, 1) := by decide +kernel
theorem dX9_diffOf_75 : decode cX9_diffOf 75 = .ok (.iaload, 1) := by decide +kernel
theorem dX9_diffOf_76 : decode cX9_diffOf 76 = .ok (.aload_n 0, 1) := by decide +kernel
theorem dX9_diffOf_77 : decode cX9_diffOf 77 = .ok (.getfield 50, 3) := by decide +kernel
theorem dX9_diffOf_80 : decode cX9_diffOf 80 = .ok (.aload_n 0, 1) := by decide +kernel
theorem dX9_diffOf_81 : decode cX9_diffOf 81 = .ok (.getfield 47, 3) := by decide +kernel
theorem dX9_diffOf_84 : decode cX9_diffOf 84 = .ok (.iload_n 1, 1) := by decide +kernel
theorem dX9_diffOf_85 : decode cX9_diffOf 85 = .ok (.iaload, 1) := by decide +kernel
theorem dX9_diffOf_86 : decode cX9_diffOf 86 = .ok (.iaload, 1) := by decide +kernel
theorem dX9_diffOf_87 : decode cX9_diffOf 87 = .ok (.if_icmp .ne 7, 3) := by decide +kernel
theorem dX9_diffOf_90 : decode cX9_diffOf 90 = .ok (.iconst 1, 1) := by decide +kernel
theorem dX9_diffOf_91 : decode cX9_diffOf 91 = .ok (.goto 4, 3) := by decide +kernel
theorem dX9_diffOf_94 : decode cX9_diffOf 94 = .ok (.iconst 0, 1) := by decide +kernel
theorem dX9_diffOf_95 : decode cX9_diffOf 95 = .ok (.ireturn, 1) := by decide +kernel
theorem dX9_joinOf_0 : decode cX9_joinOf 0 = .ok (.aload_n 0, 1) := by decide +kernel
theorem dX9_joinOf_1 : decode cX9_joinOf 1 = .ok (.iload_n 1, 1) := by decide +kernel
theorem dX9_joinOf_2 : decode cX9_joinOf 2 = .ok (.iconst 0, 1) := by decide +kernel
theorem dX9_joinOf_3 : decode cX9_joinOf 3 = .ok (.aload_n 0, 1) := by decide +kernel
theorem dX9_joinOf_4 : decode cX9_joinOf 4 = .ok (.getfield 259, 3) := by decide +kernel
theorem dX9_joinOf_7 : decode cX9_joinOf 7 = .ok (.iconst 1, 1) := by decide +kernel
theorem dX9_joinOf_8 : decode cX9_joinOf 8 = .ok (.isub, 1) := by decide +kernel
theorem dX9_joinOf_9 : decode cX9_joinOf 9 = .ok (.invokestatic 132, 3) := by decide +kernel
theorem dX9_joinOf_12 : decode cX9_joinOf 12 = .ok (.ifCond .eq 16, 3) := by decide +kernel
theorem dX9_joinOf_15 : decode cX9_joinOf 15 = .ok (.iload_n 2, 1) := by decide +kernel
theorem dX9_joinOf_16 : decode cX9_joinOf 16 = .ok (.iconst 0, 1) := by decide +kernel
theorem dX9_joinOf_17 : decode cX9_joinOf 17 = .ok (.iconst 2, 1) := by decide +kernel
theorem dX9_joinOf_18 : decode cX9_joinOf 18 = .ok (.invokestatic 132, 3) := by decide +kernel
theorem dX9_joinOf_21 : decode cX9_joinOf 21 = .ok (.ifCond .eq 7, 3) := by decide +kernel
theorem dX9_joinOf_24 : decode cX9_joinOf 24 = .ok (.iconst 1, 1) := by decide +kernel
theorem dX9_joinOf_25 : decode cX9_joinOf 25 = .ok (.goto 4, 3) := by decide +kernel
theorem dX9_joinOf_28 : decode cX9_joinOf 28 = .ok (.iconst 0, 1) := by decide +kernel
theorem dX9_joinOf_29 : decode cX9_joinOf 29 = .ok (.invokestatic 306, 3) := by decide +kernel
theorem dX9_joinOf_32 : decode cX9_joinOf 32 = .ok (.invokevirtual 223, 3) := by decide +kernel
theorem dX9_joinOf_35 : decode cX9_joinOf 35 = .ok (.ifCond .eq 5, 3) := by decide +kernel
theorem dX9_joinOf_38 : decode cX9_joinOf 38 = .ok (.iconst (-1), 1) := by decide +kernel
theorem dX9_joinOf_39 : decode cX9_joinOf 39 = .ok (.ireturn, 1) := by decide +kernel
theorem dX9_joinOf_40 : decode cX9_joinOf 40 = .ok (.iload_n 2, 1) := by decide +kernel
theorem dX9_joinOf_41 : decode cX9_joinOf 41 = .ok (.ifCond .ne 12, 3) := by decide +kernel
theorem dX9_joinOf_44 : decode cX9_joinOf 44 = .ok (.aload_n 0, 1) := by decide +kernel
theorem dX9_joinOf_45 : decode cX9_joinOf 45 = .ok (.getfield 59, 3) := by decide +kernel
theorem dX9_joinOf_48 : decode cX9_joinOf 48 = .ok (.iload_n 1, 1) := by decide +kernel
theorem dX9_joinOf_49 : decode cX9_joinOf 49 = .ok (.iaload, 1) := by decide +kernel
theorem dX9_joinOf_50 : decode cX9_joinOf 50 = .ok (.goto 23, 3) := by decide +kernel
theorem dX9_joinOf_53 : decode cX9_joinOf 53 = .ok (.iload_n 2, 1) := by decide +kernel
theorem dX9_joinOf_54 : decode cX9_joinOf 54 = .ok (.iconst 1, 1) := by decide +kernel
theorem dX9_joinOf_55 : decode cX9_joinOf 55 = .ok (.if_icmp .ne 12, 3) := by decide +kernel
theorem dX9_joinOf_58 : decode cX9_joinOf 58 = .ok (.aload_n 0, 1) := by decide +kernel
theorem dX9_joinOf_59 : decode cX9_joinOf 59 = .ok (.getfield 62, 3) := by decide +kernel
theorem dX9_joinOf_62 : decode cX9_joinOf 62 = .ok (.iload_n 1, 1) := by decide +kernel
theorem dX9_joinOf_63 : decode cX9_joinOf 63 = .ok (.iaload, 1) := by decide +kernel
theorem dX9_joinOf_64 : decode cX9_joinOf 64 = .ok (.goto 9, 3) := by decide +kernel
theorem dX9_joinOf_67 : decode cX9_joinOf 67 = .ok (.aload_n 0, 1) := by decide +kernel
theorem dX9_joinOf_68 : decode cX9_joinOf 68 = .ok (.getfield 65, 3) := by decide +kernel
theorem dX9_joinOf_71 : decode cX9_joinOf 71 = .ok (.iload_n 1, 1) := by decide +kernel
theorem dX9_joinOf_72 : decode cX9_joinOf 72 = .ok (.iaload, 1) := by decide +kernel
theorem dX9_joinOf_73 : decode cX9_joinOf 73 = .ok (.ireturn, 1) := by decide +kernel
theorem dX9_equal_0 : decode cX9_equal 0 = .ok (.aload_n 0, 1) := by decide +kernel
theorem dX9_equal_1 : decode cX9_equal 1 = .ok (.aload_n 0, 1) := by decide +kernel
theorem dX9_equal_2 : decode cX9_equal 2 = .ok (.iload_n 1, 1) := by decide +kernel
theorem dX9_equal_3 : decode cX9_equal 3 = .ok (.invokevirtual 317, 3) := by decide +kernel
theorem dX9_equal_6 : decode cX9_equal 6 = .ok (.ifCond .eq 15, 3) := by decide +kernel
theorem dX9_equal_9 : decode cX9_equal 9 = .ok (.aload_n 0, 1) := by decide +kernel
theorem dX9_equal_10 : decode cX9_equal 10 = .ok (.iload_n 2, 1) := by decide +kernel
theorem dX9_equal_11 : decode cX9_equal 11 = .ok (.invokevirtual 317, 3) := by decide +kernel
theorem dX9_equal_14 : decode cX9_equal 14 = .ok (.ifCond .eq 7, 3) := by decide +kernel
theorem dX9_equal_17 : decode cX9_equal 17 = .ok (.iconst 1, 1) := by decide +kernel
theorem dX9_equal_18 : decode cX9_equal 18 = .ok (.goto 4, 3) := by decide +kernel
theorem dX9_equal_21 : decode cX9_equal 21 = .ok (.iconst 0, 1) := by decide +kernel
theorem dX9_equal_22 : decode cX9_equal 22 = .ok (.invokestatic 306, 3) := by decide +kernel
theorem dX9_equal_25 : decode cX9_equal 25 = .ok (.invokevirtual 223, 3) := by decide +kernel
theorem dX9_equal_28 : decode cX9_equal 28 = .ok (.ifCond .eq 5, 3) := by decide +kernel
theorem dX9_equal_31 : decode cX9_equal 31 = .ok (.iconst (-1), 1) := by decide +kernel
theorem dX9_equal_32 : decode cX9_equal 32 = .ok (.ireturn, 1) := by decide +kernel
theorem dX9_equal_33 : decode cX9_equal 33 = .ok (.aload_n 0, 1) := by decide +kernel
theorem dX9_equal_34 : decode cX9_equal 34 = .ok (.getfield 50, 3) := by decide +kernel
theorem dX9_equal_37 : decode cX9_equal 37 = .ok (.iload_n 1, 1) := by decide +kernel
theorem dX9_equal_38 : decode cX9_equal 38 = .ok (.iaload, 1) := by decide +kernel
theorem dX9_equal_39 : decode cX9_equal 39 = .ok (.aload_n 0, 1) := by decide +kernel
theorem dX9_equal_40 : decode cX9_equal 40 = .ok (.getfield 50, 3) := by decide +kernel
theorem dX9_equal_43 : decode cX9_equal 43 = .ok (.iload_n 2, 1) := by decide +kernel
theorem dX9_equal_44 : decode cX9_equal 44 = .ok (.iaload, 1) := by decide +kernel
theorem dX9_equal_45 : decode cX9_equal 45 = .ok (.if_icmp .ne 7, 3) := by decide +kernel
theorem dX9_equal_48 : decode cX9_equal 48 = .ok (.iconst 1, 1) := by decide +kernel
theorem dX9_equal_49 : decode cX9_equal 49 = .ok (.goto 4, 3) := by decide +kernel
theorem dX9_equal_52 : decode cX9_equal 52 = .ok (.iconst 0, 1) := by decide +kernel
theorem dX9_equal_53 : decode cX9_equal 53 = .ok (.ireturn, 1) := by decide +kernel
theorem dX9_apart_0 : decode cX9_apart 0 = .ok (.aload_n 0, 1) := by decide +kernel
theorem dX9_apart_1 : decode cX9_apart 1 = .ok (.aload_n 0, 1) := by decide +kernel
theorem dX9_apart_2 : decode cX9_apart 2 = .ok (.iload_n 1, 1) := by decide +kernel
theorem dX9_apart_3 : decode cX9_apart 3 = .ok (.invokevirtual 317, 3) := by decide +kernel
theorem dX9_apart_6 : decode cX9_apart 6 = .ok (.ifCond .eq 15, 3) := by decide +kernel
theorem dX9_apart_9 : decode cX9_apart 9 = .ok (.aload_n 0, 1) := by decide +kernel
theorem dX9_apart_10 : decode cX9_apart 10 = .ok (.iload_n 2, 1) := by decide +kernel
theorem dX9_apart_11 : decode cX9_apart 11 = .ok (.invokevirtual 317, 3) := by decide +kernel
theorem dX9_apart_14 : decode cX9_apart 14 = .ok (.ifCond .eq 7, 3) := by decide +kernel
theorem dX9_apart_17 : decode cX9_apart 17 = .ok (.iconst 1, 1) := by decide +kernel
theorem dX9_apart_18 : decode cX9_apart 18 = .ok (.goto 4, 3) := by decide +kernel
theorem dX9_apart_21 : decode cX9_apart 21 = .ok (.iconst 0, 1) := by decide +kernel
theorem dX9_apart_22 : decode cX9_apart 22 = .ok (.invokestatic 306, 3) := by decide +kernel
theorem dX9_apart_25 : decode cX9_apart 25 = .ok (.invokevirtual 223, 3) := by decide +kernel
theorem dX9_apart_28 : decode cX9_apart 28 = .ok (.ifCond .eq 5, 3) := by decide +kernel
theorem dX9_apart_31 : decode cX9_apart 31 = .ok (.iconst (-1), 1) := by decide +kernel
theorem dX9_apart_32 : decode cX9_apart 32 = .ok (.ireturn, 1) := by decide +kernel
theorem dX9_apart_33 : decode cX9_apart 33 = .ok (.iconst 0, 1) := by decide +kernel
theorem dX9_apart_34 : decode cX9_apart 34 = .ok (.istore_n 3, 1) := by decide +kernel
theorem dX9_apart_35 : decode cX9_apart 35 = .ok (.iload_n 3, 1) := by decide +kernel
theorem dX9_apart_36 : decode cX9_apart 36 = .ok (.aload_n 0, 1) := by decide +kernel
theorem dX9_apart_37 : decode cX9_apart 37 = .ok (.getfield 297, 3) := by decide +kernel
theorem dX9_apart_40 : decode cX9_apart 40 = .ok (.if_icmp .ge 81, 3) := by decide +kernel
theorem dX9_apart_43 : decode cX9_apart 43 = .ok (.aload_n 0, 1) := by decide +kernel
theorem dX9_apart_44 : decode cX9_apart 44 = .ok (.getfield 50, 3) := by decide +kernel
theorem dX9_apart_47 : decode cX9_apart 47 = .ok (.aload_n 0, 1) := by decide +kernel
theorem dX9_apart_48 : decode cX9_apart 48 = .ok (.getfield 44, 3) := by decide +kernel
theorem dX9_apart_51 : decode cX9_apart 51 = .ok (.iload_n 3, 1) := by decide +kernel
theorem dX9_apart_52 : decode cX9_apart 52 = .ok (.iaload, 1) := by decide +kernel
theorem dX9_apart_53 : decode cX9_apart 53 = .ok (.iaload, 1) := by decide +kernel
theorem dX9_apart_54 : decode cX9_apart 54 = .ok (.istore 4, 2) := by decide +kernel
theorem dX9_apart_56 : decode cX9_apart 56 = .ok (.aload_n 0, 1) := by decide +kernel
theorem dX9_apart_57 : decode cX9_apart 57 = .ok (.getfield 50, 3) := by decide +kernel
theorem dX9_apart_60 : decode cX9_apart 60 = .ok (.aload_n 0, 1) := by decide +kernel
theorem dX9_apart_61 : decode cX9_apart 61 = .ok (.getfield 47, 3) := by decide +kernel
theorem dX9_apart_64 : decode cX9_apart 64 = .ok (.iload_n 3, 1) := by decide +kernel
theorem dX9_apart_65 : decode cX9_apart 65 = .ok (.iaload, 1) := by decide +kernel
theorem dX9_apart_66 : decode cX9_apart 66 = .ok (.iaload, 1) := by decide +kernel
theorem dX9_apart_67 : decode cX9_apart 67 = .ok (.istore 5, 2) := by decide +kernel
theorem dX9_apart_69 : decode cX9_apart 69 = .ok (.iload 4, 2) := by decide +kernel
theorem dX9_apart_71 : decode cX9_apart 71 = .ok (.aload_n 0, 1) := by decide +kernel
theorem dX9_apart_72 : decode cX9_apart 72 = .ok (.getfield 50, 3) := by decide +kernel
theorem dX9_apart_75 : decode cX9_apart 75 = .ok (.iload_n 1, 1) := by decide +kernel
theorem dX9_apart_76 : decode cX9_apart 76 = .ok (.iaload, 1) := by decide +kernel
theorem dX9_apart_77 : decode cX9_apart 77 = .ok (.if_icmp .ne 14, 3) := by decide +kernel
theorem dX9_apart_80 : decode cX9_apart 80 = .ok (.iload 5, 2) := by decide +kernel
theorem dX9_apart_82 : decode cX9_apart 82 = .ok (.aload_n 0, 1) := by decide +kernel
theorem dX9_apart_83 : decode cX9_apart 83 = .ok (.getfield 50, 3) := by decide +kernel
theorem dX9_apart_86 : decode cX9_apart 86 = .ok (.iload_n 2, 1) := by decide +kernel
theorem dX9_apart_87 : decode cX9_apart 87 = .ok (.iaload, 1) := by decide +kernel
theorem dX9_apart_88 : decode cX9_apart 88 = .ok (.if_icmp .eq 25, 3) := by decide +kernel
theorem dX9_apart_91 : decode cX9_apart 91 = .ok (.iload 4, 2) := by decide +kernel
theorem dX9_apart_93 : decode cX9_apart 93 = .ok (.aload_n 0, 1) := by decide +kernel
theorem dX9_apart_94 : decode cX9_apart 94 = .ok (.getfield 50, 3) := by decide +kernel
theorem dX9_apart_97 : decode cX9_apart 97 = .ok (.iload_n 2, 1) := by decide +kernel
theorem dX9_apart_98 : decode cX9_apart 98 = .ok (.iaload, 1) := by decide +kernel
theorem dX9_apart_99 : decode cX9_apart 99 = .ok (.if_icmp .ne 16, 3) := by decide +kernel
theorem dX9_apart_102 : decode cX9_apart 102 = .ok (.iload 5, 2) := by decide +kernel
theorem dX9_apart_104 : decode cX9_apart 104 = .ok (.aload_n 0, 1) := by decide +kernel
theorem dX9_apart_105 : decode cX9_apart 105 = .ok (.getfield 50, 3) := by decide +kernel
theorem dX9_apart_108 : decode cX9_apart 108 = .ok (.iload_n 1, 1) := by decide +kernel
theorem dX9_apart_109 : decode cX9_apart 109 = .ok (.iaload, 1) := by decide +kernel
theorem dX9_apart_110 : decode cX9_apart 110 = .ok (.if_icmp .ne 5, 3) := by decide +kernel
theorem dX9_apart_113 : decode cX9_apart 113 = .ok (.iconst 1, 1) := by decide +kernel
theorem dX9_apart_114 : decode cX9_apart 114 = .ok (.ireturn, 1) := by decide +kernel
theorem dX9_apart_115 : decode cX9_apart 115 = .ok (.iinc 3 1, 3) := by decide +kernel
theorem dX9_apart_118 : decode cX9_apart 118 = .ok (.goto (-83), 3) := by decide +kernel
theorem dX9_apart_121 : decode cX9_apart 121 = .ok (.iconst 0, 1) := by decide +kernel
theorem dX9_apart_122 : decode cX9_apart 122 = .ok (.ireturn, 1) := by decide +kernel
theorem dX9_whyNotOne_0 : decode cX9_whyNotOne 0 = .ok (.aload_n 0, 1) := by decide +kernel
theorem dX9_whyNotOne_1 : decode cX9_whyNotOne 1 = .ok (.iload_n 1, 1) := by decide +kernel
theorem dX9_whyNotOne_2 : decode cX9_whyNotOne 2 = .ok (.invokevirtual 317, 3) := by decide +kernel
theorem dX9_whyNotOne_5 : decode cX9_whyNotOne 5 = .ok (.ifCond .eq 11, 3) := by decide +kernel
theorem dX9_whyNotOne_8 : decode cX9_whyNotOne 8 = .ok (.aload_n 0, 1) := by decide +kernel
theorem dX9_whyNotOne_9 : decode cX9_whyNotOne 9 = .ok (.iload_n 2, 1) := by decide +kernel
theorem dX9_whyNotOne_10 : decode cX9_whyNotOne 10 = .ok (.invokevirtual 317, 3) := by decide +kernel
theorem dX9_whyNotOne_13 : decode cX9_whyNotOne 13 = .ok (.ifCond .ne 7, 3) := by decide +kernel
theorem dX9_whyNotOne_16 : decode cX9_whyNotOne 16 = .ok (.iconst 1, 1) := by decide +kernel
theorem dX9_whyNotOne_17 : decode cX9_whyNotOne 17 = .ok (.goto 23, 3) := by decide +kernel
theorem dX9_whyNotOne_20 : decode cX9_whyNotOne 20 = .ok (.aload_n 0, 1) := by decide +kernel
theorem dX9_whyNotOne_21 : decode cX9_whyNotOne 21 = .ok (.getfield 50, 3) := by decide +kernel
theorem dX9_whyNotOne_24 : decode cX9_whyNotOne 24 = .ok (.iload_n 1, 1) := by decide +kernel
theorem dX9_whyNotOne_25 : decode cX9_whyNotOne 25 = .ok (.iaload, 1) := by decide +kernel
theorem dX9_whyNotOne_26 : decode cX9_whyNotOne 26 = .ok (.aload_n 0, 1) := by decide +kernel
theorem dX9_whyNotOne_27 : decode cX9_whyNotOne 27 = .ok (.getfield 50, 3) := by decide +kernel
theorem dX9_whyNotOne_30 : decode cX9_whyNotOne 30 = .ok (.iload_n 2, 1) := by decide +kernel
theorem dX9_whyNotOne_31 : decode cX9_whyNotOne 31 = .ok (.iaload, 1) := by decide +kernel
theorem dX9_whyNotOne_32 : decode cX9_whyNotOne 32 = .ok (.if_icmp .ne 7, 3) := by decide +kernel
theorem dX9_whyNotOne_35 : decode cX9_whyNotOne 35 = .ok (.iconst 0, 1) := by decide +kernel
theorem dX9_whyNotOne_36 : decode cX9_whyNotOne 36 = .ok (.goto 4, 3) := by decide +kernel
theorem dX9_whyNotOne_39 : decode cX9_whyNotOne 39 = .ok (.iconst 5, 1) := by decide +kernel
theorem dX9_whyNotOne_40 : decode cX9_whyNotOne 40 = .ok (.ireturn, 1) := by decide +kernel
theorem dX9_reasons_0 : decode cX9_reasons 0 = .ok (.aload_n 0, 1) := by decide +kernel
theorem dX9_reasons_1 : decode cX9_reasons 1 = .ok (.aload_n 0, 1) := by decide +kernel
theorem dX9_reasons_2 : decode cX9_reasons 2 = .ok (.iload_n 1, 1) := by decide +kernel
theorem dX9_reasons_3 : decode cX9_reasons 3 = .ok (.iload_n 2, 1) := by decide +kernel
theorem dX9_reasons_4 : decode cX9_reasons 4 = .ok (.invokevirtual 335, 3) := by decide +kernel
theorem dX9_reasons_7 : decode cX9_reasons 7 = .ok (.invokevirtual 223, 3) := by decide +kernel
theorem dX9_reasons_10 : decode cX9_reasons 10 = .ok (.ifCond .eq 7, 3) := by decide +kernel
theorem dX9_reasons_13 : decode cX9_reasons 13 = .ok (.iconst (-1), 1) := by decide +kernel
theorem dX9_reasons_14 : decode cX9_reasons 14 = .ok (.goto 9, 3) := by decide +kernel
theorem dX9_reasons_17 : decode cX9_reasons 17 = .ok (.aload_n 0, 1) := by decide +kernel
theorem dX9_reasons_18 : decode cX9_reasons 18 = .ok (.iload_n 1, 1) := by decide +kernel
theorem dX9_reasons_19 : decode cX9_reasons 19 = .ok (.iload_n 2, 1) := by decide +kernel
theorem dX9_reasons_20 : decode cX9_reasons 20 = .ok (.invokevirtual 262, 3) := by decide +kernel
theorem dX9_reasons_23 : decode cX9_reasons 23 = .ok (.ireturn, 1) := by decide +kernel
theorem dX9_pruned_0 : decode cX9_pruned 0 = .ok (.aload_n 0, 1) := by decide +kernel
theorem dX9_pruned_1 : decode cX9_pruned 1 = .ok (.aload_n 0, 1) := by decide +kernel
theorem dX9_pruned_2 : decode cX9_pruned 2 = .ok (.iload_n 1, 1) := by decide +kernel
theorem dX9_pruned_3 : decode cX9_pruned 3 = .ok (.iload_n 2, 1) := by decide +kernel
theorem dX9_pruned_4 : decode cX9_pruned 4 = .ok (.invokevirtual 335, 3) := by decide +kernel
theorem dX9_pruned_7 : decode cX9_pruned 7 = .ok (.invokevirtual 223, 3) := by decide +kernel
theorem dX9_pruned_10 : decode cX9_pruned 10 = .ok (.ifCond .eq 5, 3) := by decide +kernel
theorem dX9_pruned_13 : decode cX9_pruned 13 = .ok (.iconst (-1), 1) := by decide +kernel
theorem dX9_pruned_14 : decode cX9_pruned 14 = .ok (.ireturn, 1) := by decide +kernel
theorem dX9_pruned_15 : decode cX9_pruned 15 = .ok (.aload_n 0, 1) := by decide +kernel
theorem dX9_pruned_16 : decode cX9_pruned 16 = .ok (.invokevirtual 329, 3) := by decide +kernel
theorem dX9_pruned_19 : decode cX9_pruned 19 = .ok (.istore_n 3, 1) := by decide +kernel
theorem dX9_pruned_20 : decode cX9_pruned 20 = .ok (.aload_n 0, 1) := by decide +kernel
theorem dX9_pruned_21 : decode cX9_pruned 21 = .ok (.getfield 287, 3) := by decide +kernel
theorem dX9_pruned_24 : decode cX9_pruned 24 = .ok (.iconst 1, 1) := by decide +kernel
theorem dX9_pruned_25 : decode cX9_pruned 25 = .ok (.isub, 1) := by decide +kernel
theorem dX9_pruned_26 : decode cX9_pruned 26 = .ok (.istore 4, 2) := by decide +kernel
theorem dX9_pruned_28 : decode cX9_pruned 28 = .ok (.iload 4, 2) := by decide +kernel
theorem dX9_pruned_30 : decode cX9_pruned 30 = .ok (.ifCond .lt 39, 3) := by decide +kernel
theorem dX9_pruned_33 : decode cX9_pruned 33 = .ok (.aload_n 0, 1) := by decide +kernel
theorem dX9_pruned_34 : decode cX9_pruned 34 = .ok (.iload_n 3, 1) := by decide +kernel
theorem dX9_pruned_35 : decode cX9_pruned 35 = .ok (.iconst 1, 1) := by decide +kernel
theorem dX9_pruned_36 : decode cX9_pruned 36 = .ok (.iload 4, 2) := by decide +kernel
theorem dX9_pruned_38 : decode cX9_pruned 38 = .ok (.ishl, 1) := by decide +kernel
theorem dX9_pruned_39 : decode cX9_pruned 39 = .ok (.iconst (-1), 1) := by decide +kernel
theorem dX9_pruned_40 : decode cX9_pruned 40 = .ok (.ixor, 1) := by decide +kernel
theorem dX9_pruned_41 : decode cX9_pruned 41 = .ok (.iand, 1) := by decide +kernel
theorem dX9_pruned_42 : decode cX9_pruned 42 = .ok (.iload_n 1, 1) := by decide +kernel
theorem dX9_pruned_43 : decode cX9_pruned 43 = .ok (.iload_n 2, 1) := by decide +kernel
theorem dX9_pruned_44 : decode cX9_pruned 44 = .ok (.invokevirtual 332, 3) := by decide +kernel
theorem dX9_pruned_47 : decode cX9_pruned 47 = .ok (.ifCond .eq 14, 3) := by decide +kernel
theorem dX9_pruned_50 : decode cX9_pruned 50 = .ok (.iload_n 3, 1) := by decide +kernel
theorem dX9_pruned_51 : decode cX9_pruned 51 = .ok (.iconst 1, 1) := by decide +kernel
theorem dX9_pruned_52 : decode cX9_pruned 52 = .ok (.iload 4, 2) := by decide +kernel
theorem dX9_pruned_54 : decode cX9_pruned 54 = .ok (.ishl, 1) := by decide +kernel
theorem dX9_pruned_55 : decode cX9_pruned 55 = .ok (.iconst (-1), 1) := by decide +kernel
theorem dX9_pruned_56 : decode cX9_pruned 56 = .ok (.ixor, 1) := by decide +kernel
theorem dX9_pruned_57 : decode cX9_pruned 57 = .ok (.iand, 1) := by decide +kernel
theorem dX9_pruned_58 : decode cX9_pruned 58 = .ok (.goto 4, 3) := by decide +kernel
theorem dX9_pruned_61 : decode cX9_pruned 61 = .ok (.iload_n 3, 1) := by decide +kernel
theorem dX9_pruned_62 : decode cX9_pruned 62 = .ok (.istore_n 3, 1) := by decide +kernel
theorem dX9_pruned_63 : decode cX9_pruned 63 = .ok (.iinc 4 (-1), 3) := by decide +kernel
theorem dX9_pruned_66 : decode cX9_pruned 66 = .ok (.goto (-38), 3) := by decide +kernel
theorem dX9_pruned_69 : decode cX9_pruned 69 = .ok (.iload_n 3, 1) := by decide +kernel
theorem dX9_pruned_70 : decode cX9_pruned 70 = .ok (.ireturn, 1) := by decide +kernel
theorem dX9_ones_0 : decode cX9_ones 0 = .ok (.iconst 0, 1) := by decide +kernel
theorem dX9_ones_1 : decode cX9_ones 1 = .ok (.istore_n 1, 1) := by decide +kernel
theorem dX9_ones_2 : decode cX9_ones 2 = .ok (.iconst 0, 1) := by decide +kernel
theorem dX9_ones_3 : decode cX9_ones 3 = .ok (.istore_n 2, 1) := by decide +kernel
theorem dX9_ones_4 : decode cX9_ones 4 = .ok (.iload_n 2, 1) := by decide +kernel
theorem dX9_ones_5 : decode cX9_ones 5 = .ok (.bipush 12, 2) := by decide +kernel
theorem dX9_ones_7 : decode cX9_ones 7 = .ok (.if_icmp .gt 17, 3) := by decide +kernel
theorem dX9_ones_10 : decode cX9_ones 10 = .ok (.iload_n 1, 1) := by decide +kernel
theorem dX9_ones_11 : decode cX9_ones 11 = .ok (.iload_n 0, 1) := by decide +kernel
theorem dX9_ones_12 : decode cX9_ones 12 = .ok (.iload_n 2, 1) := by decide +kernel
theorem dX9_ones_13 : decode cX9_ones 13 = .ok (.ishr, 1) := by decide +kernel
theorem dX9_ones_14 : decode cX9_ones 14 = .ok (.iconst 1, 1) := by decide +kernel
theorem dX9_ones_15 : decode cX9_ones 15 = .ok (.iand, 1) := by decide +kernel
theorem dX9_ones_16 : decode cX9_ones 16 = .ok (.iadd, 1) := by decide +kernel
theorem dX9_ones_17 : decode cX9_ones 17 = .ok (.istore_n 1, 1) := by decide +kernel
theorem dX9_ones_18 : decode cX9_ones 18 = .ok (.iinc 2 1, 3) := by decide +kernel
theorem dX9_ones_21 : decode cX9_ones 21 = .ok (.goto (-17), 3) := by decide +kernel
theorem dX9_ones_24 : decode cX9_ones 24 = .ok (.iload_n 1, 1) := by decide +kernel
theorem dX9_ones_25 : decode cX9_ones 25 = .ok (.ireturn, 1) := by decide +kernel
theorem dX9_fewest_0 : decode cX9_fewest 0 = .ok (.aload_n 0, 1) := by decide +kernel
theorem dX9_fewest_1 : decode cX9_fewest 1 = .ok (.aload_n 0, 1) := by decide +kernel
theorem dX9_fewest_2 : decode cX9_fewest 2 = .ok (.iload_n 1, 1) := by decide +kernel
theorem dX9_fewest_3 : decode cX9_fewest 3 = .ok (.iload_n 2, 1) := by decide +kernel
theorem dX9_fewest_4 : decode cX9_fewest 4 = .ok (.invokevirtual 335, 3) := by decide +kernel
theorem dX9_fewest_7 : decode cX9_fewest 7 = .ok (.invokevirtual 223, 3) := by decide +kernel
theorem dX9_fewest_10 : decode cX9_fewest 10 = .ok (.ifCond .eq 5, 3) := by decide +kernel
theorem dX9_fewest_13 : decode cX9_fewest 13 = .ok (.iconst (-1), 1) := by decide +kernel
theorem dX9_fewest_14 : decode cX9_fewest 14 = .ok (.ireturn, 1) := by decide +kernel
theorem dX9_fewest_15 : decode cX9_fewest 15 = .ok (.iconst (-1), 1) := by decide +kernel
theorem dX9_fewest_16 : decode cX9_fewest 16 = .ok (.istore_n 3, 1) := by decide +kernel
theorem dX9_fewest_17 : decode cX9_fewest 17 = .ok (.iconst 0, 1) := by decide +kernel
theorem dX9_fewest_18 : decode cX9_fewest 18 = .ok (.istore 4, 2) := by decide +kernel
theorem dX9_fewest_20 : decode cX9_fewest 20 = .ok (.iload 4, 2) := by decide +kernel
theorem dX9_fewest_22 : decode cX9_fewest 22 = .ok (.aload_n 0, 1) := by decide +kernel
theorem dX9_fewest_23 : decode cX9_fewest 23 = .ok (.invokevirtual 329, 3) := by decide +kernel
theorem dX9_fewest_26 : decode cX9_fewest 26 = .ok (.if_icmp .gt 40, 3) := by decide +kernel
theorem dX9_fewest_29 : decode cX9_fewest 29 = .ok (.iload_n 3, 1) := by decide +kernel
theorem dX9_fewest_30 : decode cX9_fewest 30 = .ok (.iconst (-1), 1) := by decide +kernel
theorem dX9_fewest_31 : decode cX9_fewest 31 = .ok (.if_icmp .eq 15, 3) := by decide +kernel
theorem dX9_fewest_34 : decode cX9_fewest 34 = .ok (.iload 4, 2) := by decide +kernel
theorem dX9_fewest_36 : decode cX9_fewest 36 = .ok (.invokestatic 338, 3) := by decide +kernel
theorem dX9_fewest_39 : decode cX9_fewest 39 = .ok (.iload_n 3, 1) := by decide +kernel
theorem dX9_fewest_40 : decode cX9_fewest 40 = .ok (.invokestatic 338, 3) := by decide +kernel
theorem dX9_fewest_43 : decode cX9_fewest 43 = .ok (.if_icmp .ge 17, 3) := by decide +kernel
theorem dX9_fewest_46 : decode cX9_fewest 46 = .ok (.aload_n 0, 1) := by decide +kernel
theorem dX9_fewest_47 : decode cX9_fewest 47 = .ok (.iload 4, 2) := by decide +kernel
theorem dX9_fewest_49 : decode cX9_fewest 49 = .ok (.iload_n 1, 1) := by decide +kernel
theorem dX9_fewest_50 : decode cX9_fewest 50 = .ok (.iload_n 2, 1) := by decide +kernel
theorem dX9_fewest_51 : decode cX9_fewest 51 = .ok (.invokevirtual 332, 3) := by decide +kernel
theorem dX9_fewest_54 : decode cX9_fewest 54 = .ok (.ifCond .eq 6, 3) := by decide +kernel
theorem dX9_fewest_57 : decode cX9_fewest 57 = .ok (.iload 4, 2) := by decide +kernel
theorem dX9_fewest_59 : decode cX9_fewest 59 = .ok (.istore_n 3, 1) := by decide +kernel
theorem dX9_fewest_60 : decode cX9_fewest 60 = .ok (.iinc 4 1, 3) := by decide +kernel
theorem dX9_fewest_63 : decode cX9_fewest 63 = .ok (.goto (-43), 3) := by decide +kernel
theorem dX9_fewest_66 : decode cX9_fewest 66 = .ok (.iload_n 3, 1) := by decide +kernel
theorem dX9_fewest_67 : decode cX9_fewest 67 = .ok (.ireturn, 1) := by decide +kernel
theorem dX9_needed_0 : decode cX9_needed 0 = .ok (.aload_n 0, 1) := by decide +kernel
theorem dX9_needed_1 : decode cX9_needed 1 = .ok (.aload_n 0, 1) := by decide +kernel
theorem dX9_needed_2 : decode cX9_needed 2 = .ok (.iload_n 1, 1) := by decide +kernel
theorem dX9_needed_3 : decode cX9_needed 3 = .ok (.iload_n 2, 1) := by decide +kernel
theorem dX9_needed_4 : decode cX9_needed 4 = .ok (.invokevirtual 335, 3) := by decide +kernel
theorem dX9_needed_7 : decode cX9_needed 7 = .ok (.invokevirtual 223, 3) := by decide +kernel
theorem dX9_needed_10 : decode cX9_needed 10 = .ok (.ifCond .eq 5, 3) := by decide +kernel
theorem dX9_needed_13 : decode cX9_needed 13 = .ok (.iconst (-1), 1) := by decide +kernel
theorem dX9_needed_14 : decode cX9_needed 14 = .ok (.ireturn, 1) := by decide +kernel
theorem dX9_needed_15 : decode cX9_needed 15 = .ok (.iconst 0, 1) := by decide +kernel
theorem dX9_needed_16 : decode cX9_needed 16 = .ok (.istore_n 3, 1) := by decide +kernel
theorem dX9_needed_17 : decode cX9_needed 17 = .ok (.iconst 0, 1) := by decide +kernel
theorem dX9_needed_18 : decode cX9_needed 18 = .ok (.istore 4, 2) := by decide +kernel
theorem dX9_needed_20 : decode cX9_needed 20 = .ok (.iload 4, 2) := by decide +kernel
theorem dX9_needed_22 : decode cX9_needed 22 = .ok (.aload_n 0, 1) := by decide +kernel
theorem dX9_needed_23 : decode cX9_needed 23 = .ok (.getfield 287, 3) := by decide +kernel
theorem dX9_needed_26 : decode cX9_needed 26 = .ok (.if_icmp .ge 40, 3) := by decide +kernel
theorem dX9_needed_29 : decode cX9_needed 29 = .ok (.iload_n 3, 1) := by decide +kernel
theorem dX9_needed_30 : decode cX9_needed 30 = .ok (.aload_n 0, 1) := by decide +kernel
theorem dX9_needed_31 : decode cX9_needed 31 = .ok (.aload_n 0, 1) := by decide +kernel
theorem dX9_needed_32 : decode cX9_needed 32 = .ok (.invokevirtual 329, 3) := by decide +kernel
theorem dX9_needed_35 : decode cX9_needed 35 = .ok (.iconst 1, 1) := by decide +kernel
theorem dX9_needed_36 : decode cX9_needed 36 = .ok (.iload 4, 2) := by decide +kernel
theorem dX9_needed_38 : decode cX9_needed 38 = .ok (.ishl, 1) := by decide +kernel
theorem dX9_needed_39 : decode cX9_needed 39 = .ok (.iconst (-1), 1) := by decide +kernel
theorem dX9_needed_40 : decode cX9_needed 40 = .ok (.ixor, 1) := by decide +kernel
theorem dX9_needed_41 : decode cX9_needed 41 = .ok (.iand, 1) := by decide +kernel
theorem dX9_needed_42 : decode cX9_needed 42 = .ok (.iload_n 1, 1) := by decide +kernel
theorem dX9_needed_43 : decode cX9_needed 43 = .ok (.iload_n 2, 1) := by decide +kernel
theorem dX9_needed_44 : decode cX9_needed 44 = .ok (.invokevirtual 332, 3) := by decide +kernel
theorem dX9_needed_47 : decode cX9_needed 47 = .ok (.ifCond .eq 7, 3) := by decide +kernel
theorem dX9_needed_50 : decode cX9_needed 50 = .ok (.iconst 0, 1) := by decide +kernel
theorem dX9_needed_51 : decode cX9_needed 51 = .ok (.goto 7, 3) := by decide +kernel
theorem dX9_needed_54 : decode cX9_needed 54 = .ok (.iconst 1, 1) := by decide +kernel
theorem dX9_needed_55 : decode cX9_needed 55 = .ok (.iload 4, 2) := by decide +kernel
theorem dX9_needed_57 : decode cX9_needed 57 = .ok (.ishl, 1) := by decide +kernel
theorem dX9_needed_58 : decode cX9_needed 58 = .ok (.ior, 1) := by decide +kernel
theorem dX9_needed_59 : decode cX9_needed 59 = .ok (.istore_n 3, 1) := by decide +kernel
theorem dX9_needed_60 : decode cX9_needed 60 = .ok (.iinc 4 1, 3) := by decide +kernel
theorem dX9_needed_63 : decode cX9_needed 63 = .ok (.goto (-43), 3) := by decide +kernel
theorem dX9_needed_66 : decode cX9_needed 66 = .ok (.iload_n 3, 1) := by decide +kernel
theorem dX9_needed_67 : decode cX9_needed 67 = .ok (.ireturn, 1) := by decide +kernel
theorem dX9_many_0 : decode cX9_many 0 = .ok (.aload_n 0, 1) := by decide +kernel
theorem dX9_many_1 : decode cX9_many 1 = .ok (.aload_n 0, 1) := by decide +kernel
theorem dX9_many_2 : decode cX9_many 2 = .ok (.iload_n 1, 1) := by decide +kernel
theorem dX9_many_3 : decode cX9_many 3 = .ok (.iload_n 2, 1) := by decide +kernel
theorem dX9_many_4 : decode cX9_many 4 = .ok (.invokevirtual 335, 3) := by decide +kernel
theorem dX9_many_7 : decode cX9_many 7 = .ok (.invokevirtual 223, 3) := by decide +kernel
theorem dX9_many_10 : decode cX9_many 10 = .ok (.ifCond .eq 5, 3) := by decide +kernel
theorem dX9_many_13 : decode cX9_many 13 = .ok (.iconst (-1), 1) := by decide +kernel
theorem dX9_many_14 : decode cX9_many 14 = .ok (.ireturn, 1) := by decide +kernel
theorem dX9_many_15 : decode cX9_many 15 = .ok (.iconst 0, 1) := by decide +kernel
theorem dX9_many_16 : decode cX9_many 16 = .ok (.istore_n 3, 1) := by decide +kernel
theorem dX9_many_17 : decode cX9_many 17 = .ok (.iconst 0, 1) := by decide +kernel
theorem dX9_many_18 : decode cX9_many 18 = .ok (.istore 4, 2) := by decide +kernel
theorem dX9_many_20 : decode cX9_many 20 = .ok (.iload 4, 2) := by decide +kernel
theorem dX9_many_22 : decode cX9_many 22 = .ok (.aload_n 0, 1) := by decide +kernel
theorem dX9_many_23 : decode cX9_many 23 = .ok (.invokevirtual 329, 3) := by decide +kernel
theorem dX9_many_26 : decode cX9_many 26 = .ok (.if_icmp .gt 103, 3) := by decide +kernel
theorem dX9_many_29 : decode cX9_many 29 = .ok (.aload_n 0, 1) := by decide +kernel
theorem dX9_many_30 : decode cX9_many 30 = .ok (.getfield 77, 3) := by decide +kernel
theorem dX9_many_33 : decode cX9_many 33 = .ok (.iload 4, 2) := by decide +kernel
theorem dX9_many_35 : decode cX9_many 35 = .ok (.aload_n 0, 1) := by decide +kernel
theorem dX9_many_36 : decode cX9_many 36 = .ok (.iload 4, 2) := by decide +kernel
theorem dX9_many_38 : decode cX9_many 38 = .ok (.iload_n 1, 1) := by decide +kernel
theorem dX9_many_39 : decode cX9_many 39 = .ok (.iload_n 2, 1) := by decide +kernel
theorem dX9_many_40 : decode cX9_many 40 = .ok (.invokevirtual 332, 3) := by decide +kernel
theorem dX9_many_43 : decode cX9_many 43 = .ok (.bastore, 1) := by decide +kernel
theorem dX9_many_44 : decode cX9_many 44 = .ok (.aload_n 0, 1) := by decide +kernel
theorem dX9_many_45 : decode cX9_many 45 = .ok (.getfield 77, 3) := by decide +kernel
theorem dX9_many_48 : decode cX9_many 48 = .ok (.iload 4, 2) := by decide +kernel
theorem dX9_many_50 : decode cX9_many 50 = .ok (.baload, 1) := by decide +kernel
theorem dX9_many_51 : decode cX9_many 51 = .ok (.istore 5, 2) := by decide +kernel
theorem dX9_many_53 : decode cX9_many 53 = .ok (.iconst 0, 1) := by decide +kernel
theorem dX9_many_54 : decode cX9_many 54 = .ok (.istore 6, 2) := by decide +kernel
theorem dX9_many_56 : decode cX9_many 56 = .ok (.iload 6, 2) := by decide +kernel
theorem dX9_many_58 : decode cX9_many 58 = .ok (.aload_n 0, 1) := by decide +kernel
theorem dX9_many_59 : decode cX9_many 59 = .ok (.getfield 287, 3) := by decide +kernel
theorem dX9_many_62 : decode cX9_many 62 = .ok (.if_icmp .ge 48, 3) := by decide +kernel
theorem dX9_many_65 : decode cX9_many 65 = .ok (.iload 5, 2) := by decide +kernel
theorem dX9_many_67 : decode cX9_many 67 = .ok (.ifCond .eq 34, 3) := by decide +kernel
theorem dX9_many_70 : decode cX9_many 70 = .ok (.iload 4, 2) := by decide +kernel
theorem dX9_many_72 : decode cX9_many 72 = .ok (.iload 6, 2) := by decide +kernel
theorem dX9_many_74 : decode cX9_many 74 = .ok (.ishr, 1) := by decide +kernel
theorem dX9_many_75 : decode cX9_many 75 = .ok (.iconst 1, 1) := by decide +kernel
theorem dX9_many_76 : decode cX9_many 76 = .ok (.iand, 1) := by decide +kernel
theorem dX9_many_77 : decode cX9_many 77 = .ok (.ifCond .eq 20, 3) := by decide +kernel
theorem dX9_many_80 : decode cX9_many 80 = .ok (.aload_n 0, 1) := by decide +kernel
theorem dX9_many_81 : decode cX9_many 81 = .ok (.getfield 77, 3) := by decide +kernel
theorem dX9_many_84 : decode cX9_many 84 = .ok (.iload 4, 2) := by decide +kernel
theorem dX9_many_86 : decode cX9_many 86 = .ok (.iconst 1, 1) := by decide +kernel
theorem dX9_many_87 : decode cX9_many 87 = .ok (.iload 6, 2) := by decide +kernel
theorem dX9_many_89 : decode cX9_many 89 = .ok (.ishl, 1) := by decide +kernel
theorem dX9_many_90 : decode cX9_many 90 = .ok (.iconst (-1), 1) := by decide +kernel
theorem dX9_many_91 : decode cX9_many 91 = .ok (.ixor, 1) := by decide +kernel
theorem dX9_many_92 : decode cX9_many 92 = .ok (.iand, 1) := by decide +kernel
theorem dX9_many_93 : decode cX9_many 93 = .ok (.baload, 1) := by decide +kernel
theorem dX9_many_94 : decode cX9_many 94 = .ok (.ifCond .ne 7, 3) := by decide +kernel
theorem dX9_many_97 : decode cX9_many 97 = .ok (.iconst 1, 1) := by decide +kernel
theorem dX9_many_98 : decode cX9_many 98 = .ok (.goto 4, 3) := by decide +kernel
theorem dX9_many_101 : decode cX9_many 101 = .ok (.iconst 0, 1) := by decide +kernel
theorem dX9_many_102 : decode cX9_many 102 = .ok (.istore 5, 2) := by decide +kernel
theorem dX9_many_104 : decode cX9_many 104 = .ok (.iinc 6 1, 3) := by decide +kernel
theorem dX9_many_107 : decode cX9_many 107 = .ok (.goto (-51), 3) := by decide +kernel
theorem dX9_many_110 : decode cX9_many 110 = .ok (.iload_n 3, 1) := by decide +kernel
theorem dX9_many_111 : decode cX9_many 111 = .ok (.iload 5, 2) := by decide +kernel
theorem dX9_many_113 : decode cX9_many 113 = .ok (.ifCond .eq 7, 3) := by decide +kernel
theorem dX9_many_116 : decode cX9_many 116 = .ok (.iconst 1, 1) := by decide +kernel
theorem dX9_many_117 : decode cX9_many 117 = .ok (.goto 4, 3) := by decide +kernel
theorem dX9_many_120 : decode cX9_many 120 = .ok (.iconst 0, 1) := by decide +kernel
theorem dX9_many_121 : decode cX9_many 121 = .ok (.iadd, 1) := by decide +kernel
theorem dX9_many_122 : decode cX9_many 122 = .ok (.istore_n 3, 1) := by decide +kernel
theorem dX9_many_123 : decode cX9_many 123 = .ok (.iinc 4 1, 3) := by decide +kernel
theorem dX9_many_126 : decode cX9_many 126 = .ok (.goto (-106), 3) := by decide +kernel
theorem dX9_many_129 : decode cX9_many 129 = .ok (.iload_n 3, 1) := by decide +kernel
theorem dX9_many_130 : decode cX9_many 130 = .ok (.ireturn, 1) := by decide +kernel
theorem dX9_base_0 : decode cX9_base 0 = .ok (.aload_n 0, 1) := by decide +kernel
theorem dX9_base_1 : decode cX9_base 1 = .ok (.iconst 0, 1) := by decide +kernel
theorem dX9_base_2 : decode cX9_base 2 = .ok (.putfield 103, 3) := by decide +kernel
theorem dX9_base_5 : decode cX9_base 5 = .ok (.aload_n 0, 1) := by decide +kernel
theorem dX9_base_6 : decode cX9_base 6 = .ok (.invokevirtual 329, 3) := by decide +kernel
theorem dX9_base_9 : decode cX9_base 9 = .ok (.istore_n 1, 1) := by decide +kernel
theorem dX9_base_10 : decode cX9_base 10 = .ok (.aload_n 0, 1) := by decide +kernel
theorem dX9_base_11 : decode cX9_base 11 = .ok (.getfield 287, 3) := by decide +kernel
theorem dX9_base_14 : decode cX9_base 14 = .ok (.iconst 1, 1) := by decide +kernel
theorem dX9_base_15 : decode cX9_base 15 = .ok (.isub, 1) := by decide +kernel
theorem dX9_base_16 : decode cX9_base 16 = .ok (.istore_n 2, 1) := by decide +kernel
theorem dX9_base_17 : decode cX9_base 17 = .ok (.iload_n 2, 1) := by decide +kernel
theorem dX9_base_18 : decode cX9_base 18 = .ok (.ifCond .lt 47, 3) := by decide +kernel
theorem dX9_base_21 : decode cX9_base 21 = .ok (.aload_n 0, 1) := by decide +kernel
theorem dX9_base_22 : decode cX9_base 22 = .ok (.iload_n 1, 1) := by decide +kernel
theorem dX9_base_23 : decode cX9_base 23 = .ok (.iconst 1, 1) := by decide +kernel
theorem dX9_base_24 : decode cX9_base 24 = .ok (.iload_n 2, 1) := by decide +kernel
theorem dX9_base_25 : decode cX9_base 25 = .ok (.ishl, 1) := by decide +kernel
theorem dX9_base_26 : decode cX9_base 26 = .ok (.iconst (-1), 1) := by decide +kernel
theorem dX9_base_27 : decode cX9_base 27 = .ok (.ixor, 1) := by decide +kernel
theorem dX9_base_28 : decode cX9_base 28 = .ok (.iand, 1) := by decide +kernel
theorem dX9_base_29 : decode cX9_base 29 = .ok (.aload_n 0, 1) := by decide +kernel
theorem dX9_base_30 : decode cX9_base 30 = .ok (.getfield 38, 3) := by decide +kernel
theorem dX9_base_33 : decode cX9_base 33 = .ok (.iload_n 2, 1) := by decide +kernel
theorem dX9_base_34 : decode cX9_base 34 = .ok (.iaload, 1) := by decide +kernel
theorem dX9_base_35 : decode cX9_base 35 = .ok (.aload_n 0, 1) := by decide +kernel
theorem dX9_base_36 : decode cX9_base 36 = .ok (.getfield 41, 3) := by decide +kernel
theorem dX9_base_39 : decode cX9_base 39 = .ok (.iload_n 2, 1) := by decide +kernel
theorem dX9_base_40 : decode cX9_base 40 = .ok (.iaload, 1) := by decide +kernel
theorem dX9_base_41 : decode cX9_base 41 = .ok (.invokevirtual 332, 3) := by decide +kernel
theorem dX9_base_44 : decode cX9_base 44 = .ok (.ifCond .eq 13, 3) := by decide +kernel
theorem dX9_base_47 : decode cX9_base 47 = .ok (.iload_n 1, 1) := by decide +kernel
theorem dX9_base_48 : decode cX9_base 48 = .ok (.iconst 1, 1) := by decide +kernel
theorem dX9_base_49 : decode cX9_base 49 = .ok (.iload_n 2, 1) := by decide +kernel
theorem dX9_base_50 : decode cX9_base 50 = .ok (.ishl, 1) := by decide +kernel
theorem dX9_base_51 : decode cX9_base 51 = .ok (.iconst (-1), 1) := by decide +kernel
theorem dX9_base_52 : decode cX9_base 52 = .ok (.ixor, 1) := by decide +kernel
theorem dX9_base_53 : decode cX9_base 53 = .ok (.iand, 1) := by decide +kernel
theorem dX9_base_54 : decode cX9_base 54 = .ok (.goto 4, 3) := by decide +kernel
theorem dX9_base_57 : decode cX9_base 57 = .ok (.iload_n 1, 1) := by decide +kernel
theorem dX9_base_58 : decode cX9_base 58 = .ok (.istore_n 1, 1) := by decide +kernel
theorem dX9_base_59 : decode cX9_base 59 = .ok (.iinc 2 (-1), 3) := by decide +kernel
theorem dX9_base_62 : decode cX9_base 62 = .ok (.goto (-45), 3) := by decide +kernel
theorem dX9_base_65 : decode cX9_base 65 = .ok (.iload_n 1, 1) := by decide +kernel
theorem dX9_base_66 : decode cX9_base 66 = .ok (.ireturn, 1) := by decide +kernel
theorem dX9_proves_0 : decode cX9_proves 0 = .ok (.aload_n 0, 1) := by decide +kernel
theorem dX9_proves_1 : decode cX9_proves 1 = .ok (.iload_n 2, 1) := by decide +kernel
theorem dX9_proves_2 : decode cX9_proves 2 = .ok (.invokevirtual 317, 3) := by decide +kernel
theorem dX9_proves_5 : decode cX9_proves 5 = .ok (.ifCond .eq 15, 3) := by decide +kernel
theorem dX9_proves_8 : decode cX9_proves 8 = .ok (.aload_n 0, 1) := by decide +kernel
theorem dX9_proves_9 : decode cX9_proves 9 = .ok (.iload_n 3, 1) := by decide +kernel
theorem dX9_proves_10 : decode cX9_proves 10 = .ok (.invokevirtual 317, 3) := by decide +kernel
theorem dX9_proves_13 : decode cX9_proves 13 = .ok (.ifCond .eq 7, 3) := by decide +kernel
theorem dX9_proves_16 : decode cX9_proves 16 = .ok (.iconst 1, 1) := by decide +kernel
theorem dX9_proves_17 : decode cX9_proves 17 = .ok (.goto 4, 3) := by decide +kernel
theorem dX9_proves_20 : decode cX9_proves 20 = .ok (.iconst 0, 1) := by decide +kernel
theorem dX9_proves_21 : decode cX9_proves 21 = .ok (.istore 4, 2) := by decide +kernel
theorem dX9_proves_23 : decode cX9_proves 23 = .ok (.aload_n 0, 1) := by decide +kernel
theorem dX9_proves_24 : decode cX9_proves 24 = .ok (.iload 4, 2) := by decide +kernel
theorem dX9_proves_26 : decode cX9_proves 26 = .ok (.ifCond .ne 7, 3) := by decide +kernel
theorem dX9_proves_29 : decode cX9_proves 29 = .ok (.iconst 1, 1) := by decide +kernel
theorem dX9_proves_30 : decode cX9_proves 30 = .ok (.goto 20, 3) := by decide +kernel
theorem dX9_proves_33 : decode cX9_proves 33 = .ok (.iload_n 1, 1) := by decide +kernel
theorem dX9_proves_34 : decode cX9_proves 34 = .ok (.iconst 0, 1) := by decide +kernel
theorem dX9_proves_35 : decode cX9_proves 35 = .ok (.aload_n 0, 1) := by decide +kernel
theorem dX9_proves_36 : decode cX9_proves 36 = .ok (.invokevirtual 329, 3) := by decide +kernel
theorem dX9_proves_39 : decode cX9_proves 39 = .ok (.invokestatic 132, 3) := by decide +kernel
theorem dX9_proves_42 : decode cX9_proves 42 = .ok (.ifCond .eq 7, 3) := by decide +kernel
theorem dX9_proves_45 : decode cX9_proves 45 = .ok (.iconst 0, 1) := by decide +kernel
theorem dX9_proves_46 : decode cX9_proves 46 = .ok (.goto 4, 3) := by decide +kernel
theorem dX9_proves_49 : decode cX9_proves 49 = .ok (.iconst 2, 1) := by decide +kernel
theorem dX9_proves_50 : decode cX9_proves 50 = .ok (.invokevirtual 223, 3) := by decide +kernel
theorem dX9_proves_53 : decode cX9_proves 53 = .ok (.ifCond .eq 5, 3) := by decide +kernel
theorem dX9_proves_56 : decode cX9_proves 56 = .ok (.iconst (-1), 1) := by decide +kernel
theorem dX9_proves_57 : decode cX9_proves 57 = .ok (.ireturn, 1) := by decide +kernel
theorem dX9_proves_58 : decode cX9_proves 58 = .ok (.aload_n 0, 1) := by decide +kernel
theorem dX9_proves_59 : decode cX9_proves 59 = .ok (.iload_n 1, 1) := by decide +kernel
theorem dX9_proves_60 : decode cX9_proves 60 = .ok (.iload_n 2, 1) := by decide +kernel
theorem dX9_proves_61 : decode cX9_proves 61 = .ok (.iload_n 3, 1) := by decide +kernel
theorem dX9_proves_62 : decode cX9_proves 62 = .ok (.invokevirtual 332, 3) := by decide +kernel
theorem dX9_proves_65 : decode cX9_proves 65 = .ok (.ifCond .eq 7, 3) := by decide +kernel
theorem dX9_proves_68 : decode cX9_proves 68 = .ok (.iconst 1, 1) := by decide +kernel
theorem dX9_proves_69 : decode cX9_proves 69 = .ok (.goto 4, 3) := by decide +kernel
theorem dX9_proves_72 : decode cX9_proves 72 = .ok (.iconst 0, 1) := by decide +kernel
theorem dX9_proves_73 : decode cX9_proves 73 = .ok (.ireturn, 1) := by decide +kernel
theorem dX9_since_0 : decode cX9_since 0 = .ok (.aload_n 0, 1) := by decide +kernel
theorem dX9_since_1 : decode cX9_since 1 = .ok (.aload_n 0, 1) := by decide +kernel
theorem dX9_since_2 : decode cX9_since 2 = .ok (.iload_n 1, 1) := by decide +kernel
theorem dX9_since_3 : decode cX9_since 3 = .ok (.iload_n 2, 1) := by decide +kernel
theorem dX9_since_4 : decode cX9_since 4 = .ok (.invokevirtual 335, 3) := by decide +kernel
theorem dX9_since_7 : decode cX9_since 7 = .ok (.invokevirtual 223, 3) := by decide +kernel
theorem dX9_since_10 : decode cX9_since 10 = .ok (.ifCond .eq 5, 3) := by decide +kernel
theorem dX9_since_13 : decode cX9_since 13 = .ok (.iconst (-1), 1) := by decide +kernel
theorem dX9_since_14 : decode cX9_since 14 = .ok (.ireturn, 1) := by decide +kernel
theorem dX9_since_15 : decode cX9_since 15 = .ok (.iconst 0, 1) := by decide +kernel
theorem dX9_since_16 : decode cX9_since 16 = .ok (.istore_n 3, 1) := by decide +kernel
theorem dX9_since_17 : decode cX9_since 17 = .ok (.aload_n 0, 1) := by decide +kernel
theorem dX9_since_18 : decode cX9_since 18 = .ok (.iconst 1, 1) := by decide +kernel
theorem dX9_since_19 : decode cX9_since 19 = .ok (.iload_n 3, 1) := by decide +kernel
theorem dX9_since_20 : decode cX9_since 20 = .ok (.ishl, 1) := by decide +kernel
theorem dX9_since_21 : decode cX9_since 21 = .ok (.iconst 1, 1) := by decide +kernel
theorem dX9_since_22 : decode cX9_since 22 = .ok (.isub, 1) := by decide +kernel
theorem dX9_since_23 : decode cX9_since 23 = .ok (.iload_n 1, 1) := by decide +kernel
theorem dX9_since_24 : decode cX9_since 24 = .ok (.iload_n 2, 1) := by decide +kernel
theorem dX9_since_25 : decode cX9_since 25 = .ok (.invokevirtual 332, 3) := by decide +kernel
theorem dX9_since_28 : decode cX9_since 28 = .ok (.ifCond .ne 9, 3) := by decide +kernel
theorem dX9_since_31 : decode cX9_since 31 = .ok (.iinc 3 1, 3) := by decide +kernel
theorem dX9_since_34 : decode cX9_since 34 = .ok (.goto (-17), 3) := by decide +kernel
theorem dX9_since_37 : decode cX9_since 37 = .ok (.iload_n 3, 1) := by decide +kernel
theorem dX9_since_38 : decode cX9_since 38 = .ok (.ireturn, 1) := by decide +kernel
theorem dX9_level_0 : decode cX9_level 0 = .ok (.aload_n 0, 1) := by decide +kernel
theorem dX9_level_1 : decode cX9_level 1 = .ok (.aload_n 0, 1) := by decide +kernel
theorem dX9_level_2 : decode cX9_level 2 = .ok (.iload_n 1, 1) := by decide +kernel
theorem dX9_level_3 : decode cX9_level 3 = .ok (.iload_n 2, 1) := by decide +kernel
theorem dX9_level_4 : decode cX9_level 4 = .ok (.invokevirtual 335, 3) := by decide +kernel
theorem dX9_level_7 : decode cX9_level 7 = .ok (.invokevirtual 223, 3) := by decide +kernel
theorem dX9_level_10 : decode cX9_level 10 = .ok (.ifCond .eq 5, 3) := by decide +kernel
theorem dX9_level_13 : decode cX9_level 13 = .ok (.iconst (-1), 1) := by decide +kernel
theorem dX9_level_14 : decode cX9_level 14 = .ok (.ireturn, 1) := by decide +kernel
theorem dX9_level_15 : decode cX9_level 15 = .ok (.iconst 0, 1) := by decide +kernel
theorem dX9_level_16 : decode cX9_level 16 = .ok (.istore_n 3, 1) := by decide +kernel
theorem dX9_level_17 : decode cX9_level 17 = .ok (.iload_n 3, 1) := by decide +kernel
theorem dX9_level_18 : decode cX9_level 18 = .ok (.aload_n 0, 1) := by decide +kernel
theorem dX9_level_19 : decode cX9_level 19 = .ok (.getfield 250, 3) := by decide +kernel
theorem dX9_level_22 : decode cX9_level 22 = .ok (.if_icmp .ge 16, 3) := by decide +kernel
theorem dX9_level_25 : decode cX9_level 25 = .ok (.aload_n 0, 1) := by decide +kernel
theorem dX9_level_26 : decode cX9_level 26 = .ok (.getfield 81, 3) := by decide +kernel
theorem dX9_level_29 : decode cX9_level 29 = .ok (.iload_n 3, 1) := by decide +kernel
theorem dX9_level_30 : decode cX9_level 30 = .ok (.iload_n 3, 1) := by decide +kernel
theorem dX9_level_31 : decode cX9_level 31 = .ok (.iastore, 1) := by decide +kernel
theorem dX9_level_32 : decode cX9_level 32 = .ok (.iinc 3 1, 3) := by decide +kernel
theorem dX9_level_35 : decode cX9_level 35 = .ok (.goto (-18), 3) := by decide +kernel
theorem dX9_level_38 : decode cX9_level 38 = .ok (.iconst 0, 1) := by decide +kernel
theorem dX9_level_39 : decode cX9_level 39 = .ok (.istore_n 3, 1) := by decide +kernel
theorem dX9_level_40 : decode cX9_level 40 = .ok (.iload_n 3, 1) := by decide +kernel
theorem dX9_level_41 : decode cX9_level 41 = .ok (.aload_n 0, 1) := by decide +kernel
theorem dX9_level_42 : decode cX9_level 42 = .ok (.getfield 287, 3) := by decide +kernel
theorem dX9_level_45 : decode cX9_level 45 = .ok (.if_icmp .ge 29, 3) := by decide +kernel
theorem dX9_level_48 : decode cX9_level 48 = .ok (.aload_n 0, 1) := by decide +kernel
theorem dX9_level_49 : decode cX9_level 49 = .ok (.aload_n 0, 1) := by decide +kernel
theorem dX9_level_50 : decode cX9_level 50 = .ok (.getfield 81, 3) := by decide +kernel
theorem dX9_level_53 : decode cX9_level 53 = .ok (.aload_n 0, 1) := by decide +kernel
theorem dX9_level_54 : decode cX9_level 54 = .ok (.getfield 38, 3) := by decide +kernel
theorem dX9_level_57 : decode cX9_level 57 = .ok (.iload_n 3, 1) := by decide +kernel
theorem dX9_level_58 : decode cX9_level 58 = .ok (.iaload, 1) := by decide +kernel
theorem dX9_level_59 : decode cX9_level 59 = .ok (.aload_n 0, 1) := by decide +kernel
theorem dX9_level_60 : decode cX9_level 60 = .ok (.getfield 41, 3) := by decide +kernel
theorem dX9_level_63 : decode cX9_level 63 = .ok (.iload_n 3, 1) := by decide +kernel
theorem dX9_level_64 : decode cX9_level 64 = .ok (.iaload, 1) := by decide +kernel
theorem dX9_level_65 : decode cX9_level 65 = .ok (.invokevirtual 269, 3) := by decide +kernel
theorem dX9_level_68 : decode cX9_level 68 = .ok (.iinc 3 1, 3) := by decide +kernel
theorem dX9_level_71 : decode cX9_level 71 = .ok (.goto (-31), 3) := by decide +kernel
theorem dX9_level_74 : decode cX9_level 74 = .ok (.iconst 0, 1) := by decide +kernel
theorem dX9_level_75 : decode cX9_level 75 = .ok (.istore_n 3, 1) := by decide +kernel
theorem dX9_level_76 : decode cX9_level 76 = .ok (.aload_n 0, 1) := by decide +kernel
theorem dX9_level_77 : decode cX9_level 77 = .ok (.getfield 81, 3) := by decide +kernel
theorem dX9_level_80 : decode cX9_level 80 = .ok (.iload_n 1, 1) := by decide +kernel
theorem dX9_level_81 : decode cX9_level 81 = .ok (.iaload, 1) := by decide +kernel
theorem dX9_level_82 : decode cX9_level 82 = .ok (.aload_n 0, 1) := by decide +kernel
theorem dX9_level_83 : decode cX9_level 83 = .ok (.getfield 81, 3) := by decide +kernel
theorem dX9_level_86 : decode cX9_level 86 = .ok (.iload_n 2, 1) := by decide +kernel
theorem dX9_level_87 : decode cX9_level 87 = .ok (.iaload, 1) := by decide +kernel
theorem dX9_level_88 : decode cX9_level 88 = .ok (.if_icmp .eq 107, 3) := by decide +kernel
theorem dX9_level_91 : decode cX9_level 91 = .ok (.iconst 0, 1) := by decide +kernel
theorem dX9_level_92 : decode cX9_level 92 = .ok (.istore 4, 2) := by decide +kernel
theorem dX9_level_94 : decode cX9_level 94 = .ok (.iload 4, 2) := by decide +kernel
theorem dX9_level_96 : decode cX9_level 96 = .ok (.aload_n 0, 1) := by decide +kernel
theorem dX9_level_97 : decode cX9_level 97 = .ok (.getfield 250, 3) := by decide +kernel
theorem dX9_level_100 : decode cX9_level 100 = .ok (.if_icmp .ge 23, 3) := by decide +kernel
theorem dX9_level_103 : decode cX9_level 103 = .ok (.aload_n 0, 1) := by decide +kernel
theorem dX9_level_104 : decode cX9_level 104 = .ok (.getfield 84, 3) := by decide +kernel
theorem dX9_level_107 : decode cX9_level 107 = .ok (.iload 4, 2) := by decide +kernel
theorem dX9_level_109 : decode cX9_level 109 = .ok (.aload_n 0, 1) := by decide +kernel
theorem dX9_level_110 : decode cX9_level 110 = .ok (.getfield 81, 3) := by decide +kernel
theorem dX9_level_113 : decode cX9_level 113 = .ok (.iload 4, 2) := by decide +kernel
theorem dX9_level_115 : decode cX9_level 115 = .ok (.iaload, 1) := by decide +kernel
theorem dX9_level_116 : decode cX9_level 116 = .ok (.iastore, 1) := by decide +kernel
theorem dX9_level_117 : decode cX9_level 117 = .ok (.iinc 4 1, 3) := by decide +kernel
theorem dX9_level_120 : decode cX9_level 120 = .ok (.goto (-26), 3) := by decide +kernel
theorem dX9_level_123 : decode cX9_level 123 = .ok (.iconst 0, 1) := by decide +kernel
theorem dX9_level_124 : decode cX9_level 124 = .ok (.istore 4, 2) := by decide +kernel
theorem dX9_level_126 : decode cX9_level 126 = .ok (.iload 4, 2) := by decide +kernel
theorem dX9_level_128 : decode cX9_level 128 = .ok (.aload_n 0, 1) := by decide +kernel
theorem dX9_level_129 : decode cX9_level 129 = .ok (.getfield 250, 3) := by decide +kernel
theorem dX9_level_132 : decode cX9_level 132 = .ok (.if_icmp .ge 57, 3) := by decide +kernel
theorem dX9_level_135 : decode cX9_level 135 = .ok (.iload 4, 2) := by decide +kernel
theorem dX9_level_137 : decode cX9_level 137 = .ok (.iconst 1, 1) := by decide +kernel
theorem dX9_level_138 : decode cX9_level 138 = .ok (.iadd, 1) := by decide +kernel
theorem dX9_level_139 : decode cX9_level 139 = .ok (.istore 5, 2) := by decide +kernel
theorem dX9_level_141 : decode cX9_level 141 = .ok (.iload 5, 2) := by decide +kernel
theorem dX9_level_143 : decode cX9_level 143 = .ok (.aload_n 0, 1) := by decide +kernel
theorem dX9_level_144 : decode cX9_level 144 = .ok (.getfield 250, 3) := by decide +kernel
theorem dX9_level_147 : decode cX9_level 147 = .ok (.if_icmp .ge 36, 3) := by decide +kernel
theorem dX9_level_150 : decode cX9_level 150 = .ok (.aload_n 0, 1) := by decide +kernel
theorem dX9_level_151 : decode cX9_level 151 = .ok (.aload_n 0, 1) := by decide +kernel
theorem dX9_level_152 : decode cX9_level 152 = .ok (.getfield 84, 3) := by decide +kernel
theorem dX9_level_155 : decode cX9_level 155 = .ok (.iload 4, 2) := by decide +kernel
theorem dX9_level_157 : decode cX9_level 157 = .ok (.iload 5, 2) := by decide +kernel
theorem dX9_level_159 : decode cX9_level 159 = .ok (.invokevirtual 273, 3) := by decide +kernel
theorem dX9_level_162 : decode cX9_level 162 = .ok (.ifCond .eq 15, 3) := by decide +kernel
theorem dX9_level_165 : decode cX9_level 165 = .ok (.aload_n 0, 1) := by decide +kernel
theorem dX9_level_166 : decode cX9_level 166 = .ok (.aload_n 0, 1) := by decide +kernel
theorem dX9_level_167 : decode cX9_level 167 = .ok (.getfield 81, 3) := by decide +kernel
theorem dX9_level_170 : decode cX9_level 170 = .ok (.iload 4, 2) := by decide +kernel
theorem dX9_level_172 : decode cX9_level 172 = .ok (.iload 5, 2) := by decide +kernel
theorem dX9_level_174 : decode cX9_level 174 = .ok (.invokevirtual 269, 3) := by decide +kernel
theorem dX9_level_177 : decode cX9_level 177 = .ok (.iinc 5 1, 3) := by decide +kernel
theorem dX9_level_180 : decode cX9_level 180 = .ok (.goto (-39), 3) := by decide +kernel
theorem dX9_level_183 : decode cX9_level 183 = .ok (.iinc 4 1, 3) := by decide +kernel
theorem dX9_level_186 : decode cX9_level 186 = .ok (.goto (-60), 3) := by decide +kernel
theorem dX9_level_189 : decode cX9_level 189 = .ok (.iinc 3 1, 3) := by decide +kernel
theorem dX9_level_192 : decode cX9_level 192 = .ok (.goto (-116), 3) := by decide +kernel
theorem dX9_level_195 : decode cX9_level 195 = .ok (.iload_n 3, 1) := by decide +kernel
theorem dX9_level_196 : decode cX9_level 196 = .ok (.ireturn, 1) := by decide +kernel
theorem dX9_pair_0 : decode cX9_pair 0 = .ok (.bipush 24, 2) := by decide +kernel
theorem dX9_pair_2 : decode cX9_pair 2 = .ok (.iload_n 0, 1) := by decide +kernel
theorem dX9_pair_3 : decode cX9_pair 3 = .ok (.imul, 1) := by decide +kernel
theorem dX9_pair_4 : decode cX9_pair 4 = .ok (.iload_n 1, 1) := by decide +kernel
theorem dX9_pair_5 : decode cX9_pair 5 = .ok (.iadd, 1) := by decide +kernel
theorem dX9_pair_6 : decode cX9_pair 6 = .ok (.ireturn, 1) := by decide +kernel
theorem dX9_held_0 : decode cX9_held 0 = .ok (.lload_n 0, 1) := by decide +kernel
theorem dX9_held_1 : decode cX9_held 1 = .ok (.ldc2_w 341, 3) := by decide +kernel
theorem dX9_held_4 : decode cX9_held 4 = .ok (.lcmp, 1) := by decide +kernel
theorem dX9_held_5 : decode cX9_held 5 = .ok (.ifCond .lt 9, 3) := by decide +kernel
theorem dX9_held_8 : decode cX9_held 8 = .ok (.ldc2_w 341, 3) := by decide +kernel
theorem dX9_held_11 : decode cX9_held 11 = .ok (.goto 18, 3) := by decide +kernel
theorem dX9_held_14 : decode cX9_held 14 = .ok (.lload_n 0, 1) := by decide +kernel
theorem dX9_held_15 : decode cX9_held 15 = .ok (.ldc2_w 343, 3) := by decide +kernel
theorem dX9_held_18 : decode cX9_held 18 = .ok (.lcmp, 1) := by decide +kernel
theorem dX9_held_19 : decode cX9_held 19 = .ok (.ifCond .le 9, 3) := by decide +kernel
theorem dX9_held_22 : decode cX9_held 22 = .ok (.ldc2_w 343, 3) := by decide +kernel
theorem dX9_held_25 : decode cX9_held 25 = .ok (.goto 4, 3) := by decide +kernel
theorem dX9_held_28 : decode cX9_held 28 = .ok (.lload_n 0, 1) := by decide +kernel
theorem dX9_held_29 : decode cX9_held 29 = .ok (.lreturn, 1) := by decide +kernel
theorem dX9_sideOf_0 : decode cX9_sideOf 0 = .ok (.ldc2_w 341, 3) := by decide +kernel
theorem dX9_sideOf_3 : decode cX9_sideOf 3 = .ok (.lstore_n 3, 1) := by decide +kernel
theorem dX9_sideOf_4 : decode cX9_sideOf 4 = .ok (.iconst 0, 1) := by decide +kernel
theorem dX9_sideOf_5 : decode cX9_sideOf 5 = .ok (.istore 5, 2) := by decide +kernel
theorem dX9_sideOf_7 : decode cX9_sideOf 7 = .ok (.iload 5, 2) := by decide +kernel
theorem dX9_sideOf_9 : decode cX9_sideOf 9 = .ok (.aload_n 0, 1) := by decide +kernel
theorem dX9_sideOf_10 : decode cX9_sideOf 10 = .ok (.getfield 287, 3) := by decide +kernel
theorem dX9_sideOf_13 : decode cX9_sideOf 13 = .ok (.if_icmp .ge 71, 3) := by decide +kernel
theorem dX9_sideOf_16 : decode cX9_sideOf 16 = .ok (.aload_n 0, 1) := by decide +kernel
theorem dX9_sideOf_17 : decode cX9_sideOf 17 = .ok (.getfield 38, 3) := by decide +kernel
theorem dX9_sideOf_20 : decode cX9_sideOf 20 = .ok (.iload 5, 2) := by decide +kernel
theorem dX9_sideOf_22 : decode cX9_sideOf 22 = .ok (.iaload, 1) := by decide +kernel
theorem dX9_sideOf_23 : decode cX9_sideOf 23 = .ok (.iload_n 1, 1) := by decide +kernel
theorem dX9_sideOf_24 : decode cX9_sideOf 24 = .ok (.if_icmp .ne 14, 3) := by decide +kernel
theorem dX9_sideOf_27 : decode cX9_sideOf 27 = .ok (.aload_n 0, 1) := by decide +kernel
theorem dX9_sideOf_28 : decode cX9_sideOf 28 = .ok (.getfield 41, 3) := by decide +kernel
theorem dX9_sideOf_31 : decode cX9_sideOf 31 = .ok (.iload 5, 2) := by decide +kernel
theorem dX9_sideOf_33 : decode cX9_sideOf 33 = .ok (.iaload, 1) := by decide +kernel
theorem dX9_sideOf_34 : decode cX9_sideOf 34 = .ok (.iload_n 2, 1) := by decide +kernel
theorem dX9_sideOf_35 : decode cX9_sideOf 35 = .ok (.if_icmp .eq 25, 3) := by decide +kernel
theorem dX9_sideOf_38 : decode cX9_sideOf 38 = .ok (.aload_n 0, 1) := by decide +kernel
theorem dX9_sideOf_39 : decode cX9_sideOf 39 = .ok (.getfield 38, 3) := by decide +kernel
theorem dX9_sideOf_42 : decode cX9_sideOf 42 = .ok (.iload 5, 2) := by decide +kernel
theorem dX9_sideOf_44 : decode cX9_sideOf 44 = .ok (.iaload, 1) := by decide +kernel
theorem dX9_sideOf_45 : decode cX9_sideOf 45 = .ok (.iload_n 2, 1) := by decide +kernel
theorem dX9_sideOf_46 : decode cX9_sideOf 46 = .ok (.if_icmp .ne 18, 3) := by decide +kernel
theorem dX9_sideOf_49 : decode cX9_sideOf 49 = .ok (.aload_n 0, 1) := by decide +kernel
theorem dX9_sideOf_50 : decode cX9_sideOf 50 = .ok (.getfield 41, 3) := by decide +kernel
theorem dX9_sideOf_53 : decode cX9_sideOf 53 = .ok (.iload 5, 2) := by decide +kernel
theorem dX9_sideOf_55 : decode cX9_sideOf 55 = .ok (.iaload, 1) := by decide +kernel
theorem dX9_sideOf_56 : decode cX9_sideOf 56 = .ok (.iload_n 1, 1) := by decide +kernel
theorem dX9_sideOf_57 : decode cX9_sideOf 57 = .ok (.if_icmp .ne 7, 3) := by decide +kernel
theorem dX9_sideOf_60 : decode cX9_sideOf 60 = .ok (.iconst 1, 1) := by decide +kernel
theorem dX9_sideOf_61 : decode cX9_sideOf 61 = .ok (.goto 4, 3) := by decide +kernel
theorem dX9_sideOf_64 : decode cX9_sideOf 64 = .ok (.iconst 0, 1) := by decide +kernel
theorem dX9_sideOf_65 : decode cX9_sideOf 65 = .ok (.istore 6, 2) := by decide +kernel
theorem dX9_sideOf_67 : decode cX9_sideOf 67 = .ok (.iload 6, 2) := by decide +kernel
theorem dX9_sideOf_69 : decode cX9_sideOf 69 = .ok (.ifCond .eq 7, 3) := by decide +kernel
theorem dX9_sideOf_72 : decode cX9_sideOf 72 = .ok (.lconst 1, 1) := by decide +kernel
theorem dX9_sideOf_73 : decode cX9_sideOf 73 = .ok (.goto 4, 3) := by decide +kernel
theorem dX9_sideOf_76 : decode cX9_sideOf 76 = .ok (.lload_n 3, 1) := by decide +kernel
theorem dX9_sideOf_77 : decode cX9_sideOf 77 = .ok (.lstore_n 3, 1) := by decide +kernel
theorem dX9_sideOf_78 : decode cX9_sideOf 78 = .ok (.iinc 5 1, 3) := by decide +kernel
theorem dX9_sideOf_81 : decode cX9_sideOf 81 = .ok (.goto (-74), 3) := by decide +kernel
theorem dX9_sideOf_84 : decode cX9_sideOf 84 = .ok (.aload_n 0, 1) := by decide +kernel
theorem dX9_sideOf_85 : decode cX9_sideOf 85 = .ok (.getfield 32, 3) := by decide +kernel
theorem dX9_sideOf_88 : decode cX9_sideOf 88 = .ok (.iload_n 1, 1) := by decide +kernel
theorem dX9_sideOf_89 : decode cX9_sideOf 89 = .ok (.iaload, 1) := by decide +kernel
theorem dX9_sideOf_90 : decode cX9_sideOf 90 = .ok (.aload_n 0, 1) := by decide +kernel
theorem dX9_sideOf_91 : decode cX9_sideOf 91 = .ok (.getfield 32, 3) := by decide +kernel
theorem dX9_sideOf_94 : decode cX9_sideOf 94 = .ok (.iload_n 2, 1) := by decide +kernel
theorem dX9_sideOf_95 : decode cX9_sideOf 95 = .ok (.iaload, 1) := by decide +kernel
theorem dX9_sideOf_96 : decode cX9_sideOf 96 = .ok (.if_icmp .eq 5, 3) := by decide +kernel
theorem dX9_sideOf_99 : decode cX9_sideOf 99 = .ok (.lload_n 3, 1) := by decide +kernel
theorem dX9_sideOf_100 : decode cX9_sideOf 100 = .ok (.lreturn, 1) := by decide +kernel
theorem dX9_sideOf_101 : decode cX9_sideOf 101 = .ok (.lconst 0, 1) := by decide +kernel
theorem dX9_sideOf_102 : decode cX9_sideOf 102 = .ok (.lstore 5, 2) := by decide +kernel
theorem dX9_sideOf_104 : decode cX9_sideOf 104 = .ok (.iconst 0, 1) := by decide +kernel
theorem dX9_sideOf_105 : decode cX9_sideOf 105 = .ok (.istore 7, 2) := by decide +kernel
theorem dX9_sideOf_107 : decode cX9_sideOf 107 = .ok (.iload 7, 2) := by decide +kernel
theorem dX9_sideOf_109 : decode cX9_sideOf 109 = .ok (.aload_n 0, 1) := by decide +kernel
theorem dX9_sideOf_110 : decode cX9_sideOf 110 = .ok (.iload_n 1, 1) := by decide +kernel
theorem dX9_sideOf_111 : decode cX9_sideOf 111 = .ok (.invokevirtual 253, 3) := by decide +kernel
theorem dX9_sideOf_114 : decode cX9_sideOf 114 = .ok (.if_icmp .ge 75, 3) := by decide +kernel
theorem dX9_sideOf_117 : decode cX9_sideOf 117 = .ok (.lload 5, 2) := by decide +kernel
theorem dX9_sideOf_119 : decode cX9_sideOf 119 = .ok (.ldc2_w 341, 3) := by decide +kernel
theorem dX9_sideOf_122 : decode cX9_sideOf 122 = .ok (.lcmp, 1) := by decide +kernel
theorem dX9_sideOf_123 : decode cX9_sideOf 123 = .ok (.ifCond .ge 66, 3) := by decide +kernel
theorem dX9_sideOf_126 : decode cX9_sideOf 126 = .ok (.aload_n 0, 1) := by decide +kernel
theorem dX9_sideOf_127 : decode cX9_sideOf 127 = .ok (.getfield 87, 3) := by decide +kernel
theorem dX9_sideOf_130 : decode cX9_sideOf 130 = .ok (.aload_n 0, 1) := by decide +kernel
theorem dX9_sideOf_131 : decode cX9_sideOf 131 = .ok (.getfield 35, 3) := by decide +kernel
theorem dX9_sideOf_134 : decode cX9_sideOf 134 = .ok (.iconst 3, 1) := by decide +kernel
theorem dX9_sideOf_135 : decode cX9_sideOf 135 = .ok (.iload_n 1, 1) := by decide +kernel
theorem dX9_sideOf_136 : decode cX9_sideOf 136 = .ok (.imul, 1) := by decide +kernel
theorem dX9_sideOf_137 : decode cX9_sideOf 137 = .ok (.iload 7, 2) := by decide +kernel
theorem dX9_sideOf_139 : decode cX9_sideOf 139 = .ok (.iadd, 1) := by decide +kernel
theorem dX9_sideOf_140 : decode cX9_sideOf 140 = .ok (.iaload, 1) := by decide +kernel
theorem dX9_sideOf_141 : decode cX9_sideOf 141 = .ok (.aload_n 0, 1) := by decide +kernel
theorem dX9_sideOf_142 : decode cX9_sideOf 142 = .ok (.getfield 35, 3) := by decide +kernel
theorem dX9_sideOf_145 : decode cX9_sideOf 145 = .ok (.iconst 3, 1) := by decide +kernel
theorem dX9_sideOf_146 : decode cX9_sideOf 146 = .ok (.iload_n 2, 1) := by decide +kernel
theorem dX9_sideOf_147 : decode cX9_sideOf 147 = .ok (.imul, 1) := by decide +kernel
theorem dX9_sideOf_148 : decode cX9_sideOf 148 = .ok (.iload 7, 2) := by decide +kernel
theorem dX9_sideOf_150 : decode cX9_sideOf 150 = .ok (.iadd, 1) := by decide +kernel
theorem dX9_sideOf_151 : decode cX9_sideOf 151 = .ok (.iaload, 1) := by decide +kernel
theorem dX9_sideOf_152 : decode cX9_sideOf 152 = .ok (.invokestatic 345, 3) := by decide +kernel
theorem dX9_sideOf_155 : decode cX9_sideOf 155 = .ok (.laload, 1) := by decide +kernel
theorem dX9_sideOf_156 : decode cX9_sideOf 156 = .ok (.lstore 8, 2) := by decide +kernel
theorem dX9_sideOf_158 : decode cX9_sideOf 158 = .ok (.lload 8, 2) := by decide +kernel
theorem dX9_sideOf_160 : decode cX9_sideOf 160 = .ok (.ldc2_w 341, 3) := by decide +kernel
theorem dX9_sideOf_163 : decode cX9_sideOf 163 = .ok (.lcmp, 1) := by decide +kernel
theorem dX9_sideOf_164 : decode cX9_sideOf 164 = .ok (.ifCond .lt 9, 3) := by decide +kernel
theorem dX9_sideOf_167 : decode cX9_sideOf 167 = .ok (.ldc2_w 341, 3) := by decide +kernel
theorem dX9_sideOf_170 : decode cX9_sideOf 170 = .ok (.goto 11, 3) := by decide +kernel
theorem dX9_sideOf_173 : decode cX9_sideOf 173 = .ok (.lload 5, 2) := by decide +kernel
theorem dX9_sideOf_175 : decode cX9_sideOf 175 = .ok (.lload 8, 2) := by decide +kernel
theorem dX9_sideOf_177 : decode cX9_sideOf 177 = .ok (.ladd, 1) := by decide +kernel
theorem dX9_sideOf_178 : decode cX9_sideOf 178 = .ok (.invokestatic 348, 3) := by decide +kernel
theorem dX9_sideOf_181 : decode cX9_sideOf 181 = .ok (.lstore 5, 2) := by decide +kernel
theorem dX9_sideOf_183 : decode cX9_sideOf 183 = .ok (.iinc 7 1, 3) := by decide +kernel
theorem dX9_sideOf_186 : decode cX9_sideOf 186 = .ok (.goto (-79), 3) := by decide +kernel
theorem dX9_sideOf_189 : decode cX9_sideOf 189 = .ok (.lload 5, 2) := by decide +kernel
theorem dX9_sideOf_191 : decode cX9_sideOf 191 = .ok (.lload_n 3, 1) := by decide +kernel
theorem dX9_sideOf_192 : decode cX9_sideOf 192 = .ok (.lcmp, 1) := by decide +kernel
theorem dX9_sideOf_193 : decode cX9_sideOf 193 = .ok (.ifCond .ge 8, 3) := by decide +kernel
theorem dX9_sideOf_196 : decode cX9_sideOf 196 = .ok (.lload 5, 2) := by decide +kernel
theorem dX9_sideOf_198 : decode cX9_sideOf 198 = .ok (.goto 4, 3) := by decide +kernel
theorem dX9_sideOf_201 : decode cX9_sideOf 201 = .ok (.lload_n 3, 1) := by decide +kernel
theorem dX9_sideOf_202 : decode cX9_sideOf 202 = .ok (.lreturn, 1) := by decide +kernel
theorem dX9_lessens_0 : decode cX9_lessens 0 = .ok (.iconst 0, 1) := by decide +kernel
theorem dX9_lessens_1 : decode cX9_lessens 1 = .ok (.istore_n 1, 1) := by decide +kernel
theorem dX9_lessens_2 : decode cX9_lessens 2 = .ok (.iconst 0, 1) := by decide +kernel
theorem dX9_lessens_3 : decode cX9_lessens 3 = .ok (.istore_n 2, 1) := by decide +kernel
theorem dX9_lessens_4 : decode cX9_lessens 4 = .ok (.iload_n 2, 1) := by decide +kernel
theorem dX9_lessens_5 : decode cX9_lessens 5 = .ok (.aload_n 0, 1) := by decide +kernel
theorem dX9_lessens_6 : decode cX9_lessens 6 = .ok (.getfield 250, 3) := by decide +kernel
theorem dX9_lessens_9 : decode cX9_lessens 9 = .ok (.if_icmp .ge 96, 3) := by decide +kernel
theorem dX9_lessens_12 : decode cX9_lessens 12 = .ok (.iconst 0, 1) := by decide +kernel
theorem dX9_lessens_13 : decode cX9_lessens 13 = .ok (.istore_n 3, 1) := by decide +kernel
theorem dX9_lessens_14 : decode cX9_lessens 14 = .ok (.iload_n 3, 1) := by decide +kernel
theorem dX9_lessens_15 : decode cX9_lessens 15 = .ok (.aload_n 0, 1) := by decide +kernel
theorem dX9_lessens_16 : decode cX9_lessens 16 = .ok (.getfield 250, 3) := by decide +kernel
theorem dX9_lessens_19 : decode cX9_lessens 19 = .ok (.if_icmp .ge 80, 3) := by decide +kernel
theorem dX9_lessens_22 : decode cX9_lessens 22 = .ok (.aload_n 0, 1) := by decide +kernel
theorem dX9_lessens_23 : decode cX9_lessens 23 = .ok (.getfield 91, 3) := by decide +kernel
theorem dX9_lessens_26 : decode cX9_lessens 26 = .ok (.iload_n 2, 1) := by decide +kernel
theorem dX9_lessens_27 : decode cX9_lessens 27 = .ok (.iload_n 3, 1) := by decide +kernel
theorem dX9_lessens_28 : decode cX9_lessens 28 = .ok (.invokestatic 345, 3) := by decide +kernel
theorem dX9_lessens_31 : decode cX9_lessens 31 = .ok (.iload_n 2, 1) := by decide +kernel
theorem dX9_lessens_32 : decode cX9_lessens 32 = .ok (.iload_n 3, 1) := by decide +kernel
theorem dX9_lessens_33 : decode cX9_lessens 33 = .ok (.if_icmp .ne 7, 3) := by decide +kernel
theorem dX9_lessens_36 : decode cX9_lessens 36 = .ok (.lconst 0, 1) := by decide +kernel
theorem dX9_lessens_37 : decode cX9_lessens 37 = .ok (.goto 9, 3) := by decide +kernel
theorem dX9_lessens_40 : decode cX9_lessens 40 = .ok (.aload_n 0, 1) := by decide +kernel
theorem dX9_lessens_41 : decode cX9_lessens 41 = .ok (.iload_n 2, 1) := by decide +kernel
theorem dX9_lessens_42 : decode cX9_lessens 42 = .ok (.iload_n 3, 1) := by decide +kernel
theorem dX9_lessens_43 : decode cX9_lessens 43 = .ok (.invokevirtual 352, 3) := by decide +kernel
theorem dX9_lessens_46 : decode cX9_lessens 46 = .ok (.lastore, 1) := by decide +kernel
theorem dX9_lessens_47 : decode cX9_lessens 47 = .ok (.aload_n 0, 1) := by decide +kernel
theorem dX9_lessens_48 : decode cX9_lessens 48 = .ok (.getfield 91, 3) := by decide +kernel
theorem dX9_lessens_51 : decode cX9_lessens 51 = .ok (.iload_n 2, 1) := by decide +kernel
theorem dX9_lessens_52 : decode cX9_lessens 52 = .ok (.iload_n 3, 1) := by decide +kernel
theorem dX9_lessens_53 : decode cX9_lessens 53 = .ok (.invokestatic 345, 3) := by decide +kernel
theorem dX9_lessens_56 : decode cX9_lessens 56 = .ok (.laload, 1) := by decide +kernel
theorem dX9_lessens_57 : decode cX9_lessens 57 = .ok (.aload_n 0, 1) := by decide +kernel
theorem dX9_lessens_58 : decode cX9_lessens 58 = .ok (.getfield 87, 3) := by decide +kernel
theorem dX9_lessens_61 : decode cX9_lessens 61 = .ok (.iload_n 2, 1) := by decide +kernel
theorem dX9_lessens_62 : decode cX9_lessens 62 = .ok (.iload_n 3, 1) := by decide +kernel
theorem dX9_lessens_63 : decode cX9_lessens 63 = .ok (.invokestatic 345, 3) := by decide +kernel
theorem dX9_lessens_66 : decode cX9_lessens 66 = .ok (.laload, 1) := by decide +kernel
theorem dX9_lessens_67 : decode cX9_lessens 67 = .ok (.lcmp, 1) := by decide +kernel
theorem dX9_lessens_68 : decode cX9_lessens 68 = .ok (.ifCond .ge 25, 3) := by decide +kernel
theorem dX9_lessens_71 : decode cX9_lessens 71 = .ok (.aload_n 0, 1) := by decide +kernel
theorem dX9_lessens_72 : decode cX9_lessens 72 = .ok (.getfield 87, 3) := by decide +kernel
theorem dX9_lessens_75 : decode cX9_lessens 75 = .ok (.iload_n 2, 1) := by decide +kernel
theorem dX9_lessens_76 : decode cX9_lessens 76 = .ok (.iload_n 3, 1) := by decide +kernel
theorem dX9_lessens_77 : decode cX9_lessens 77 = .ok (.invokestatic 345, 3) := by decide +kernel
theorem dX9_lessens_80 : decode cX9_lessens 80 = .ok (.aload_n 0, 1) := by decide +kernel
theorem dX9_lessens_81 : decode cX9_lessens 81 = .ok (.getfield 91, 3) := by decide +kernel
theorem dX9_lessens_84 : decode cX9_lessens 84 = .ok (.iload_n 2, 1) := by decide +kernel
theorem dX9_lessens_85 : decode cX9_lessens 85 = .ok (.iload_n 3, 1) := by decide +kernel
theorem dX9_lessens_86 : decode cX9_lessens 86 = .ok (.invokestatic 345, 3) := by decide +kernel
theorem dX9_lessens_89 : decode cX9_lessens 89 = .ok (.laload, 1) := by decide +kernel
theorem dX9_lessens_90 : decode cX9_lessens 90 = .ok (.lastore, 1) := by decide +kernel
theorem dX9_lessens_91 : decode cX9_lessens 91 = .ok (.iconst 1, 1) := by decide +kernel
theorem dX9_lessens_92 : decode cX9_lessens 92 = .ok (.istore_n 1, 1) := by decide +kernel
theorem dX9_lessens_93 : decode cX9_lessens 93 = .ok (.iinc 3 1, 3) := by decide +kernel
theorem dX9_lessens_96 : decode cX9_lessens 96 = .ok (.goto (-82), 3) := by decide +kernel
theorem dX9_lessens_99 : decode cX9_lessens 99 = .ok (.iinc 2 1, 3) := by decide +kernel
theorem dX9_lessens_102 : decode cX9_lessens 102 = .ok (.goto (-98), 3) := by decide +kernel
theorem dX9_lessens_105 : decode cX9_lessens 105 = .ok (.iconst 0, 1) := by decide +kernel
theorem dX9_lessens_106 : decode cX9_lessens 106 = .ok (.istore_n 2, 1) := by decide +kernel
theorem dX9_lessens_107 : decode cX9_lessens 107 = .ok (.iload_n 2, 1) := by decide +kernel
theorem dX9_lessens_108 : decode cX9_lessens 108 = .ok (.aload_n 0, 1) := by decide +kernel
theorem dX9_lessens_109 : decode cX9_lessens 109 = .ok (.getfield 250, 3) := by decide +kernel
theorem dX9_lessens_112 : decode cX9_lessens 112 = .ok (.if_icmp .ge 134, 3) := by decide +kernel
theorem dX9_lessens_115 : decode cX9_lessens 115 = .ok (.iconst 0, 1) := by decide +kernel
theorem dX9_lessens_116 : decode cX9_lessens 116 = .ok (.istore_n 3, 1) := by decide +kernel
theorem dX9_lessens_117 : decode cX9_lessens 117 = .ok (.iload_n 3, 1) := by decide +kernel
theorem dX9_lessens_118 : decode cX9_lessens 118 = .ok (.aload_n 0, 1) := by decide +kernel
theorem dX9_lessens_119 : decode cX9_lessens 119 = .ok (.getfield 250, 3) := by decide +kernel
theorem dX9_lessens_122 : decode cX9_lessens 122 = .ok (.if_icmp .ge 118, 3) := by decide +kernel
theorem dX9_lessens_125 : decode cX9_lessens 125 = .ok (.iconst 0, 1) := by decide +kernel
theorem dX9_lessens_126 : decode cX9_lessens 126 = .ok (.istore 4, 2) := by decide +kernel
theorem dX9_lessens_128 : decode cX9_lessens 128 = .ok (.iload 4, 2) := by decide +kernel
theorem dX9_lessens_130 : decode cX9_lessens 130 = .ok (.aload_n 0, 1) := by decide +kernel
theorem dX9_lessens_131 : decode cX9_lessens 131 = .ok (.getfield 250, 3) := by decide +kernel
theorem dX9_lessens_134 : decode cX9_lessens 134 = .ok (.if_icmp .ge 100, 3) := by decide +kernel
theorem dX9_lessens_137 : decode cX9_lessens 137 = .ok (.aload_n 0, 1) := by decide +kernel
theorem dX9_lessens_138 : decode cX9_lessens 138 = .ok (.getfield 87, 3) := by decide +kernel
theorem dX9_lessens_141 : decode cX9_lessens 141 = .ok (.iload_n 3, 1) := by decide +kernel
theorem dX9_lessens_142 : decode cX9_lessens 142 = .ok (.iload_n 2, 1) := by decide +kernel
theorem dX9_lessens_143 : decode cX9_lessens 143 = .ok (.invokestatic 345, 3) := by decide +kernel
theorem dX9_lessens_146 : decode cX9_lessens 146 = .ok (.laload, 1) := by decide +kernel
theorem dX9_lessens_147 : decode cX9_lessens 147 = .ok (.lstore 5, 2) := by decide +kernel
theorem dX9_lessens_149 : decode cX9_lessens 149 = .ok (.aload_n 0, 1) := by decide +kernel
theorem dX9_lessens_150 : decode cX9_lessens 150 = .ok (.getfield 87, 3) := by decide +kernel
theorem dX9_lessens_153 : decode cX9_lessens 153 = .ok (.iload_n 2, 1) := by decide +kernel
theorem dX9_lessens_154 : decode cX9_lessens 154 = .ok (.iload 4, 2) := by decide +kernel
theorem dX9_lessens_156 : decode cX9_lessens 156 = .ok (.invokestatic 345, 3) := by decide +kernel
theorem dX9_lessens_159 : decode cX9_lessens 159 = .ok (.laload, 1) := by decide +kernel
theorem dX9_lessens_160 : decode cX9_lessens 160 = .ok (.lstore 7, 2) := by decide +kernel
theorem dX9_lessens_162 : decode cX9_lessens 162 = .ok (.lload 5, 2) := by decide +kernel
theorem dX9_lessens_164 : decode cX9_lessens 164 = .ok (.ldc2_w 341, 3) := by decide +kernel
theorem dX9_lessens_167 : decode cX9_lessens 167 = .ok (.lcmp, 1) := by decide +kernel
theorem dX9_lessens_168 : decode cX9_lessens 168 = .ok (.ifCond .ge 12, 3) := by decide +kernel
theorem dX9_lessens_171 : decode cX9_lessens 171 = .ok (.lload 7, 2) := by decide +kernel
theorem dX9_lessens_173 : decode cX9_lessens 173 = .ok (.ldc2_w 341, 3) := by decide +kernel
theorem dX9_lessens_176 : decode cX9_lessens 176 = .ok (.lcmp, 1) := by decide +kernel
theorem dX9_lessens_177 : decode cX9_lessens 177 = .ok (.ifCond .lt 9, 3) := by decide +kernel
theorem dX9_lessens_180 : decode cX9_lessens 180 = .ok (.ldc2_w 341, 3) := by decide +kernel
theorem dX9_lessens_183 : decode cX9_lessens 183 = .ok (.goto 11, 3) := by decide +kernel
theorem dX9_lessens_186 : decode cX9_lessens 186 = .ok (.lload 5, 2) := by decide +kernel
theorem dX9_lessens_188 : decode cX9_lessens 188 = .ok (.lload 7, 2) := by decide +kernel
theorem dX9_lessens_190 : decode cX9_lessens 190 = .ok (.ladd, 1) := by decide +kernel
theorem dX9_lessens_191 : decode cX9_lessens 191 = .ok (.invokestatic 348, 3) := by decide +kernel
theorem dX9_lessens_194 : decode cX9_lessens 194 = .ok (.lstore 9, 2) := by decide +kernel
theorem dX9_lessens_196 : decode cX9_lessens 196 = .ok (.lload 9, 2) := by decide +kernel
theorem dX9_lessens_198 : decode cX9_lessens 198 = .ok (.aload_n 0, 1) := by decide +kernel
theorem dX9_lessens_199 : decode cX9_lessens 199 = .ok (.getfield 87, 3) := by decide +kernel
theorem dX9_lessens_202 : decode cX9_lessens 202 = .ok (.iload_n 3, 1) := by decide +kernel
theorem dX9_lessens_203 : decode cX9_lessens 203 = .ok (.iload 4, 2) := by decide +kernel
theorem dX9_lessens_205 : decode cX9_lessens 205 = .ok (.invokestatic 345, 3) := by decide +kernel
theorem dX9_lessens_208 : decode cX9_lessens 208 = .ok (.laload, 1) := by decide +kernel
theorem dX9_lessens_209 : decode cX9_lessens 209 = .ok (.lcmp, 1) := by decide +kernel
theorem dX9_lessens_210 : decode cX9_lessens 210 = .ok (.ifCond .ge 18, 3) := by decide +kernel
theorem dX9_lessens_213 : decode cX9_lessens 213 = .ok (.aload_n 0, 1) := by decide +kernel
theorem dX9_lessens_214 : decode cX9_lessens 214 = .ok (.getfield 87, 3) := by decide +kernel
theorem dX9_lessens_217 : decode cX9_lessens 217 = .ok (.iload_n 3, 1) := by decide +kernel
theorem dX9_lessens_218 : decode cX9_lessens 218 = .ok (.iload 4, 2) := by decide +kernel
theorem dX9_lessens_220 : decode cX9_lessens 220 = .ok (.invokestatic 345, 3) := by decide +kernel
theorem dX9_lessens_223 : decode cX9_lessens 223 = .ok (.lload 9, 2) := by decide +kernel
theorem dX9_lessens_225 : decode cX9_lessens 225 = .ok (.lastore, 1) := by decide +kernel
theorem dX9_lessens_226 : decode cX9_lessens 226 = .ok (.iconst 1, 1) := by decide +kernel
theorem dX9_lessens_227 : decode cX9_lessens 227 = .ok (.istore_n 1, 1) := by decide +kernel
theorem dX9_lessens_228 : decode cX9_lessens 228 = .ok (.iinc 4 1, 3) := by decide +kernel
theorem dX9_lessens_231 : decode cX9_lessens 231 = .ok (.goto (-103), 3) := by decide +kernel
theorem dX9_lessens_234 : decode cX9_lessens 234 = .ok (.iinc 3 1, 3) := by decide +kernel
theorem dX9_lessens_237 : decode cX9_lessens 237 = .ok (.goto (-120), 3) := by decide +kernel
theorem dX9_lessens_240 : decode cX9_lessens 240 = .ok (.iinc 2 1, 3) := by decide +kernel
theorem dX9_lessens_243 : decode cX9_lessens 243 = .ok (.goto (-136), 3) := by decide +kernel
theorem dX9_lessens_246 : decode cX9_lessens 246 = .ok (.iload_n 1, 1) := by decide +kernel
theorem dX9_lessens_247 : decode cX9_lessens 247 = .ok (.ireturn, 1) := by decide +kernel
theorem dX9_laysCosts_0 : decode cX9_laysCosts 0 = .ok (.iconst 0, 1) := by decide +kernel
theorem dX9_laysCosts_1 : decode cX9_laysCosts 1 = .ok (.istore_n 1, 1) := by decide +kernel
theorem dX9_laysCosts_2 : decode cX9_laysCosts 2 = .ok (.iload_n 1, 1) := by decide +kernel
theorem dX9_laysCosts_3 : decode cX9_laysCosts 3 = .ok (.aload_n 0, 1) := by decide +kernel
theorem dX9_laysCosts_4 : decode cX9_laysCosts 4 = .ok (.getfield 250, 3) := by decide +kernel
theorem dX9_laysCosts_7 : decode cX9_laysCosts 7 = .ok (.if_icmp .ge 47, 3) := by decide +kernel
theorem dX9_laysCosts_10 : decode cX9_laysCosts 10 = .ok (.iconst 0, 1) := by decide +kernel
theorem dX9_laysCosts_11 : decode cX9_laysCosts 11 = .ok (.istore_n 2, 1) := by decide +kernel
theorem dX9_laysCosts_12 : decode cX9_laysCosts 12 = .ok (.iload_n 2, 1) := by decide +kernel
theorem dX9_laysCosts_13 : decode cX9_laysCosts 13 = .ok (.aload_n 0, 1) := by decide +kernel
theorem dX9_laysCosts_14 : decode cX9_laysCosts 14 = .ok (.getfield 250, 3) := by decide +kernel
theorem dX9_laysCosts_17 : decode cX9_laysCosts 17 = .ok (.if_icmp .ge 31, 3) := by decide +kernel
theorem dX9_laysCosts_20 : decode cX9_laysCosts 20 = .ok (.aload_n 0, 1) := by decide +kernel
theorem dX9_laysCosts_21 : decode cX9_laysCosts 21 = .ok (.getfield 87, 3) := by decide +kernel
theorem dX9_laysCosts_24 : decode cX9_laysCosts 24 = .ok (.iload_n 1, 1) := by decide +kernel
theorem dX9_laysCosts_25 : decode cX9_laysCosts 25 = .ok (.iload_n 2, 1) := by decide +kernel
theorem dX9_laysCosts_26 : decode cX9_laysCosts 26 = .ok (.invokestatic 345, 3) := by decide +kernel
theorem dX9_laysCosts_29 : decode cX9_laysCosts 29 = .ok (.iload_n 1, 1) := by decide +kernel
theorem dX9_laysCosts_30 : decode cX9_laysCosts 30 = .ok (.iload_n 2, 1) := by decide +kernel
theorem dX9_laysCosts_31 : decode cX9_laysCosts 31 = .ok (.if_icmp .ne 7, 3) := by decide +kernel
theorem dX9_laysCosts_34 : decode cX9_laysCosts 34 = .ok (.lconst 0, 1) := by decide +kernel
theorem dX9_laysCosts_35 : decode cX9_laysCosts 35 = .ok (.goto 6, 3) := by decide +kernel
theorem dX9_laysCosts_38 : decode cX9_laysCosts 38 = .ok (.ldc2_w 341, 3) := by decide +kernel
theorem dX9_laysCosts_41 : decode cX9_laysCosts 41 = .ok (.lastore, 1) := by decide +kernel
theorem dX9_laysCosts_42 : decode cX9_laysCosts 42 = .ok (.iinc 2 1, 3) := by decide +kernel
theorem dX9_laysCosts_45 : decode cX9_laysCosts 45 = .ok (.goto (-33), 3) := by decide +kernel
theorem dX9_laysCosts_48 : decode cX9_laysCosts 48 = .ok (.iinc 1 1, 3) := by decide +kernel
theorem dX9_laysCosts_51 : decode cX9_laysCosts 51 = .ok (.goto (-49), 3) := by decide +kernel
theorem dX9_laysCosts_54 : decode cX9_laysCosts 54 = .ok (.iconst 1, 1) := by decide +kernel
theorem dX9_laysCosts_55 : decode cX9_laysCosts 55 = .ok (.istore_n 1, 1) := by decide +kernel
theorem dX9_laysCosts_56 : decode cX9_laysCosts 56 = .ok (.iload_n 1, 1) := by decide +kernel
theorem dX9_laysCosts_57 : decode cX9_laysCosts 57 = .ok (.ifCond .eq 11, 3) := by decide +kernel
theorem dX9_laysCosts_60 : decode cX9_laysCosts 60 = .ok (.aload_n 0, 1) := by decide +kernel
theorem dX9_laysCosts_61 : decode cX9_laysCosts 61 = .ok (.invokevirtual 356, 3) := by decide +kernel
theorem dX9_laysCosts_64 : decode cX9_laysCosts 64 = .ok (.istore_n 1, 1) := by decide +kernel
theorem dX9_laysCosts_65 : decode cX9_laysCosts 65 = .ok (.goto (-9), 3) := by decide +kernel
theorem dX9_laysCosts_68 : decode cX9_laysCosts 68 = .ok (.return_, 1) := by decide +kernel
theorem dX9_cost_0 : decode cX9_cost 0 = .ok (.aload_n 0, 1) := by decide +kernel
theorem dX9_cost_1 : decode cX9_cost 1 = .ok (.aload_n 0, 1) := by decide +kernel
theorem dX9_cost_2 : decode cX9_cost 2 = .ok (.iload_n 1, 1) := by decide +kernel
theorem dX9_cost_3 : decode cX9_cost 3 = .ok (.iload_n 2, 1) := by decide +kernel
theorem dX9_cost_4 : decode cX9_cost 4 = .ok (.invokevirtual 335, 3) := by decide +kernel
theorem dX9_cost_7 : decode cX9_cost 7 = .ok (.invokevirtual 223, 3) := by decide +kernel
theorem dX9_cost_10 : decode cX9_cost 10 = .ok (.ifCond .eq 5, 3) := by decide +kernel
theorem dX9_cost_13 : decode cX9_cost 13 = .ok (.iconst (-1), 1) := by decide +kernel
theorem dX9_cost_14 : decode cX9_cost 14 = .ok (.ireturn, 1) := by decide +kernel
theorem dX9_cost_15 : decode cX9_cost 15 = .ok (.aload_n 0, 1) := by decide +kernel
theorem dX9_cost_16 : decode cX9_cost 16 = .ok (.invokevirtual 359, 3) := by decide +kernel
theorem dX9_cost_19 : decode cX9_cost 19 = .ok (.aload_n 0, 1) := by decide +kernel
theorem dX9_cost_20 : decode cX9_cost 20 = .ok (.getfield 87, 3) := by decide +kernel
theorem dX9_cost_23 : decode cX9_cost 23 = .ok (.iload_n 1, 1) := by decide +kernel
theorem dX9_cost_24 : decode cX9_cost 24 = .ok (.iload_n 2, 1) := by decide +kernel
theorem dX9_cost_25 : decode cX9_cost 25 = .ok (.invokestatic 345, 3) := by decide +kernel
theorem dX9_cost_28 : decode cX9_cost 28 = .ok (.laload, 1) := by decide +kernel
theorem dX9_cost_29 : decode cX9_cost 29 = .ok (.l2i, 1) := by decide +kernel
theorem dX9_cost_30 : decode cX9_cost 30 = .ok (.ireturn, 1) := by decide +kernel
theorem dX9_isNext_0 : decode cX9_isNext 0 = .ok (.aload_n 0, 1) := by decide +kernel
theorem dX9_isNext_1 : decode cX9_isNext 1 = .ok (.getfield 91, 3) := by decide +kernel
theorem dX9_isNext_4 : decode cX9_isNext 4 = .ok (.iload_n 1, 1) := by decide +kernel
theorem dX9_isNext_5 : decode cX9_isNext 5 = .ok (.iload_n 2, 1) := by decide +kernel
theorem dX9_isNext_6 : decode cX9_isNext 6 = .ok (.invokestatic 345, 3) := by decide +kernel
theorem dX9_isNext_9 : decode cX9_isNext 9 = .ok (.laload, 1) := by decide +kernel
theorem dX9_isNext_10 : decode cX9_isNext 10 = .ok (.lstore 4, 2) := by decide +kernel
theorem dX9_isNext_12 : decode cX9_isNext 12 = .ok (.aload_n 0, 1) := by decide +kernel
theorem dX9_isNext_13 : decode cX9_isNext 13 = .ok (.getfield 87, 3) := by decide +kernel
theorem dX9_isNext_16 : decode cX9_isNext 16 = .ok (.iload_n 2, 1) := by decide +kernel
theorem dX9_isNext_17 : decode cX9_isNext 17 = .ok (.iload_n 3, 1) := by decide +kernel
theorem dX9_isNext_18 : decode cX9_isNext 18 = .ok (.invokestatic 345, 3) := by decide +kernel
theorem dX9_isNext_21 : decode cX9_isNext 21 = .ok (.laload, 1) := by decide +kernel
theorem dX9_isNext_22 : decode cX9_isNext 22 = .ok (.lstore 6, 2) := by decide +kernel
theorem dX9_isNext_24 : decode cX9_isNext 24 = .ok (.iload_n 1, 1) := by decide +kernel
theorem dX9_isNext_25 : decode cX9_isNext 25 = .ok (.iload_n 2, 1) := by decide +kernel
theorem dX9_isNext_26 : decode cX9_isNext 26 = .ok (.if_icmp .eq 51, 3) := by decide +kernel
theorem dX9_isNext_29 : decode cX9_isNext 29 = .ok (.lload 4, 2) := by decide +kernel
theorem dX9_isNext_31 : decode cX9_isNext 31 = .ok (.ldc2_w 341, 3) := by decide +kernel
theorem dX9_isNext_34 : decode cX9_isNext 34 = .ok (.lcmp, 1) := by decide +kernel
theorem dX9_isNext_35 : decode cX9_isNext 35 = .ok (.ifCond .ge 42, 3) := by decide +kernel
theorem dX9_isNext_38 : decode cX9_isNext 38 = .ok (.lload 6, 2) := by decide +kernel
theorem dX9_isNext_40 : decode cX9_isNext 40 = .ok (.ldc2_w 341, 3) := by decide +kernel
theorem dX9_isNext_43 : decode cX9_isNext 43 = .ok (.lcmp, 1) := by decide +kernel
theorem dX9_isNext_44 : decode cX9_isNext 44 = .ok (.ifCond .ge 33, 3) := by decide +kernel
theorem dX9_isNext_47 : decode cX9_isNext 47 = .ok (.aload_n 0, 1) := by decide +kernel
theorem dX9_isNext_48 : decode cX9_isNext 48 = .ok (.getfield 362, 3) := by decide +kernel
theorem dX9_isNext_51 : decode cX9_isNext 51 = .ok (.ifCond .ne 22, 3) := by decide +kernel
theorem dX9_isNext_54 : decode cX9_isNext 54 = .ok (.lload 4, 2) := by decide +kernel
theorem dX9_isNext_56 : decode cX9_isNext 56 = .ok (.lload 6, 2) := by decide +kernel
theorem dX9_isNext_58 : decode cX9_isNext 58 = .ok (.ladd, 1) := by decide +kernel
theorem dX9_isNext_59 : decode cX9_isNext 59 = .ok (.aload_n 0, 1) := by decide +kernel
theorem dX9_isNext_60 : decode cX9_isNext 60 = .ok (.getfield 87, 3) := by decide +kernel
theorem dX9_isNext_63 : decode cX9_isNext 63 = .ok (.iload_n 1, 1) := by decide +kernel
theorem dX9_isNext_64 : decode cX9_isNext 64 = .ok (.iload_n 3, 1) := by decide +kernel
theorem dX9_isNext_65 : decode cX9_isNext 65 = .ok (.invokestatic 345, 3) := by decide +kernel
theorem dX9_isNext_68 : decode cX9_isNext 68 = .ok (.laload, 1) := by decide +kernel
theorem dX9_isNext_69 : decode cX9_isNext 69 = .ok (.lcmp, 1) := by decide +kernel
theorem dX9_isNext_70 : decode cX9_isNext 70 = .ok (.ifCond .ne 7, 3) := by decide +kernel
theorem dX9_isNext_73 : decode cX9_isNext 73 = .ok (.iconst 1, 1) := by decide +kernel
theorem dX9_isNext_74 : decode cX9_isNext 74 = .ok (.goto 4, 3) := by decide +kernel
theorem dX9_isNext_77 : decode cX9_isNext 77 = .ok (.iconst 0, 1) := by decide +kernel
theorem dX9_isNext_78 : decode cX9_isNext 78 = .ok (.ireturn, 1) := by decide +kernel
theorem dX9_laysHops_0 : decode cX9_laysHops 0 = .ok (.iconst 0, 1) := by decide +kernel
theorem dX9_laysHops_1 : decode cX9_laysHops 1 = .ok (.istore_n 2, 1) := by decide +kernel
theorem dX9_laysHops_2 : decode cX9_laysHops 2 = .ok (.iload_n 2, 1) := by decide +kernel
theorem dX9_laysHops_3 : decode cX9_laysHops 3 = .ok (.aload_n 0, 1) := by decide +kernel
theorem dX9_laysHops_4 : decode cX9_laysHops 4 = .ok (.getfield 250, 3) := by decide +kernel
theorem dX9_laysHops_7 : decode cX9_laysHops 7 = .ok (.if_icmp .ge 26, 3) := by decide +kernel
theorem dX9_laysHops_10 : decode cX9_laysHops 10 = .ok (.aload_n 0, 1) := by decide +kernel
theorem dX9_laysHops_11 : decode cX9_laysHops 11 = .ok (.getfield 94, 3) := by decide +kernel
theorem dX9_laysHops_14 : decode cX9_laysHops 14 = .ok (.iload_n 2, 1) := by decide +kernel
theorem dX9_laysHops_15 : decode cX9_laysHops 15 = .ok (.iload_n 2, 1) := by decide +kernel
theorem dX9_laysHops_16 : decode cX9_laysHops 16 = .ok (.iload_n 1, 1) := by decide +kernel
theorem dX9_laysHops_17 : decode cX9_laysHops 17 = .ok (.if_icmp .ne 7, 3) := by decide +kernel
theorem dX9_laysHops_20 : decode cX9_laysHops 20 = .ok (.iconst 0, 1) := by decide +kernel
theorem dX9_laysHops_21 : decode cX9_laysHops 21 = .ok (.goto 5, 3) := by decide +kernel
theorem dX9_laysHops_24 : decode cX9_laysHops 24 = .ok (.bipush 24, 2) := by decide +kernel
theorem dX9_laysHops_26 : decode cX9_laysHops 26 = .ok (.iastore, 1) := by decide +kernel
theorem dX9_laysHops_27 : decode cX9_laysHops 27 = .ok (.iinc 2 1, 3) := by decide +kernel
theorem dX9_laysHops_30 : decode cX9_laysHops 30 = .ok (.goto (-28), 3) := by decide +kernel
theorem dX9_laysHops_33 : decode cX9_laysHops 33 = .ok (.iconst 0, 1) := by decide +kernel
theorem dX9_laysHops_34 : decode cX9_laysHops 34 = .ok (.istore_n 2, 1) := by decide +kernel
theorem dX9_laysHops_35 : decode cX9_laysHops 35 = .ok (.iload_n 2, 1) := by decide +kernel
theorem dX9_laysHops_36 : decode cX9_laysHops 36 = .ok (.aload_n 0, 1) := by decide +kernel
theorem dX9_laysHops_37 : decode cX9_laysHops 37 = .ok (.getfield 250, 3) := by decide +kernel
theorem dX9_laysHops_40 : decode cX9_laysHops 40 = .ok (.if_icmp .ge 87, 3) := by decide +kernel
theorem dX9_laysHops_43 : decode cX9_laysHops 43 = .ok (.iconst 0, 1) := by decide +kernel
theorem dX9_laysHops_44 : decode cX9_laysHops 44 = .ok (.istore_n 3, 1) := by decide +kernel
theorem dX9_laysHops_45 : decode cX9_laysHops 45 = .ok (.iload_n 3, 1) := by decide +kernel
theorem dX9_laysHops_46 : decode cX9_laysHops 46 = .ok (.aload_n 0, 1) := by decide +kernel
theorem dX9_laysHops_47 : decode cX9_laysHops 47 = .ok (.getfield 250, 3) := by decide +kernel
theorem dX9_laysHops_50 : decode cX9_laysHops 50 = .ok (.if_icmp .ge 71, 3) := by decide +kernel
theorem dX9_laysHops_53 : decode cX9_laysHops 53 = .ok (.iconst 0, 1) := by decide +kernel
theorem dX9_laysHops_54 : decode cX9_laysHops 54 = .ok (.istore 4, 2) := by decide +kernel
theorem dX9_laysHops_56 : decode cX9_laysHops 56 = .ok (.iload 4, 2) := by decide +kernel
theorem dX9_laysHops_58 : decode cX9_laysHops 58 = .ok (.aload_n 0, 1) := by decide +kernel
theorem dX9_laysHops_59 : decode cX9_laysHops 59 = .ok (.getfield 250, 3) := by decide +kernel
theorem dX9_laysHops_62 : decode cX9_laysHops 62 = .ok (.if_icmp .ge 53, 3) := by decide +kernel
theorem dX9_laysHops_65 : decode cX9_laysHops 65 = .ok (.aload_n 0, 1) := by decide +kernel
theorem dX9_laysHops_66 : decode cX9_laysHops 66 = .ok (.getfield 94, 3) := by decide +kernel
theorem dX9_laysHops_69 : decode cX9_laysHops 69 = .ok (.iload 4, 2) := by decide +kernel
theorem dX9_laysHops_71 : decode cX9_laysHops 71 = .ok (.iaload, 1) := by decide +kernel
theorem dX9_laysHops_72 : decode cX9_laysHops 72 = .ok (.iconst 1, 1) := by decide +kernel
theorem dX9_laysHops_73 : decode cX9_laysHops 73 = .ok (.iadd, 1) := by decide +kernel
theorem dX9_laysHops_74 : decode cX9_laysHops 74 = .ok (.aload_n 0, 1) := by decide +kernel
theorem dX9_laysHops_75 : decode cX9_laysHops 75 = .ok (.getfield 94, 3) := by decide +kernel
theorem dX9_laysHops_78 : decode cX9_laysHops 78 = .ok (.iload_n 3, 1) := by decide +kernel
theorem dX9_laysHops_79 : decode cX9_laysHops 79 = .ok (.iaload, 1) := by decide +kernel
theorem dX9_laysHops_80 : decode cX9_laysHops 80 = .ok (.if_icmp .ge 29, 3) := by decide +kernel
theorem dX9_laysHops_83 : decode cX9_laysHops 83 = .ok (.aload_n 0, 1) := by decide +kernel
theorem dX9_laysHops_84 : decode cX9_laysHops 84 = .ok (.iload_n 3, 1) := by decide +kernel
theorem dX9_laysHops_85 : decode cX9_laysHops 85 = .ok (.iload 4, 2) := by decide +kernel
theorem dX9_laysHops_87 : decode cX9_laysHops 87 = .ok (.iload_n 1, 1) := by decide +kernel
theorem dX9_laysHops_88 : decode cX9_laysHops 88 = .ok (.invokevirtual 366, 3) := by decide +kernel
theorem dX9_laysHops_91 : decode cX9_laysHops 91 = .ok (.ifCond .eq 18, 3) := by decide +kernel
theorem dX9_laysHops_94 : decode cX9_laysHops 94 = .ok (.aload_n 0, 1) := by decide +kernel
theorem dX9_laysHops_95 : decode cX9_laysHops 95 = .ok (.getfield 94, 3) := by decide +kernel
theorem dX9_laysHops_98 : decode cX9_laysHops 98 = .ok (.iload_n 3, 1) := by decide +kernel
theorem dX9_laysHops_99 : decode cX9_laysHops 99 = .ok (.aload_n 0, 1) := by decide +kernel
theorem dX9_laysHops_100 : decode cX9_laysHops 100 = .ok (.getfield 94, 3) := by decide +kernel
theorem dX9_laysHops_103 : decode cX9_laysHops 103 = .ok (.iload 4, 2) := by decide +kernel
theorem dX9_laysHops_105 : decode cX9_laysHops 105 = .ok (.iaload, 1) := by decide +kernel
theorem dX9_laysHops_106 : decode cX9_laysHops 106 = .ok (.iconst 1, 1) := by decide +kernel
theorem dX9_laysHops_107 : decode cX9_laysHops 107 = .ok (.iadd, 1) := by decide +kernel
theorem dX9_laysHops_108 : decode cX9_laysHops 108 = .ok (.iastore, 1) := by decide +kernel
theorem dX9_laysHops_109 : decode cX9_laysHops 109 = .ok (.iinc 4 1, 3) := by decide +kernel
theorem dX9_laysHops_112 : decode cX9_laysHops 112 = .ok (.goto (-56), 3) := by decide +kernel
theorem dX9_laysHops_115 : decode cX9_laysHops 115 = .ok (.iinc 3 1, 3) := by decide +kernel
theorem dX9_laysHops_118 : decode cX9_laysHops 118 = .ok (.goto (-73), 3) := by decide +kernel
theorem dX9_laysHops_121 : decode cX9_laysHops 121 = .ok (.iinc 2 1, 3) := by decide +kernel
theorem dX9_laysHops_124 : decode cX9_laysHops 124 = .ok (.goto (-89), 3) := by decide +kernel
theorem dX9_laysHops_127 : decode cX9_laysHops 127 = .ok (.return_, 1) := by decide +kernel
theorem dX9_way_0 : decode cX9_way 0 = .ok (.aload_n 0, 1) := by decide +kernel
theorem dX9_way_1 : decode cX9_way 1 = .ok (.iload_n 1, 1) := by decide +kernel
theorem dX9_way_2 : decode cX9_way 2 = .ok (.invokevirtual 317, 3) := by decide +kernel
theorem dX9_way_5 : decode cX9_way 5 = .ok (.ifCond .eq 19, 3) := by decide +kernel
theorem dX9_way_8 : decode cX9_way 8 = .ok (.aload_n 0, 1) := by decide +kernel
theorem dX9_way_9 : decode cX9_way 9 = .ok (.iload_n 2, 1) := by decide +kernel
theorem dX9_way_10 : decode cX9_way 10 = .ok (.invokevirtual 317, 3) := by decide +kernel
theorem dX9_way_13 : decode cX9_way 13 = .ok (.ifCond .eq 11, 3) := by decide +kernel
theorem dX9_way_16 : decode cX9_way 16 = .ok (.iload_n 3, 1) := by decide +kernel
theorem dX9_way_17 : decode cX9_way 17 = .ok (.ifCond .lt 7, 3) := by decide +kernel
theorem dX9_way_20 : decode cX9_way 20 = .ok (.iconst 1, 1) := by decide +kernel
theorem dX9_way_21 : decode cX9_way 21 = .ok (.goto 4, 3) := by decide +kernel
theorem dX9_way_24 : decode cX9_way 24 = .ok (.iconst 0, 1) := by decide +kernel
theorem dX9_way_25 : decode cX9_way 25 = .ok (.istore 4, 2) := by decide +kernel
theorem dX9_way_27 : decode cX9_way 27 = .ok (.aload_n 0, 1) := by decide +kernel
theorem dX9_way_28 : decode cX9_way 28 = .ok (.iload 4, 2) := by decide +kernel
theorem dX9_way_30 : decode cX9_way 30 = .ok (.ifCond .ne 7, 3) := by decide +kernel
theorem dX9_way_33 : decode cX9_way 33 = .ok (.iconst 1, 1) := by decide +kernel
theorem dX9_way_34 : decode cX9_way 34 = .ok (.goto 9, 3) := by decide +kernel
theorem dX9_way_37 : decode cX9_way 37 = .ok (.aload_n 0, 1) := by decide +kernel
theorem dX9_way_38 : decode cX9_way 38 = .ok (.iload_n 1, 1) := by decide +kernel
theorem dX9_way_39 : decode cX9_way 39 = .ok (.iload_n 2, 1) := by decide +kernel
theorem dX9_way_40 : decode cX9_way 40 = .ok (.invokevirtual 335, 3) := by decide +kernel
theorem dX9_way_43 : decode cX9_way 43 = .ok (.invokevirtual 223, 3) := by decide +kernel
theorem dX9_way_46 : decode cX9_way 46 = .ok (.ifCond .eq 5, 3) := by decide +kernel
theorem dX9_way_49 : decode cX9_way 49 = .ok (.iconst (-1), 1) := by decide +kernel
theorem dX9_way_50 : decode cX9_way 50 = .ok (.ireturn, 1) := by decide +kernel
theorem dX9_way_51 : decode cX9_way 51 = .ok (.aload_n 0, 1) := by decide +kernel
theorem dX9_way_52 : decode cX9_way 52 = .ok (.invokevirtual 359, 3) := by decide +kernel
theorem dX9_way_55 : decode cX9_way 55 = .ok (.aload_n 0, 1) := by decide +kernel
theorem dX9_way_56 : decode cX9_way 56 = .ok (.aload_n 0, 1) := by decide +kernel
theorem dX9_way_57 : decode cX9_way 57 = .ok (.getfield 87, 3) := by decide +kernel
theorem dX9_way_60 : decode cX9_way 60 = .ok (.iload_n 1, 1) := by decide +kernel
theorem dX9_way_61 : decode cX9_way 61 = .ok (.iload_n 2, 1) := by decide +kernel
theorem dX9_way_62 : decode cX9_way 62 = .ok (.invokestatic 345, 3) := by decide +kernel
theorem dX9_way_65 : decode cX9_way 65 = .ok (.laload, 1) := by decide +kernel
theorem dX9_way_66 : decode cX9_way 66 = .ok (.ldc2_w 343, 3) := by decide +kernel
theorem dX9_way_69 : decode cX9_way 69 = .ok (.lcmp, 1) := by decide +kernel
theorem dX9_way_70 : decode cX9_way 70 = .ok (.ifCond .lt 7, 3) := by decide +kernel
theorem dX9_way_73 : decode cX9_way 73 = .ok (.iconst 1, 1) := by decide +kernel
theorem dX9_way_74 : decode cX9_way 74 = .ok (.goto 4, 3) := by decide +kernel
theorem dX9_way_77 : decode cX9_way 77 = .ok (.iconst 0, 1) := by decide +kernel
theorem dX9_way_78 : decode cX9_way 78 = .ok (.putfield 362, 3) := by decide +kernel
theorem dX9_way_81 : decode cX9_way 81 = .ok (.aload_n 0, 1) := by decide +kernel
theorem dX9_way_82 : decode cX9_way 82 = .ok (.iload_n 2, 1) := by decide +kernel
theorem dX9_way_83 : decode cX9_way 83 = .ok (.invokevirtual 369, 3) := by decide +kernel
theorem dX9_way_86 : decode cX9_way 86 = .ok (.iload_n 3, 1) := by decide +kernel
theorem dX9_way_87 : decode cX9_way 87 = .ok (.aload_n 0, 1) := by decide +kernel
theorem dX9_way_88 : decode cX9_way 88 = .ok (.getfield 94, 3) := by decide +kernel
theorem dX9_way_91 : decode cX9_way 91 = .ok (.iload_n 1, 1) := by decide +kernel
theorem dX9_way_92 : decode cX9_way 92 = .ok (.iaload, 1) := by decide +kernel
theorem dX9_way_93 : decode cX9_way 93 = .ok (.if_icmp .le 6, 3) := by decide +kernel
theorem dX9_way_96 : decode cX9_way 96 = .ok (.bipush (-2), 2) := by decide +kernel
theorem dX9_way_98 : decode cX9_way 98 = .ok (.ireturn, 1) := by decide +kernel
theorem dX9_way_99 : decode cX9_way 99 = .ok (.iload_n 1, 1) := by decide +kernel
theorem dX9_way_100 : decode cX9_way 100 = .ok (.istore 5, 2) := by decide +kernel
theorem dX9_way_102 : decode cX9_way 102 = .ok (.iconst 0, 1) := by decide +kernel
theorem dX9_way_103 : decode cX9_way 103 = .ok (.istore 6, 2) := by decide +kernel
theorem dX9_way_105 : decode cX9_way 105 = .ok (.iload 6, 2) := by decide +kernel
theorem dX9_way_107 : decode cX9_way 107 = .ok (.iload_n 3, 1) := by decide +kernel
theorem dX9_way_108 : decode cX9_way 108 = .ok (.if_icmp .ge 53, 3) := by decide +kernel
theorem dX9_way_111 : decode cX9_way 111 = .ok (.iconst 0, 1) := by decide +kernel
theorem dX9_way_112 : decode cX9_way 112 = .ok (.istore 7, 2) := by decide +kernel
theorem dX9_way_114 : decode cX9_way 114 = .ok (.aload_n 0, 1) := by decide +kernel
theorem dX9_way_115 : decode cX9_way 115 = .ok (.getfield 94, 3) := by decide +kernel
theorem dX9_way_118 : decode cX9_way 118 = .ok (.iload 7, 2) := by decide +kernel
theorem dX9_way_120 : decode cX9_way 120 = .ok (.iaload, 1) := by decide +kernel
theorem dX9_way_121 : decode cX9_way 121 = .ok (.iconst 1, 1) := by decide +kernel
theorem dX9_way_122 : decode cX9_way 122 = .ok (.iadd, 1) := by decide +kernel
theorem dX9_way_123 : decode cX9_way 123 = .ok (.aload_n 0, 1) := by decide +kernel
theorem dX9_way_124 : decode cX9_way 124 = .ok (.getfield 94, 3) := by decide +kernel
theorem dX9_way_127 : decode cX9_way 127 = .ok (.iload 5, 2) := by decide +kernel
theorem dX9_way_129 : decode cX9_way 129 = .ok (.iaload, 1) := by decide +kernel
theorem dX9_way_130 : decode cX9_way 130 = .ok (.if_icmp .ne 15, 3) := by decide +kernel
theorem dX9_way_133 : decode cX9_way 133 = .ok (.aload_n 0, 1) := by decide +kernel
theorem dX9_way_134 : decode cX9_way 134 = .ok (.iload 5, 2) := by decide +kernel
theorem dX9_way_136 : decode cX9_way 136 = .ok (.iload 7, 2) := by decide +kernel
theorem dX9_way_138 : decode cX9_way 138 = .ok (.iload_n 2, 1) := by decide +kernel
theorem dX9_way_139 : decode cX9_way 139 = .ok (.invokevirtual 366, 3) := by decide +kernel
theorem dX9_way_142 : decode cX9_way 142 = .ok (.ifCond .ne 9, 3) := by decide +kernel
theorem dX9_way_145 : decode cX9_way 145 = .ok (.iinc 7 1, 3) := by decide +kernel
theorem dX9_way_148 : decode cX9_way 148 = .ok (.goto (-34), 3) := by decide +kernel
theorem dX9_way_151 : decode cX9_way 151 = .ok (.iload 7, 2) := by decide +kernel
theorem dX9_way_153 : decode cX9_way 153 = .ok (.istore 5, 2) := by decide +kernel
theorem dX9_way_155 : decode cX9_way 155 = .ok (.iinc 6 1, 3) := by decide +kernel
theorem dX9_way_158 : decode cX9_way 158 = .ok (.goto (-53), 3) := by decide +kernel
theorem dX9_way_161 : decode cX9_way 161 = .ok (.iload 5, 2) := by decide +kernel
theorem dX9_way_163 : decode cX9_way 163 = .ok (.ireturn, 1) := by decide +kernel
theorem dX9_core_0 : decode cX9_core 0 = .ok (.aload_n 0, 1) := by decide +kernel
theorem dX9_core_1 : decode cX9_core 1 = .ok (.iconst 0, 1) := by decide +kernel
theorem dX9_core_2 : decode cX9_core 2 = .ok (.putfield 103, 3) := by decide +kernel
theorem dX9_core_5 : decode cX9_core 5 = .ok (.bipush (-2), 2) := by decide +kernel
theorem dX9_core_7 : decode cX9_core 7 = .ok (.istore_n 1, 1) := by decide +kernel
theorem dX9_core_8 : decode cX9_core 8 = .ok (.iconst 0, 1) := by decide +kernel
theorem dX9_core_9 : decode cX9_core 9 = .ok (.istore_n 2, 1) := by decide +kernel
theorem dX9_core_10 : decode cX9_core 10 = .ok (.iload_n 2, 1) := by decide +kernel
theorem dX9_core_11 : decode cX9_core 11 = .ok (.aload_n 0, 1) := by decide +kernel
theorem dX9_core_12 : decode cX9_core 12 = .ok (.invokevirtual 329, 3) := by decide +kernel
theorem dX9_core_15 : decode cX9_core 15 = .ok (.if_icmp .gt 50, 3) := by decide +kernel
theorem dX9_core_18 : decode cX9_core 18 = .ok (.iload_n 1, 1) := by decide +kernel
theorem dX9_core_19 : decode cX9_core 19 = .ok (.bipush (-2), 2) := by decide +kernel
theorem dX9_core_21 : decode cX9_core 21 = .ok (.if_icmp .eq 14, 3) := by decide +kernel
theorem dX9_core_24 : decode cX9_core 24 = .ok (.iload_n 2, 1) := by decide +kernel
theorem dX9_core_25 : decode cX9_core 25 = .ok (.invokestatic 338, 3) := by decide +kernel
theorem dX9_core_28 : decode cX9_core 28 = .ok (.iload_n 1, 1) := by decide +kernel
theorem dX9_core_29 : decode cX9_core 29 = .ok (.invokestatic 338, 3) := by decide +kernel
theorem dX9_core_32 : decode cX9_core 32 = .ok (.if_icmp .ge 27, 3) := by decide +kernel
theorem dX9_core_35 : decode cX9_core 35 = .ok (.aload_n 0, 1) := by decide +kernel
theorem dX9_core_36 : decode cX9_core 36 = .ok (.iload_n 2, 1) := by decide +kernel
theorem dX9_core_37 : decode cX9_core 37 = .ok (.invokevirtual 303, 3) := by decide +kernel
theorem dX9_core_40 : decode cX9_core 40 = .ok (.aload_n 0, 1) := by decide +kernel
theorem dX9_core_41 : decode cX9_core 41 = .ok (.aload_n 0, 1) := by decide +kernel
theorem dX9_core_42 : decode cX9_core 42 = .ok (.getfield 71, 3) := by decide +kernel
theorem dX9_core_45 : decode cX9_core 45 = .ok (.invokevirtual 314, 3) := by decide +kernel
theorem dX9_core_48 : decode cX9_core 48 = .ok (.bipush (-2), 2) := by decide +kernel
theorem dX9_core_50 : decode cX9_core 50 = .ok (.if_icmp .eq 7, 3) := by decide +kernel
theorem dX9_core_53 : decode cX9_core 53 = .ok (.iload_n 2, 1) := by decide +kernel
theorem dX9_core_54 : decode cX9_core 54 = .ok (.goto 4, 3) := by decide +kernel
theorem dX9_core_57 : decode cX9_core 57 = .ok (.iload_n 1, 1) := by decide +kernel
theorem dX9_core_58 : decode cX9_core 58 = .ok (.istore_n 1, 1) := by decide +kernel
theorem dX9_core_59 : decode cX9_core 59 = .ok (.iinc 2 1, 3) := by decide +kernel
theorem dX9_core_62 : decode cX9_core 62 = .ok (.goto (-52), 3) := by decide +kernel
theorem dX9_core_65 : decode cX9_core 65 = .ok (.iload_n 1, 1) := by decide +kernel
theorem dX9_core_66 : decode cX9_core 66 = .ok (.ireturn, 1) := by decide +kernel
theorem dX9_closesWith_0 : decode cX9_closesWith 0 = .ok (.aload_n 0, 1) := by decide +kernel
theorem dX9_closesWith_1 : decode cX9_closesWith 1 = .ok (.getfield 38, 3) := by decide +kernel
theorem dX9_closesWith_4 : decode cX9_closesWith 4 = .ok (.aload_n 0, 1) := by decide +kernel
theorem dX9_closesWith_5 : decode cX9_closesWith 5 = .ok (.getfield 287, 3) := by decide +kernel
theorem dX9_closesWith_8 : decode cX9_closesWith 8 = .ok (.iload_n 1, 1) := by decide +kernel
theorem dX9_closesWith_9 : decode cX9_closesWith 9 = .ok (.iastore, 1) := by decide +kernel
theorem dX9_closesWith_10 : decode cX9_closesWith 10 = .ok (.aload_n 0, 1) := by decide +kernel
theorem dX9_closesWith_11 : decode cX9_closesWith 11 = .ok (.getfield 41, 3) := by decide +kernel
theorem dX9_closesWith_14 : decode cX9_closesWith 14 = .ok (.aload_n 0, 1) := by decide +kernel
theorem dX9_closesWith_15 : decode cX9_closesWith 15 = .ok (.getfield 287, 3) := by decide +kernel
theorem dX9_closesWith_18 : decode cX9_closesWith 18 = .ok (.iload_n 2, 1) := by decide +kernel
theorem dX9_closesWith_19 : decode cX9_closesWith 19 = .ok (.iastore, 1) := by decide +kernel
theorem dX9_closesWith_20 : decode cX9_closesWith 20 = .ok (.aload_n 0, 1) := by decide +kernel
theorem dX9_closesWith_21 : decode cX9_closesWith 21 = .ok (.aload_n 0, 1) := by decide +kernel
theorem dX9_closesWith_22 : decode cX9_closesWith 22 = .ok (.invokevirtual 329, 3) := by decide +kernel
theorem dX9_closesWith_25 : decode cX9_closesWith 25 = .ok (.iconst 1, 1) := by decide +kernel
theorem dX9_closesWith_26 : decode cX9_closesWith 26 = .ok (.aload_n 0, 1) := by decide +kernel
theorem dX9_closesWith_27 : decode cX9_closesWith 27 = .ok (.getfield 287, 3) := by decide +kernel
theorem dX9_closesWith_30 : decode cX9_closesWith 30 = .ok (.ishl, 1) := by decide +kernel
theorem dX9_closesWith_31 : decode cX9_closesWith 31 = .ok (.ior, 1) := by decide +kernel
theorem dX9_closesWith_32 : decode cX9_closesWith 32 = .ok (.invokevirtual 303, 3) := by decide +kernel
theorem dX9_closesWith_35 : decode cX9_closesWith 35 = .ok (.return_, 1) := by decide +kernel
theorem dX9_would_0 : decode cX9_would 0 = .ok (.aload_n 0, 1) := by decide +kernel
theorem dX9_would_1 : decode cX9_would 1 = .ok (.aload_n 0, 1) := by decide +kernel
theorem dX9_would_2 : decode cX9_would 2 = .ok (.iload_n 1, 1) := by decide +kernel
theorem dX9_would_3 : decode cX9_would 3 = .ok (.invokevirtual 317, 3) := by decide +kernel
theorem dX9_would_6 : decode cX9_would 6 = .ok (.ifCond .eq 24, 3) := by decide +kernel
theorem dX9_would_9 : decode cX9_would 9 = .ok (.aload_n 0, 1) := by decide +kernel
theorem dX9_would_10 : decode cX9_would 10 = .ok (.iload_n 2, 1) := by decide +kernel
theorem dX9_would_11 : decode cX9_would 11 = .ok (.invokevirtual 317, 3) := by decide +kernel
theorem dX9_would_14 : decode cX9_would 14 = .ok (.ifCond .eq 16, 3) := by decide +kernel
theorem dX9_would_17 : decode cX9_would 17 = .ok (.iload_n 3, 1) := by decide +kernel
theorem dX9_would_18 : decode cX9_would 18 = .ok (.iconst 0, 1) := by decide +kernel
theorem dX9_would_19 : decode cX9_would 19 = .ok (.iconst 2, 1) := by decide +kernel
theorem dX9_would_20 : decode cX9_would 20 = .ok (.invokestatic 132, 3) := by decide +kernel
theorem dX9_would_23 : decode cX9_would 23 = .ok (.ifCond .eq 7, 3) := by decide +kernel
theorem dX9_would_26 : decode cX9_would 26 = .ok (.iconst 1, 1) := by decide +kernel
theorem dX9_would_27 : decode cX9_would 27 = .ok (.goto 4, 3) := by decide +kernel
theorem dX9_would_30 : decode cX9_would 30 = .ok (.iconst 0, 1) := by decide +kernel
theorem dX9_would_31 : decode cX9_would 31 = .ok (.invokestatic 306, 3) := by decide +kernel
theorem dX9_would_34 : decode cX9_would 34 = .ok (.invokevirtual 223, 3) := by decide +kernel
theorem dX9_would_37 : decode cX9_would 37 = .ok (.ifCond .eq 5, 3) := by decide +kernel
theorem dX9_would_40 : decode cX9_would 40 = .ok (.iconst (-1), 1) := by decide +kernel
theorem dX9_would_41 : decode cX9_would 41 = .ok (.ireturn, 1) := by decide +kernel
theorem dX9_would_42 : decode cX9_would 42 = .ok (.aload_n 0, 1) := by decide +kernel
theorem dX9_would_43 : decode cX9_would 43 = .ok (.iload_n 1, 1) := by decide +kernel
theorem dX9_would_44 : decode cX9_would 44 = .ok (.iload_n 2, 1) := by decide +kernel
theorem dX9_would_45 : decode cX9_would 45 = .ok (.invokevirtual 372, 3) := by decide +kernel
theorem dX9_would_48 : decode cX9_would 48 = .ok (.iload_n 3, 1) := by decide +kernel
theorem dX9_would_49 : decode cX9_would 49 = .ok (.ifCond .ne 14, 3) := by decide +kernel
theorem dX9_would_52 : decode cX9_would 52 = .ok (.aload_n 0, 1) := by decide +kernel
theorem dX9_would_53 : decode cX9_would 53 = .ok (.aload_n 0, 1) := by decide +kernel
theorem dX9_would_54 : decode cX9_would 54 = .ok (.getfield 71, 3) := by decide +kernel
theorem dX9_would_57 : decode cX9_would 57 = .ok (.invokevirtual 310, 3) := by decide +kernel
theorem dX9_would_60 : decode cX9_would 60 = .ok (.goto 36, 3) := by decide +kernel
theorem dX9_would_63 : decode cX9_would 63 = .ok (.iload_n 3, 1) := by decide +kernel
theorem dX9_would_64 : decode cX9_would 64 = .ok (.iconst 1, 1) := by decide +kernel
theorem dX9_would_65 : decode cX9_would 65 = .ok (.if_icmp .ne 14, 3) := by decide +kernel
theorem dX9_would_68 : decode cX9_would 68 = .ok (.aload_n 0, 1) := by decide +kernel
theorem dX9_would_69 : decode cX9_would 69 = .ok (.aload_n 0, 1) := by decide +kernel
theorem dX9_would_70 : decode cX9_would 70 = .ok (.getfield 71, 3) := by decide +kernel
theorem dX9_would_73 : decode cX9_would 73 = .ok (.invokevirtual 314, 3) := by decide +kernel
theorem dX9_would_76 : decode cX9_would 76 = .ok (.goto 20, 3) := by decide +kernel
theorem dX9_would_79 : decode cX9_would 79 = .ok (.aload_n 0, 1) := by decide +kernel
theorem dX9_would_80 : decode cX9_would 80 = .ok (.aload_n 0, 1) := by decide +kernel
theorem dX9_would_81 : decode cX9_would 81 = .ok (.getfield 50, 3) := by decide +kernel
theorem dX9_would_84 : decode cX9_would 84 = .ok (.invokevirtual 310, 3) := by decide +kernel
theorem dX9_would_87 : decode cX9_would 87 = .ok (.aload_n 0, 1) := by decide +kernel
theorem dX9_would_88 : decode cX9_would 88 = .ok (.aload_n 0, 1) := by decide +kernel
theorem dX9_would_89 : decode cX9_would 89 = .ok (.getfield 71, 3) := by decide +kernel
theorem dX9_would_92 : decode cX9_would 92 = .ok (.invokevirtual 310, 3) := by decide +kernel
theorem dX9_would_95 : decode cX9_would 95 = .ok (.isub, 1) := by decide +kernel
theorem dX9_would_96 : decode cX9_would 96 = .ok (.ireturn, 1) := by decide +kernel
theorem dX9_nextJoin_0 : decode cX9_nextJoin 0 = .ok (.aload_n 0, 1) := by decide +kernel
theorem dX9_nextJoin_1 : decode cX9_nextJoin 1 = .ok (.getfield 97, 3) := by decide +kernel
theorem dX9_nextJoin_4 : decode cX9_nextJoin 4 = .ok (.aload_n 0, 1) := by decide +kernel
theorem dX9_nextJoin_5 : decode cX9_nextJoin 5 = .ok (.getfield 375, 3) := by decide +kernel
theorem dX9_nextJoin_8 : decode cX9_nextJoin 8 = .ok (.iload_n 1, 1) := by decide +kernel
theorem dX9_nextJoin_9 : decode cX9_nextJoin 9 = .ok (.iastore, 1) := by decide +kernel
theorem dX9_nextJoin_10 : decode cX9_nextJoin 10 = .ok (.aload_n 0, 1) := by decide +kernel
theorem dX9_nextJoin_11 : decode cX9_nextJoin 11 = .ok (.getfield 100, 3) := by decide +kernel
theorem dX9_nextJoin_14 : decode cX9_nextJoin 14 = .ok (.aload_n 0, 1) := by decide +kernel
theorem dX9_nextJoin_15 : decode cX9_nextJoin 15 = .ok (.getfield 375, 3) := by decide +kernel
theorem dX9_nextJoin_18 : decode cX9_nextJoin 18 = .ok (.iload_n 2, 1) := by decide +kernel
theorem dX9_nextJoin_19 : decode cX9_nextJoin 19 = .ok (.iastore, 1) := by decide +kernel
theorem dX9_nextJoin_20 : decode cX9_nextJoin 20 = .ok (.aload_n 0, 1) := by decide +kernel
theorem dX9_nextJoin_21 : decode cX9_nextJoin 21 = .ok (.dup, 1) := by decide +kernel
theorem dX9_nextJoin_22 : decode cX9_nextJoin 22 = .ok (.getfield 375, 3) := by decide +kernel
theorem dX9_nextJoin_25 : decode cX9_nextJoin 25 = .ok (.iconst 1, 1) := by decide +kernel
theorem dX9_nextJoin_26 : decode cX9_nextJoin 26 = .ok (.iadd, 1) := by decide +kernel
theorem dX9_nextJoin_27 : decode cX9_nextJoin 27 = .ok (.putfield 375, 3) := by decide +kernel
theorem dX9_nextJoin_30 : decode cX9_nextJoin 30 = .ok (.aload_n 0, 1) := by decide +kernel
theorem dX9_nextJoin_31 : decode cX9_nextJoin 31 = .ok (.aload_n 0, 1) := by decide +kernel
theorem dX9_nextJoin_32 : decode cX9_nextJoin 32 = .ok (.getfield 71, 3) := by decide +kernel
theorem dX9_nextJoin_35 : decode cX9_nextJoin 35 = .ok (.iload_n 1, 1) := by decide +kernel
theorem dX9_nextJoin_36 : decode cX9_nextJoin 36 = .ok (.iload_n 2, 1) := by decide +kernel
theorem dX9_nextJoin_37 : decode cX9_nextJoin 37 = .ok (.invokevirtual 269, 3) := by decide +kernel
theorem dX9_nextJoin_40 : decode cX9_nextJoin 40 = .ok (.return_, 1) := by decide +kernel
theorem dX9_nextByParts_0 : decode cX9_nextByParts 0 = .ok (.iconst 0, 1) := by decide +kernel
theorem dX9_nextByParts_1 : decode cX9_nextByParts 1 = .ok (.istore_n 1, 1) := by decide +kernel
theorem dX9_nextByParts_2 : decode cX9_nextByParts 2 = .ok (.iload_n 1, 1) := by decide +kernel
theorem dX9_nextByParts_3 : decode cX9_nextByParts 3 = .ok (.aload_n 0, 1) := by decide +kernel
theorem dX9_nextByParts_4 : decode cX9_nextByParts 4 = .ok (.getfield 250, 3) := by decide +kernel
theorem dX9_nextByParts_7 : decode cX9_nextByParts 7 = .ok (.if_icmp .ge 63, 3) := by decide +kernel
theorem dX9_nextByParts_10 : decode cX9_nextByParts 10 = .ok (.iload_n 1, 1) := by decide +kernel
theorem dX9_nextByParts_11 : decode cX9_nextByParts 11 = .ok (.iconst 1, 1) := by decide +kernel
theorem dX9_nextByParts_12 : decode cX9_nextByParts 12 = .ok (.iadd, 1) := by decide +kernel
theorem dX9_nextByParts_13 : decode cX9_nextByParts 13 = .ok (.istore_n 2, 1) := by decide +kernel
theorem dX9_nextByParts_14 : decode cX9_nextByParts 14 = .ok (.iload_n 2, 1) := by decide +kernel
theorem dX9_nextByParts_15 : decode cX9_nextByParts 15 = .ok (.aload_n 0, 1) := by decide +kernel
theorem dX9_nextByParts_16 : decode cX9_nextByParts 16 = .ok (.getfield 250, 3) := by decide +kernel
theorem dX9_nextByParts_19 : decode cX9_nextByParts 19 = .ok (.if_icmp .ge 45, 3) := by decide +kernel
theorem dX9_nextByParts_22 : decode cX9_nextByParts 22 = .ok (.aload_n 0, 1) := by decide +kernel
theorem dX9_nextByParts_23 : decode cX9_nextByParts 23 = .ok (.getfield 71, 3) := by decide +kernel
theorem dX9_nextByParts_26 : decode cX9_nextByParts 26 = .ok (.iload_n 1, 1) := by decide +kernel
theorem dX9_nextByParts_27 : decode cX9_nextByParts 27 = .ok (.iaload, 1) := by decide +kernel
theorem dX9_nextByParts_28 : decode cX9_nextByParts 28 = .ok (.aload_n 0, 1) := by decide +kernel
theorem dX9_nextByParts_29 : decode cX9_nextByParts 29 = .ok (.getfield 71, 3) := by decide +kernel
theorem dX9_nextByParts_32 : decode cX9_nextByParts 32 = .ok (.iload_n 2, 1) := by decide +kernel
theorem dX9_nextByParts_33 : decode cX9_nextByParts 33 = .ok (.iaload, 1) := by decide +kernel
theorem dX9_nextByParts_34 : decode cX9_nextByParts 34 = .ok (.if_icmp .eq 24, 3) := by decide +kernel
theorem dX9_nextByParts_37 : decode cX9_nextByParts 37 = .ok (.aload_n 0, 1) := by decide +kernel
theorem dX9_nextByParts_38 : decode cX9_nextByParts 38 = .ok (.aload_n 0, 1) := by decide +kernel
theorem dX9_nextByParts_39 : decode cX9_nextByParts 39 = .ok (.getfield 71, 3) := by decide +kernel
theorem dX9_nextByParts_42 : decode cX9_nextByParts 42 = .ok (.iload_n 1, 1) := by decide +kernel
theorem dX9_nextByParts_43 : decode cX9_nextByParts 43 = .ok (.iload_n 2, 1) := by decide +kernel
theorem dX9_nextByParts_44 : decode cX9_nextByParts 44 = .ok (.invokevirtual 273, 3) := by decide +kernel
theorem dX9_nextByParts_47 : decode cX9_nextByParts 47 = .ok (.ifCond .eq 11, 3) := by decide +kernel
theorem dX9_nextByParts_50 : decode cX9_nextByParts 50 = .ok (.aload_n 0, 1) := by decide +kernel
theorem dX9_nextByParts_51 : decode cX9_nextByParts 51 = .ok (.iload_n 1, 1) := by decide +kernel
theorem dX9_nextByParts_52 : decode cX9_nextByParts 52 = .ok (.iload_n 2, 1) := by decide +kernel
theorem dX9_nextByParts_53 : decode cX9_nextByParts 53 = .ok (.invokevirtual 378, 3) := by decide +kernel
theorem dX9_nextByParts_56 : decode cX9_nextByParts 56 = .ok (.iconst 1, 1) := by decide +kernel
theorem dX9_nextByParts_57 : decode cX9_nextByParts 57 = .ok (.ireturn, 1) := by decide +kernel
theorem dX9_nextByParts_58 : decode cX9_nextByParts 58 = .ok (.iinc 2 1, 3) := by decide +kernel
theorem dX9_nextByParts_61 : decode cX9_nextByParts 61 = .ok (.goto (-47), 3) := by decide +kernel
theorem dX9_nextByParts_64 : decode cX9_nextByParts 64 = .ok (.iinc 1 1, 3) := by decide +kernel
theorem dX9_nextByParts_67 : decode cX9_nextByParts 67 = .ok (.goto (-65), 3) := by decide +kernel
theorem dX9_nextByParts_70 : decode cX9_nextByParts 70 = .ok (.iconst 0, 1) := by decide +kernel
theorem dX9_nextByParts_71 : decode cX9_nextByParts 71 = .ok (.ireturn, 1) := by decide +kernel
theorem dX9_laysNext_0 : decode cX9_laysNext 0 = .ok (.iconst 0, 1) := by decide +kernel
theorem dX9_laysNext_1 : decode cX9_laysNext 1 = .ok (.istore_n 3, 1) := by decide +kernel
theorem dX9_laysNext_2 : decode cX9_laysNext 2 = .ok (.iload_n 3, 1) := by decide +kernel
theorem dX9_laysNext_3 : decode cX9_laysNext 3 = .ok (.aload_n 0, 1) := by decide +kernel
theorem dX9_laysNext_4 : decode cX9_laysNext 4 = .ok (.getfield 250, 3) := by decide +kernel
theorem dX9_laysNext_7 : decode cX9_laysNext 7 = .ok (.if_icmp .ge 21, 3) := by decide +kernel
theorem dX9_laysNext_10 : decode cX9_laysNext 10 = .ok (.aload_n 0, 1) := by decide +kernel
theorem dX9_laysNext_11 : decode cX9_laysNext 11 = .ok (.getfield 71, 3) := by decide +kernel
theorem dX9_laysNext_14 : decode cX9_laysNext 14 = .ok (.iload_n 3, 1) := by decide +kernel
theorem dX9_laysNext_15 : decode cX9_laysNext 15 = .ok (.aload_n 0, 1) := by decide +kernel
theorem dX9_laysNext_16 : decode cX9_laysNext 16 = .ok (.getfield 50, 3) := by decide +kernel
theorem dX9_laysNext_19 : decode cX9_laysNext 19 = .ok (.iload_n 3, 1) := by decide +kernel
theorem dX9_laysNext_20 : decode cX9_laysNext 20 = .ok (.iaload, 1) := by decide +kernel
theorem dX9_laysNext_21 : decode cX9_laysNext 21 = .ok (.iastore, 1) := by decide +kernel
theorem dX9_laysNext_22 : decode cX9_laysNext 22 = .ok (.iinc 3 1, 3) := by decide +kernel
theorem dX9_laysNext_25 : decode cX9_laysNext 25 = .ok (.goto (-23), 3) := by decide +kernel
theorem dX9_laysNext_28 : decode cX9_laysNext 28 = .ok (.aload_n 0, 1) := by decide +kernel
theorem dX9_laysNext_29 : decode cX9_laysNext 29 = .ok (.iconst 0, 1) := by decide +kernel
theorem dX9_laysNext_30 : decode cX9_laysNext 30 = .ok (.putfield 375, 3) := by decide +kernel
theorem dX9_laysNext_33 : decode cX9_laysNext 33 = .ok (.aload_n 0, 1) := by decide +kernel
theorem dX9_laysNext_34 : decode cX9_laysNext 34 = .ok (.getfield 71, 3) := by decide +kernel
theorem dX9_laysNext_37 : decode cX9_laysNext 37 = .ok (.iload_n 1, 1) := by decide +kernel
theorem dX9_laysNext_38 : decode cX9_laysNext 38 = .ok (.iaload, 1) := by decide +kernel
theorem dX9_laysNext_39 : decode cX9_laysNext 39 = .ok (.aload_n 0, 1) := by decide +kernel
theorem dX9_laysNext_40 : decode cX9_laysNext 40 = .ok (.getfield 71, 3) := by decide +kernel
theorem dX9_laysNext_43 : decode cX9_laysNext 43 = .ok (.iload_n 2, 1) := by decide +kernel
theorem dX9_laysNext_44 : decode cX9_laysNext 44 = .ok (.iaload, 1) := by decide +kernel
theorem dX9_laysNext_45 : decode cX9_laysNext 45 = .ok (.if_icmp .ne 4, 3) := by decide +kernel
theorem dX9_laysNext_48 : decode cX9_laysNext 48 = .ok (.return_, 1) := by decide +kernel
theorem dX9_laysNext_49 : decode cX9_laysNext 49 = .ok (.aload_n 0, 1) := by decide +kernel
theorem dX9_laysNext_50 : decode cX9_laysNext 50 = .ok (.iload_n 1, 1) := by decide +kernel
theorem dX9_laysNext_51 : decode cX9_laysNext 51 = .ok (.iload_n 2, 1) := by decide +kernel
theorem dX9_laysNext_52 : decode cX9_laysNext 52 = .ok (.invokevirtual 378, 3) := by decide +kernel
theorem dX9_laysNext_55 : decode cX9_laysNext 55 = .ok (.iconst 1, 1) := by decide +kernel
theorem dX9_laysNext_56 : decode cX9_laysNext 56 = .ok (.istore_n 3, 1) := by decide +kernel
theorem dX9_laysNext_57 : decode cX9_laysNext 57 = .ok (.iload_n 3, 1) := by decide +kernel
theorem dX9_laysNext_58 : decode cX9_laysNext 58 = .ok (.ifCond .eq 11, 3) := by decide +kernel
theorem dX9_laysNext_61 : decode cX9_laysNext 61 = .ok (.aload_n 0, 1) := by decide +kernel
theorem dX9_laysNext_62 : decode cX9_laysNext 62 = .ok (.invokevirtual 381, 3) := by decide +kernel
theorem dX9_laysNext_65 : decode cX9_laysNext 65 = .ok (.istore_n 3, 1) := by decide +kernel
theorem dX9_laysNext_66 : decode cX9_laysNext 66 = .ok (.goto (-9), 3) := by decide +kernel
theorem dX9_laysNext_69 : decode cX9_laysNext 69 = .ok (.return_, 1) := by decide +kernel
theorem dX9_next_0 : decode cX9_next 0 = .ok (.aload_n 0, 1) := by decide +kernel
theorem dX9_next_1 : decode cX9_next 1 = .ok (.aload_n 0, 1) := by decide +kernel
theorem dX9_next_2 : decode cX9_next 2 = .ok (.iload_n 1, 1) := by decide +kernel
theorem dX9_next_3 : decode cX9_next 3 = .ok (.invokevirtual 317, 3) := by decide +kernel
theorem dX9_next_6 : decode cX9_next 6 = .ok (.ifCond .eq 29, 3) := by decide +kernel
theorem dX9_next_9 : decode cX9_next 9 = .ok (.aload_n 0, 1) := by decide +kernel
theorem dX9_next_10 : decode cX9_next 10 = .ok (.iload_n 2, 1) := by decide +kernel
theorem dX9_next_11 : decode cX9_next 11 = .ok (.invokevirtual 317, 3) := by decide +kernel
theorem dX9_next_14 : decode cX9_next 14 = .ok (.ifCond .eq 21, 3) := by decide +kernel
theorem dX9_next_17 : decode cX9_next 17 = .ok (.iload_n 3, 1) := by decide +kernel
theorem dX9_next_18 : decode cX9_next 18 = .ok (.ifCond .lt 17, 3) := by decide +kernel
theorem dX9_next_21 : decode cX9_next 21 = .ok (.iload 4, 2) := by decide +kernel
theorem dX9_next_23 : decode cX9_next 23 = .ok (.iconst 0, 1) := by decide +kernel
theorem dX9_next_24 : decode cX9_next 24 = .ok (.iconst 2, 1) := by decide +kernel
theorem dX9_next_25 : decode cX9_next 25 = .ok (.invokestatic 132, 3) := by decide +kernel
theorem dX9_next_28 : decode cX9_next 28 = .ok (.ifCond .eq 7, 3) := by decide +kernel
theorem dX9_next_31 : decode cX9_next 31 = .ok (.iconst 1, 1) := by decide +kernel
theorem dX9_next_32 : decode cX9_next 32 = .ok (.goto 4, 3) := by decide +kernel
theorem dX9_next_35 : decode cX9_next 35 = .ok (.iconst 0, 1) := by decide +kernel
theorem dX9_next_36 : decode cX9_next 36 = .ok (.invokestatic 306, 3) := by decide +kernel
theorem dX9_next_39 : decode cX9_next 39 = .ok (.invokevirtual 223, 3) := by decide +kernel
theorem dX9_next_42 : decode cX9_next 42 = .ok (.ifCond .eq 5, 3) := by decide +kernel
theorem dX9_next_45 : decode cX9_next 45 = .ok (.iconst (-1), 1) := by decide +kernel
theorem dX9_next_46 : decode cX9_next 46 = .ok (.ireturn, 1) := by decide +kernel
theorem dX9_next_47 : decode cX9_next 47 = .ok (.aload_n 0, 1) := by decide +kernel
theorem dX9_next_48 : decode cX9_next 48 = .ok (.iload_n 1, 1) := by decide +kernel
theorem dX9_next_49 : decode cX9_next 49 = .ok (.iload_n 2, 1) := by decide +kernel
theorem dX9_next_50 : decode cX9_next 50 = .ok (.invokevirtual 384, 3) := by decide +kernel
theorem dX9_next_53 : decode cX9_next 53 = .ok (.iload_n 3, 1) := by decide +kernel
theorem dX9_next_54 : decode cX9_next 54 = .ok (.aload_n 0, 1) := by decide +kernel
theorem dX9_next_55 : decode cX9_next 55 = .ok (.getfield 375, 3) := by decide +kernel
theorem dX9_next_58 : decode cX9_next 58 = .ok (.if_icmp .lt 6, 3) := by decide +kernel
theorem dX9_next_61 : decode cX9_next 61 = .ok (.bipush (-2), 2) := by decide +kernel
theorem dX9_next_63 : decode cX9_next 63 = .ok (.ireturn, 1) := by decide +kernel
theorem dX9_next_64 : decode cX9_next 64 = .ok (.iload 4, 2) := by decide +kernel
theorem dX9_next_66 : decode cX9_next 66 = .ok (.ifCond .ne 12, 3) := by decide +kernel
theorem dX9_next_69 : decode cX9_next 69 = .ok (.aload_n 0, 1) := by decide +kernel
theorem dX9_next_70 : decode cX9_next 70 = .ok (.getfield 97, 3) := by decide +kernel
theorem dX9_next_73 : decode cX9_next 73 = .ok (.iload_n 3, 1) := by decide +kernel
theorem dX9_next_74 : decode cX9_next 74 = .ok (.iaload, 1) := by decide +kernel
theorem dX9_next_75 : decode cX9_next 75 = .ok (.goto 27, 3) := by decide +kernel
theorem dX9_next_78 : decode cX9_next 78 = .ok (.iload 4, 2) := by decide +kernel
theorem dX9_next_80 : decode cX9_next 80 = .ok (.iconst 1, 1) := by decide +kernel
theorem dX9_next_81 : decode cX9_next 81 = .ok (.if_icmp .ne 12, 3) := by decide +kernel
theorem dX9_next_84 : decode cX9_next 84 = .ok (.aload_n 0, 1) := by decide +kernel
theorem dX9_next_85 : decode cX9_next 85 = .ok (.getfield 100, 3) := by decide +kernel
theorem dX9_next_88 : decode cX9_next 88 = .ok (.iload_n 3, 1) := by decide +kernel
theorem dX9_next_89 : decode cX9_next 89 = .ok (.iaload, 1) := by decide +kernel
theorem dX9_next_90 : decode cX9_next 90 = .ok (.goto 12, 3) := by decide +kernel
theorem dX9_next_93 : decode cX9_next 93 = .ok (.iload_n 3, 1) := by decide +kernel
theorem dX9_next_94 : decode cX9_next 94 = .ok (.ifCond .ne 7, 3) := by decide +kernel
theorem dX9_next_97 : decode cX9_next 97 = .ok (.iconst 1, 1) := by decide +kernel
theorem dX9_next_98 : decode cX9_next 98 = .ok (.goto 4, 3) := by decide +kernel
theorem dX9_next_101 : decode cX9_next 101 = .ok (.iconst 0, 1) := by decide +kernel
theorem dX9_next_102 : decode cX9_next 102 = .ok (.ireturn, 1) := by decide +kernel
theorem dX9_without_0 : decode cX9_without 0 = .ok (.aload_n 0, 1) := by decide +kernel
theorem dX9_without_1 : decode cX9_without 1 = .ok (.iload_n 1, 1) := by decide +kernel
theorem dX9_without_2 : decode cX9_without 2 = .ok (.iconst 0, 1) := by decide +kernel
theorem dX9_without_3 : decode cX9_without 3 = .ok (.aload_n 0, 1) := by decide +kernel
theorem dX9_without_4 : decode cX9_without 4 = .ok (.getfield 287, 3) := by decide +kernel
theorem dX9_without_7 : decode cX9_without 7 = .ok (.iconst 1, 1) := by decide +kernel
theorem dX9_without_8 : decode cX9_without 8 = .ok (.isub, 1) := by decide +kernel
theorem dX9_without_9 : decode cX9_without 9 = .ok (.invokestatic 132, 3) := by decide +kernel
theorem dX9_without_12 : decode cX9_without 12 = .ok (.ifCond .eq 16, 3) := by decide +kernel
theorem dX9_without_15 : decode cX9_without 15 = .ok (.iload_n 2, 1) := by decide +kernel
theorem dX9_without_16 : decode cX9_without 16 = .ok (.iconst 0, 1) := by decide +kernel
theorem dX9_without_17 : decode cX9_without 17 = .ok (.iconst 1, 1) := by decide +kernel
theorem dX9_without_18 : decode cX9_without 18 = .ok (.invokestatic 132, 3) := by decide +kernel
theorem dX9_without_21 : decode cX9_without 21 = .ok (.ifCond .eq 7, 3) := by decide +kernel
theorem dX9_without_24 : decode cX9_without 24 = .ok (.iconst 1, 1) := by decide +kernel
theorem dX9_without_25 : decode cX9_without 25 = .ok (.goto 4, 3) := by decide +kernel
theorem dX9_without_28 : decode cX9_without 28 = .ok (.iconst 0, 1) := by decide +kernel
theorem dX9_without_29 : decode cX9_without 29 = .ok (.invokestatic 306, 3) := by decide +kernel
theorem dX9_without_32 : decode cX9_without 32 = .ok (.invokevirtual 223, 3) := by decide +kernel
theorem dX9_without_35 : decode cX9_without 35 = .ok (.ifCond .eq 5, 3) := by decide +kernel
theorem dX9_without_38 : decode cX9_without 38 = .ok (.iconst (-1), 1) := by decide +kernel
theorem dX9_without_39 : decode cX9_without 39 = .ok (.ireturn, 1) := by decide +kernel
theorem dX9_without_40 : decode cX9_without 40 = .ok (.aload_n 0, 1) := by decide +kernel
theorem dX9_without_41 : decode cX9_without 41 = .ok (.aload_n 0, 1) := by decide +kernel
theorem dX9_without_42 : decode cX9_without 42 = .ok (.invokevirtual 329, 3) := by decide +kernel
theorem dX9_without_45 : decode cX9_without 45 = .ok (.iconst 1, 1) := by decide +kernel
theorem dX9_without_46 : decode cX9_without 46 = .ok (.iload_n 1, 1) := by decide +kernel
theorem dX9_without_47 : decode cX9_without 47 = .ok (.ishl, 1) := by decide +kernel
theorem dX9_without_48 : decode cX9_without 48 = .ok (.iconst (-1), 1) := by decide +kernel
theorem dX9_without_49 : decode cX9_without 49 = .ok (.ixor, 1) := by decide +kernel
theorem dX9_without_50 : decode cX9_without 50 = .ok (.iand, 1) := by decide +kernel
theorem dX9_without_51 : decode cX9_without 51 = .ok (.invokevirtual 303, 3) := by decide +kernel
theorem dX9_without_54 : decode cX9_without 54 = .ok (.iload_n 2, 1) := by decide +kernel
theorem dX9_without_55 : decode cX9_without 55 = .ok (.ifCond .ne 14, 3) := by decide +kernel
theorem dX9_without_58 : decode cX9_without 58 = .ok (.aload_n 0, 1) := by decide +kernel
theorem dX9_without_59 : decode cX9_without 59 = .ok (.aload_n 0, 1) := by decide +kernel
theorem dX9_without_60 : decode cX9_without 60 = .ok (.getfield 71, 3) := by decide +kernel
theorem dX9_without_63 : decode cX9_without 63 = .ok (.invokevirtual 310, 3) := by decide +kernel
theorem dX9_without_66 : decode cX9_without 66 = .ok (.goto 11, 3) := by decide +kernel
theorem dX9_without_69 : decode cX9_without 69 = .ok (.aload_n 0, 1) := by decide +kernel
theorem dX9_without_70 : decode cX9_without 70 = .ok (.aload_n 0, 1) := by decide +kernel
theorem dX9_without_71 : decode cX9_without 71 = .ok (.getfield 71, 3) := by decide +kernel
theorem dX9_without_74 : decode cX9_without 74 = .ok (.invokevirtual 314, 3) := by decide +kernel
theorem dX9_without_77 : decode cX9_without 77 = .ok (.ireturn, 1) := by decide +kernel
theorem dX9_free_0 : decode cX9_free 0 = .ok (.aload_n 0, 1) := by decide +kernel
theorem dX9_free_1 : decode cX9_free 1 = .ok (.iconst 0, 1) := by decide +kernel
theorem dX9_free_2 : decode cX9_free 2 = .ok (.putfield 103, 3) := by decide +kernel
theorem dX9_free_5 : decode cX9_free 5 = .ok (.iconst 0, 1) := by decide +kernel
theorem dX9_free_6 : decode cX9_free 6 = .ok (.istore_n 1, 1) := by decide +kernel
theorem dX9_free_7 : decode cX9_free 7 = .ok (.iconst 0, 1) := by decide +kernel
theorem dX9_free_8 : decode cX9_free 8 = .ok (.istore_n 2, 1) := by decide +kernel
theorem dX9_free_9 : decode cX9_free 9 = .ok (.iload_n 2, 1) := by decide +kernel
theorem dX9_free_10 : decode cX9_free 10 = .ok (.aload_n 0, 1) := by decide +kernel
theorem dX9_free_11 : decode cX9_free 11 = .ok (.getfield 250, 3) := by decide +kernel
theorem dX9_free_14 : decode cX9_free 14 = .ok (.if_icmp .ge 69, 3) := by decide +kernel
theorem dX9_free_17 : decode cX9_free 17 = .ok (.iload_n 2, 1) := by decide +kernel
theorem dX9_free_18 : decode cX9_free 18 = .ok (.iconst 1, 1) := by decide +kernel
theorem dX9_free_19 : decode cX9_free 19 = .ok (.iadd, 1) := by decide +kernel
theorem dX9_free_20 : decode cX9_free 20 = .ok (.istore_n 3, 1) := by decide +kernel
theorem dX9_free_21 : decode cX9_free 21 = .ok (.iload_n 3, 1) := by decide +kernel
theorem dX9_free_22 : decode cX9_free 22 = .ok (.aload_n 0, 1) := by decide +kernel
theorem dX9_free_23 : decode cX9_free 23 = .ok (.getfield 250, 3) := by decide +kernel
theorem dX9_free_26 : decode cX9_free 26 = .ok (.if_icmp .ge 51, 3) := by decide +kernel
theorem dX9_free_29 : decode cX9_free 29 = .ok (.aload_n 0, 1) := by decide +kernel
theorem dX9_free_30 : decode cX9_free 30 = .ok (.getfield 50, 3) := by decide +kernel
theorem dX9_free_33 : decode cX9_free 33 = .ok (.iload_n 2, 1) := by decide +kernel
theorem dX9_free_34 : decode cX9_free 34 = .ok (.iaload, 1) := by decide +kernel
theorem dX9_free_35 : decode cX9_free 35 = .ok (.aload_n 0, 1) := by decide +kernel
theorem dX9_free_36 : decode cX9_free 36 = .ok (.getfield 50, 3) := by decide +kernel
theorem dX9_free_39 : decode cX9_free 39 = .ok (.iload_n 3, 1) := by decide +kernel
theorem dX9_free_40 : decode cX9_free 40 = .ok (.iaload, 1) := by decide +kernel
theorem dX9_free_41 : decode cX9_free 41 = .ok (.if_icmp .eq 30, 3) := by decide +kernel
theorem dX9_free_44 : decode cX9_free 44 = .ok (.aload_n 0, 1) := by decide +kernel
theorem dX9_free_45 : decode cX9_free 45 = .ok (.iload_n 2, 1) := by decide +kernel
theorem dX9_free_46 : decode cX9_free 46 = .ok (.iload_n 3, 1) := by decide +kernel
theorem dX9_free_47 : decode cX9_free 47 = .ok (.invokevirtual 372, 3) := by decide +kernel
theorem dX9_free_50 : decode cX9_free 50 = .ok (.iload_n 1, 1) := by decide +kernel
theorem dX9_free_51 : decode cX9_free 51 = .ok (.aload_n 0, 1) := by decide +kernel
theorem dX9_free_52 : decode cX9_free 52 = .ok (.aload_n 0, 1) := by decide +kernel
theorem dX9_free_53 : decode cX9_free 53 = .ok (.getfield 71, 3) := by decide +kernel
theorem dX9_free_56 : decode cX9_free 56 = .ok (.invokevirtual 314, 3) := by decide +kernel
theorem dX9_free_59 : decode cX9_free 59 = .ok (.bipush (-2), 2) := by decide +kernel
theorem dX9_free_61 : decode cX9_free 61 = .ok (.if_icmp .ne 7, 3) := by decide +kernel
theorem dX9_free_64 : decode cX9_free 64 = .ok (.iconst 1, 1) := by decide +kernel
theorem dX9_free_65 : decode cX9_free 65 = .ok (.goto 4, 3) := by decide +kernel
theorem dX9_free_68 : decode cX9_free 68 = .ok (.iconst 0, 1) := by decide +kernel
theorem dX9_free_69 : decode cX9_free 69 = .ok (.iadd, 1) := by decide +kernel
theorem dX9_free_70 : decode cX9_free 70 = .ok (.istore_n 1, 1) := by decide +kernel
theorem dX9_free_71 : decode cX9_free 71 = .ok (.iinc 3 1, 3) := by decide +kernel
theorem dX9_free_74 : decode cX9_free 74 = .ok (.goto (-53), 3) := by decide +kernel
theorem dX9_free_77 : decode cX9_free 77 = .ok (.iinc 2 1, 3) := by decide +kernel
theorem dX9_free_80 : decode cX9_free 80 = .ok (.goto (-71), 3) := by decide +kernel
theorem dX9_free_83 : decode cX9_free 83 = .ok (.iload_n 1, 1) := by decide +kernel
theorem dX9_free_84 : decode cX9_free 84 = .ok (.ireturn, 1) := by decide +kernel
theorem dX9_acts_0 : decode cX9_acts 0 = .ok (.aload_n 0, 1) := by decide +kernel
theorem dX9_acts_1 : decode cX9_acts 1 = .ok (.getfield 20, 3) := by decide +kernel
theorem dX9_acts_4 : decode cX9_acts 4 = .ok (.aload_n 0, 1) := by decide +kernel
theorem dX9_acts_5 : decode cX9_acts 5 = .ok (.getfield 238, 3) := by decide +kernel
theorem dX9_acts_8 : decode cX9_acts 8 = .ok (.iload_n 1, 1) := by decide +kernel
theorem dX9_acts_9 : decode cX9_acts 9 = .ok (.iastore, 1) := by decide +kernel
theorem dX9_acts_10 : decode cX9_acts 10 = .ok (.aload_n 0, 1) := by decide +kernel
theorem dX9_acts_11 : decode cX9_acts 11 = .ok (.getfield 23, 3) := by decide +kernel
theorem dX9_acts_14 : decode cX9_acts 14 = .ok (.iconst 4, 1) := by decide +kernel
theorem dX9_acts_15 : decode cX9_acts 15 = .ok (.aload_n 0, 1) := by decide +kernel
theorem dX9_acts_16 : decode cX9_acts 16 = .ok (.getfield 238, 3) := by decide +kernel
theorem dX9_acts_19 : decode cX9_acts 19 = .ok (.imul, 1) := by decide +kernel
theorem dX9_acts_20 : decode cX9_acts 20 = .ok (.iload_n 2, 1) := by decide +kernel
theorem dX9_acts_21 : decode cX9_acts 21 = .ok (.iastore, 1) := by decide +kernel
theorem dX9_acts_22 : decode cX9_acts 22 = .ok (.aload_n 0, 1) := by decide +kernel
theorem dX9_acts_23 : decode cX9_acts 23 = .ok (.getfield 23, 3) := by decide +kernel
theorem dX9_acts_26 : decode cX9_acts 26 = .ok (.iconst 4, 1) := by decide +kernel
theorem dX9_acts_27 : decode cX9_acts 27 = .ok (.aload_n 0, 1) := by decide +kernel
theorem dX9_acts_28 : decode cX9_acts 28 = .ok (.getfield 238, 3) := by decide +kernel
theorem dX9_acts_31 : decode cX9_acts 31 = .ok (.imul, 1) := by decide +kernel
theorem dX9_acts_32 : decode cX9_acts 32 = .ok (.iconst 1, 1) := by decide +kernel
theorem dX9_acts_33 : decode cX9_acts 33 = .ok (.iadd, 1) := by decide +kernel
theorem dX9_acts_34 : decode cX9_acts 34 = .ok (.iload_n 3, 1) := by decide +kernel
theorem dX9_acts_35 : decode cX9_acts 35 = .ok (.iastore, 1) := by decide +kernel
theorem dX9_acts_36 : decode cX9_acts 36 = .ok (.aload_n 0, 1) := by decide +kernel
theorem dX9_acts_37 : decode cX9_acts 37 = .ok (.getfield 23, 3) := by decide +kernel
theorem dX9_acts_40 : decode cX9_acts 40 = .ok (.iconst 4, 1) := by decide +kernel
theorem dX9_acts_41 : decode cX9_acts 41 = .ok (.aload_n 0, 1) := by decide +kernel
theorem dX9_acts_42 : decode cX9_acts 42 = .ok (.getfield 238, 3) := by decide +kernel
theorem dX9_acts_45 : decode cX9_acts 45 = .ok (.imul, 1) := by decide +kernel
theorem dX9_acts_46 : decode cX9_acts 46 = .ok (.iconst 2, 1) := by decide +kernel
theorem dX9_acts_47 : decode cX9_acts 47 = .ok (.iadd, 1) := by decide +kernel
theorem dX9_acts_48 : decode cX9_acts 48 = .ok (.iload 4, 2) := by decide +kernel
theorem dX9_acts_50 : decode cX9_acts 50 = .ok (.iastore, 1) := by decide +kernel
theorem dX9_acts_51 : decode cX9_acts 51 = .ok (.aload_n 0, 1) := by decide +kernel
theorem dX9_acts_52 : decode cX9_acts 52 = .ok (.getfield 23, 3) := by decide +kernel
theorem dX9_acts_55 : decode cX9_acts 55 = .ok (.iconst 4, 1) := by decide +kernel
theorem dX9_acts_56 : decode cX9_acts 56 = .ok (.aload_n 0, 1) := by decide +kernel
theorem dX9_acts_57 : decode cX9_acts 57 = .ok (.getfield 238, 3) := by decide +kernel
theorem dX9_acts_60 : decode cX9_acts 60 = .ok (.imul, 1) := by decide +kernel
theorem dX9_acts_61 : decode cX9_acts 61 = .ok (.iconst 3, 1) := by decide +kernel
theorem dX9_acts_62 : decode cX9_acts 62 = .ok (.iadd, 1) := by decide +kernel
theorem dX9_acts_63 : decode cX9_acts 63 = .ok (.iload 5, 2) := by decide +kernel
theorem dX9_acts_65 : decode cX9_acts 65 = .ok (.iastore, 1) := by decide +kernel
theorem dX9_acts_66 : decode cX9_acts 66 = .ok (.aload_n 0, 1) := by decide +kernel
theorem dX9_acts_67 : decode cX9_acts 67 = .ok (.aload_n 0, 1) := by decide +kernel
theorem dX9_acts_68 : decode cX9_acts 68 = .ok (.getfield 238, 3) := by decide +kernel
theorem dX9_acts_71 : decode cX9_acts 71 = .ok (.invokevirtual 300, 3) := by decide +kernel
theorem dX9_acts_74 : decode cX9_acts 74 = .ok (.aload_n 0, 1) := by decide +kernel
theorem dX9_acts_75 : decode cX9_acts 75 = .ok (.dup, 1) := by decide +kernel
theorem dX9_acts_76 : decode cX9_acts 76 = .ok (.getfield 238, 3) := by decide +kernel
theorem dX9_acts_79 : decode cX9_acts 79 = .ok (.iconst 1, 1) := by decide +kernel
theorem dX9_acts_80 : decode cX9_acts 80 = .ok (.iadd, 1) := by decide +kernel
theorem dX9_acts_81 : decode cX9_acts 81 = .ok (.putfield 238, 3) := by decide +kernel
theorem dX9_acts_84 : decode cX9_acts 84 = .ok (.return_, 1) := by decide +kernel
theorem dX9_whyNotTwo_0 : decode cX9_whyNotTwo 0 = .ok (.aload_n 0, 1) := by decide +kernel
theorem dX9_whyNotTwo_1 : decode cX9_whyNotTwo 1 = .ok (.iload_n 1, 1) := by decide +kernel
theorem dX9_whyNotTwo_2 : decode cX9_whyNotTwo 2 = .ok (.invokevirtual 317, 3) := by decide +kernel
theorem dX9_whyNotTwo_5 : decode cX9_whyNotTwo 5 = .ok (.ifCond .eq 11, 3) := by decide +kernel
theorem dX9_whyNotTwo_8 : decode cX9_whyNotTwo 8 = .ok (.aload_n 0, 1) := by decide +kernel
theorem dX9_whyNotTwo_9 : decode cX9_whyNotTwo 9 = .ok (.iload_n 2, 1) := by decide +kernel
theorem dX9_whyNotTwo_10 : decode cX9_whyNotTwo 10 = .ok (.invokevirtual 317, 3) := by decide +kernel
theorem dX9_whyNotTwo_13 : decode cX9_whyNotTwo 13 = .ok (.ifCond .ne 7, 3) := by decide +kernel
theorem dX9_whyNotTwo_16 : decode cX9_whyNotTwo 16 = .ok (.iconst 1, 1) := by decide +kernel
theorem dX9_whyNotTwo_17 : decode cX9_whyNotTwo 17 = .ok (.goto 12, 3) := by decide +kernel
theorem dX9_whyNotTwo_20 : decode cX9_whyNotTwo 20 = .ok (.iload_n 3, 1) := by decide +kernel
theorem dX9_whyNotTwo_21 : decode cX9_whyNotTwo 21 = .ok (.ifCond .eq 7, 3) := by decide +kernel
theorem dX9_whyNotTwo_24 : decode cX9_whyNotTwo 24 = .ok (.iconst 3, 1) := by decide +kernel
theorem dX9_whyNotTwo_25 : decode cX9_whyNotTwo 25 = .ok (.goto 4, 3) := by decide +kernel
theorem dX9_whyNotTwo_28 : decode cX9_whyNotTwo 28 = .ok (.iconst 0, 1) := by decide +kernel
theorem dX9_whyNotTwo_29 : decode cX9_whyNotTwo 29 = .ok (.ireturn, 1) := by decide +kernel
theorem dX9_join_0 : decode cX9_join 0 = .ok (.aload_n 0, 1) := by decide +kernel
theorem dX9_join_1 : decode cX9_join 1 = .ok (.aload_n 0, 1) := by decide +kernel
theorem dX9_join_2 : decode cX9_join 2 = .ok (.iload_n 1, 1) := by decide +kernel
theorem dX9_join_3 : decode cX9_join 3 = .ok (.iload_n 2, 1) := by decide +kernel
theorem dX9_join_4 : decode cX9_join 4 = .ok (.aload_n 0, 1) := by decide +kernel
theorem dX9_join_5 : decode cX9_join 5 = .ok (.getfield 287, 3) := by decide +kernel
theorem dX9_join_8 : decode cX9_join 8 = .ok (.bipush 12, 2) := by decide +kernel
theorem dX9_join_10 : decode cX9_join 10 = .ok (.if_icmp .ne 7, 3) := by decide +kernel
theorem dX9_join_13 : decode cX9_join 13 = .ok (.iconst 1, 1) := by decide +kernel
theorem dX9_join_14 : decode cX9_join 14 = .ok (.goto 4, 3) := by decide +kernel
theorem dX9_join_17 : decode cX9_join 17 = .ok (.iconst 0, 1) := by decide +kernel
theorem dX9_join_18 : decode cX9_join 18 = .ok (.invokevirtual 387, 3) := by decide +kernel
theorem dX9_join_21 : decode cX9_join 21 = .ok (.invokevirtual 223, 3) := by decide +kernel
theorem dX9_join_24 : decode cX9_join 24 = .ok (.ifCond .eq 5, 3) := by decide +kernel
theorem dX9_join_27 : decode cX9_join 27 = .ok (.iconst (-1), 1) := by decide +kernel
theorem dX9_join_28 : decode cX9_join 28 = .ok (.ireturn, 1) := by decide +kernel
theorem dX9_join_29 : decode cX9_join 29 = .ok (.aload_n 0, 1) := by decide +kernel
theorem dX9_join_30 : decode cX9_join 30 = .ok (.iconst 1, 1) := by decide +kernel
theorem dX9_join_31 : decode cX9_join 31 = .ok (.iload_n 1, 1) := by decide +kernel
theorem dX9_join_32 : decode cX9_join 32 = .ok (.iload_n 2, 1) := by decide +kernel
theorem dX9_join_33 : decode cX9_join 33 = .ok (.iconst 0, 1) := by decide +kernel
theorem dX9_join_34 : decode cX9_join 34 = .ok (.iconst 0, 1) := by decide +kernel
theorem dX9_join_35 : decode cX9_join 35 = .ok (.invokevirtual 391, 3) := by decide +kernel
theorem dX9_join_38 : decode cX9_join 38 = .ok (.aload_n 0, 1) := by decide +kernel
theorem dX9_join_39 : decode cX9_join 39 = .ok (.aload_n 0, 1) := by decide +kernel
theorem dX9_join_40 : decode cX9_join 40 = .ok (.getfield 50, 3) := by decide +kernel
theorem dX9_join_43 : decode cX9_join 43 = .ok (.invokevirtual 310, 3) := by decide +kernel
theorem dX9_join_46 : decode cX9_join 46 = .ok (.ireturn, 1) := by decide +kernel
theorem dX9_part_0 : decode cX9_part 0 = .ok (.aload_n 0, 1) := by decide +kernel
theorem dX9_part_1 : decode cX9_part 1 = .ok (.aload_n 0, 1) := by decide +kernel
theorem dX9_part_2 : decode cX9_part 2 = .ok (.iload_n 1, 1) := by decide +kernel
theorem dX9_part_3 : decode cX9_part 3 = .ok (.iload_n 2, 1) := by decide +kernel
theorem dX9_part_4 : decode cX9_part 4 = .ok (.aload_n 0, 1) := by decide +kernel
theorem dX9_part_5 : decode cX9_part 5 = .ok (.getfield 297, 3) := by decide +kernel
theorem dX9_part_8 : decode cX9_part 8 = .ok (.bipush 8, 2) := by decide +kernel
theorem dX9_part_10 : decode cX9_part 10 = .ok (.if_icmp .ne 7, 3) := by decide +kernel
theorem dX9_part_13 : decode cX9_part 13 = .ok (.iconst 1, 1) := by decide +kernel
theorem dX9_part_14 : decode cX9_part 14 = .ok (.goto 4, 3) := by decide +kernel
theorem dX9_part_17 : decode cX9_part 17 = .ok (.iconst 0, 1) := by decide +kernel
theorem dX9_part_18 : decode cX9_part 18 = .ok (.invokevirtual 387, 3) := by decide +kernel
theorem dX9_part_21 : decode cX9_part 21 = .ok (.invokevirtual 223, 3) := by decide +kernel
theorem dX9_part_24 : decode cX9_part 24 = .ok (.ifCond .eq 5, 3) := by decide +kernel
theorem dX9_part_27 : decode cX9_part 27 = .ok (.iconst (-1), 1) := by decide +kernel
theorem dX9_part_28 : decode cX9_part 28 = .ok (.ireturn, 1) := by decide +kernel
theorem dX9_part_29 : decode cX9_part 29 = .ok (.aload_n 0, 1) := by decide +kernel
theorem dX9_part_30 : decode cX9_part 30 = .ok (.iconst 2, 1) := by decide +kernel
theorem dX9_part_31 : decode cX9_part 31 = .ok (.iload_n 1, 1) := by decide +kernel
theorem dX9_part_32 : decode cX9_part 32 = .ok (.iload_n 2, 1) := by decide +kernel
theorem dX9_part_33 : decode cX9_part 33 = .ok (.iconst 0, 1) := by decide +kernel
theorem dX9_part_34 : decode cX9_part 34 = .ok (.iconst 0, 1) := by decide +kernel
theorem dX9_part_35 : decode cX9_part 35 = .ok (.invokevirtual 391, 3) := by decide +kernel
theorem dX9_part_38 : decode cX9_part 38 = .ok (.aload_n 0, 1) := by decide +kernel
theorem dX9_part_39 : decode cX9_part 39 = .ok (.getfield 50, 3) := by decide +kernel
theorem dX9_part_42 : decode cX9_part 42 = .ok (.iload_n 1, 1) := by decide +kernel
theorem dX9_part_43 : decode cX9_part 43 = .ok (.iaload, 1) := by decide +kernel
theorem dX9_part_44 : decode cX9_part 44 = .ok (.aload_n 0, 1) := by decide +kernel
theorem dX9_part_45 : decode cX9_part 45 = .ok (.getfield 50, 3) := by decide +kernel
theorem dX9_part_48 : decode cX9_part 48 = .ok (.iload_n 2, 1) := by decide +kernel
theorem dX9_part_49 : decode cX9_part 49 = .ok (.iaload, 1) := by decide +kernel
theorem dX9_part_50 : decode cX9_part 50 = .ok (.if_icmp .ne 7, 3) := by decide +kernel
theorem dX9_part_53 : decode cX9_part 53 = .ok (.iconst 1, 1) := by decide +kernel
theorem dX9_part_54 : decode cX9_part 54 = .ok (.goto 4, 3) := by decide +kernel
theorem dX9_part_57 : decode cX9_part 57 = .ok (.iconst 0, 1) := by decide +kernel
theorem dX9_part_58 : decode cX9_part 58 = .ok (.ireturn, 1) := by decide +kernel
theorem dX9_make_0 : decode cX9_make 0 = .ok (.iload_n 1, 1) := by decide +kernel
theorem dX9_make_1 : decode cX9_make 1 = .ok (.iconst 0, 1) := by decide +kernel
theorem dX9_make_2 : decode cX9_make 2 = .ok (.aload_n 0, 1) := by decide +kernel
theorem dX9_make_3 : decode cX9_make 3 = .ok (.getfield 235, 3) := by decide +kernel
theorem dX9_make_6 : decode cX9_make 6 = .ok (.iconst 1, 1) := by decide +kernel
theorem dX9_make_7 : decode cX9_make 7 = .ok (.isub, 1) := by decide +kernel
theorem dX9_make_8 : decode cX9_make 8 = .ok (.invokestatic 132, 3) := by decide +kernel
theorem dX9_make_11 : decode cX9_make 11 = .ok (.istore 5, 2) := by decide +kernel
theorem dX9_make_13 : decode cX9_make 13 = .ok (.iload 5, 2) := by decide +kernel
theorem dX9_make_15 : decode cX9_make 15 = .ok (.ifCond .eq 62, 3) := by decide +kernel
theorem dX9_make_18 : decode cX9_make 18 = .ok (.aload_n 0, 1) := by decide +kernel
theorem dX9_make_19 : decode cX9_make 19 = .ok (.getfield 17, 3) := by decide +kernel
theorem dX9_make_22 : decode cX9_make 22 = .ok (.iload_n 1, 1) := by decide +kernel
theorem dX9_make_23 : decode cX9_make 23 = .ok (.iaload, 1) := by decide +kernel
theorem dX9_make_24 : decode cX9_make 24 = .ok (.iconst 1, 1) := by decide +kernel
theorem dX9_make_25 : decode cX9_make 25 = .ok (.if_icmp .lt 11, 3) := by decide +kernel
theorem dX9_make_28 : decode cX9_make 28 = .ok (.aload_n 0, 1) := by decide +kernel
theorem dX9_make_29 : decode cX9_make 29 = .ok (.iload_n 2, 1) := by decide +kernel
theorem dX9_make_30 : decode cX9_make 30 = .ok (.invokevirtual 317, 3) := by decide +kernel
theorem dX9_make_33 : decode cX9_make 33 = .ok (.ifCond .eq 44, 3) := by decide +kernel
theorem dX9_make_36 : decode cX9_make 36 = .ok (.aload_n 0, 1) := by decide +kernel
theorem dX9_make_37 : decode cX9_make 37 = .ok (.getfield 17, 3) := by decide +kernel
theorem dX9_make_40 : decode cX9_make 40 = .ok (.iload_n 1, 1) := by decide +kernel
theorem dX9_make_41 : decode cX9_make 41 = .ok (.iaload, 1) := by decide +kernel
theorem dX9_make_42 : decode cX9_make 42 = .ok (.iconst 2, 1) := by decide +kernel
theorem dX9_make_43 : decode cX9_make 43 = .ok (.if_icmp .lt 11, 3) := by decide +kernel
theorem dX9_make_46 : decode cX9_make 46 = .ok (.aload_n 0, 1) := by decide +kernel
theorem dX9_make_47 : decode cX9_make 47 = .ok (.iload_n 3, 1) := by decide +kernel
theorem dX9_make_48 : decode cX9_make 48 = .ok (.invokevirtual 317, 3) := by decide +kernel
theorem dX9_make_51 : decode cX9_make 51 = .ok (.ifCond .eq 26, 3) := by decide +kernel
theorem dX9_make_54 : decode cX9_make 54 = .ok (.aload_n 0, 1) := by decide +kernel
theorem dX9_make_55 : decode cX9_make 55 = .ok (.getfield 17, 3) := by decide +kernel
theorem dX9_make_58 : decode cX9_make 58 = .ok (.iload_n 1, 1) := by decide +kernel
theorem dX9_make_59 : decode cX9_make 59 = .ok (.iaload, 1) := by decide +kernel
theorem dX9_make_60 : decode cX9_make 60 = .ok (.iconst 3, 1) := by decide +kernel
theorem dX9_make_61 : decode cX9_make 61 = .ok (.if_icmp .lt 12, 3) := by decide +kernel
theorem dX9_make_64 : decode cX9_make 64 = .ok (.aload_n 0, 1) := by decide +kernel
theorem dX9_make_65 : decode cX9_make 65 = .ok (.iload 4, 2) := by decide +kernel
theorem dX9_make_67 : decode cX9_make 67 = .ok (.invokevirtual 317, 3) := by decide +kernel
theorem dX9_make_70 : decode cX9_make 70 = .ok (.ifCond .eq 7, 3) := by decide +kernel
theorem dX9_make_73 : decode cX9_make 73 = .ok (.iconst 1, 1) := by decide +kernel
theorem dX9_make_74 : decode cX9_make 74 = .ok (.goto 4, 3) := by decide +kernel
theorem dX9_make_77 : decode cX9_make 77 = .ok (.iconst 0, 1) := by decide +kernel
theorem dX9_make_78 : decode cX9_make 78 = .ok (.istore 5, 2) := by decide +kernel
theorem dX9_make_80 : decode cX9_make 80 = .ok (.aload_n 0, 1) := by decide +kernel
theorem dX9_make_81 : decode cX9_make 81 = .ok (.iload 5, 2) := by decide +kernel
theorem dX9_make_83 : decode cX9_make 83 = .ok (.ifCond .ne 7, 3) := by decide +kernel
theorem dX9_make_86 : decode cX9_make 86 = .ok (.iconst 1, 1) := by decide +kernel
theorem dX9_make_87 : decode cX9_make 87 = .ok (.goto 17, 3) := by decide +kernel
theorem dX9_make_90 : decode cX9_make 90 = .ok (.aload_n 0, 1) := by decide +kernel
theorem dX9_make_91 : decode cX9_make 91 = .ok (.getfield 250, 3) := by decide +kernel
theorem dX9_make_94 : decode cX9_make 94 = .ok (.bipush 24, 2) := by decide +kernel
theorem dX9_make_96 : decode cX9_make 96 = .ok (.if_icmp .ne 7, 3) := by decide +kernel
theorem dX9_make_99 : decode cX9_make 99 = .ok (.iconst 3, 1) := by decide +kernel
theorem dX9_make_100 : decode cX9_make 100 = .ok (.goto 4, 3) := by decide +kernel
theorem dX9_make_103 : decode cX9_make 103 = .ok (.iconst 0, 1) := by decide +kernel
theorem dX9_make_104 : decode cX9_make 104 = .ok (.invokevirtual 223, 3) := by decide +kernel
theorem dX9_make_107 : decode cX9_make 107 = .ok (.ifCond .eq 5, 3) := by decide +kernel
theorem dX9_make_110 : decode cX9_make 110 = .ok (.iconst (-1), 1) := by decide +kernel
theorem dX9_make_111 : decode cX9_make 111 = .ok (.ireturn, 1) := by decide +kernel
theorem dX9_make_112 : decode cX9_make 112 = .ok (.aload_n 0, 1) := by decide +kernel
theorem dX9_make_113 : decode cX9_make 113 = .ok (.iconst 0, 1) := by decide +kernel
theorem dX9_make_114 : decode cX9_make 114 = .ok (.iload_n 1, 1) := by decide +kernel
theorem dX9_make_115 : decode cX9_make 115 = .ok (.iload_n 2, 1) := by decide +kernel
theorem dX9_make_116 : decode cX9_make 116 = .ok (.iload_n 3, 1) := by decide +kernel
theorem dX9_make_117 : decode cX9_make 117 = .ok (.iload 4, 2) := by decide +kernel
theorem dX9_make_119 : decode cX9_make 119 = .ok (.invokevirtual 391, 3) := by decide +kernel
theorem dX9_make_122 : decode cX9_make 122 = .ok (.aload_n 0, 1) := by decide +kernel
theorem dX9_make_123 : decode cX9_make 123 = .ok (.getfield 250, 3) := by decide +kernel
theorem dX9_make_126 : decode cX9_make 126 = .ok (.iconst 1, 1) := by decide +kernel
theorem dX9_make_127 : decode cX9_make 127 = .ok (.isub, 1) := by decide +kernel
theorem dX9_make_128 : decode cX9_make 128 = .ok (.ireturn, 1) := by decide +kernel
theorem dX9_undo_0 : decode cX9_undo 0 = .ok (.aload_n 0, 1) := by decide +kernel
theorem dX9_undo_1 : decode cX9_undo 1 = .ok (.iconst 0, 1) := by decide +kernel
theorem dX9_undo_2 : decode cX9_undo 2 = .ok (.putfield 103, 3) := by decide +kernel
theorem dX9_undo_5 : decode cX9_undo 5 = .ok (.aload_n 0, 1) := by decide +kernel
theorem dX9_undo_6 : decode cX9_undo 6 = .ok (.getfield 238, 3) := by decide +kernel
theorem dX9_undo_9 : decode cX9_undo 9 = .ok (.aload_n 0, 1) := by decide +kernel
theorem dX9_undo_10 : decode cX9_undo 10 = .ok (.getfield 241, 3) := by decide +kernel
theorem dX9_undo_13 : decode cX9_undo 13 = .ok (.if_icmp .ne 5, 3) := by decide +kernel
theorem dX9_undo_16 : decode cX9_undo 16 = .ok (.iconst 0, 1) := by decide +kernel
theorem dX9_undo_17 : decode cX9_undo 17 = .ok (.ireturn, 1) := by decide +kernel
theorem dX9_undo_18 : decode cX9_undo 18 = .ok (.aload_n 0, 1) := by decide +kernel
theorem dX9_undo_19 : decode cX9_undo 19 = .ok (.dup, 1) := by decide +kernel
theorem dX9_undo_20 : decode cX9_undo 20 = .ok (.getfield 238, 3) := by decide +kernel
theorem dX9_undo_23 : decode cX9_undo 23 = .ok (.iconst 1, 1) := by decide +kernel
theorem dX9_undo_24 : decode cX9_undo 24 = .ok (.isub, 1) := by decide +kernel
theorem dX9_undo_25 : decode cX9_undo 25 = .ok (.putfield 238, 3) := by decide +kernel
theorem dX9_undo_28 : decode cX9_undo 28 = .ok (.aload_n 0, 1) := by decide +kernel
theorem dX9_undo_29 : decode cX9_undo 29 = .ok (.invokevirtual 247, 3) := by decide +kernel
theorem dX9_undo_32 : decode cX9_undo 32 = .ok (.iconst 1, 1) := by decide +kernel
theorem dX9_undo_33 : decode cX9_undo 33 = .ok (.ireturn, 1) := by decide +kernel
theorem dX9_named_0 : decode cX9_named 0 = .ok (.aload_n 0, 1) := by decide +kernel
theorem dX9_named_1 : decode cX9_named 1 = .ok (.iconst 0, 1) := by decide +kernel
theorem dX9_named_2 : decode cX9_named 2 = .ok (.putfield 103, 3) := by decide +kernel
theorem dX9_named_5 : decode cX9_named 5 = .ok (.iconst 0, 1) := by decide +kernel
theorem dX9_named_6 : decode cX9_named 6 = .ok (.istore_n 2, 1) := by decide +kernel
theorem dX9_named_7 : decode cX9_named 7 = .ok (.iload_n 1, 1) := by decide +kernel
theorem dX9_named_8 : decode cX9_named 8 = .ok (.iconst 0, 1) := by decide +kernel
theorem dX9_named_9 : decode cX9_named 9 = .ok (.aload_n 0, 1) := by decide +kernel
theorem dX9_named_10 : decode cX9_named 10 = .ok (.getfield 109, 3) := by decide +kernel
theorem dX9_named_13 : decode cX9_named 13 = .ok (.invokestatic 132, 3) := by decide +kernel
theorem dX9_named_16 : decode cX9_named 16 = .ok (.ifCond .eq 7, 3) := by decide +kernel
theorem dX9_named_19 : decode cX9_named 19 = .ok (.iload_n 1, 1) := by decide +kernel
theorem dX9_named_20 : decode cX9_named 20 = .ok (.goto 4, 3) := by decide +kernel
theorem dX9_named_23 : decode cX9_named 23 = .ok (.iconst 0, 1) := by decide +kernel
theorem dX9_named_24 : decode cX9_named 24 = .ok (.istore_n 3, 1) := by decide +kernel
theorem dX9_named_25 : decode cX9_named 25 = .ok (.iload_n 2, 1) := by decide +kernel
theorem dX9_named_26 : decode cX9_named 26 = .ok (.iload_n 3, 1) := by decide +kernel
theorem dX9_named_27 : decode cX9_named 27 = .ok (.if_icmp .ge 20, 3) := by decide +kernel
theorem dX9_named_30 : decode cX9_named 30 = .ok (.aload_n 0, 1) := by decide +kernel
theorem dX9_named_31 : decode cX9_named 31 = .ok (.getfield 13, 3) := by decide +kernel
theorem dX9_named_34 : decode cX9_named 34 = .ok (.iload_n 2, 1) := by decide +kernel
theorem dX9_named_35 : decode cX9_named 35 = .ok (.iaload, 1) := by decide +kernel
theorem dX9_named_36 : decode cX9_named 36 = .ok (.bipush 32, 2) := by decide +kernel
theorem dX9_named_38 : decode cX9_named 38 = .ok (.if_icmp .ne 9, 3) := by decide +kernel
theorem dX9_named_41 : decode cX9_named 41 = .ok (.iinc 2 1, 3) := by decide +kernel
theorem dX9_named_44 : decode cX9_named 44 = .ok (.goto (-19), 3) := by decide +kernel
theorem dX9_named_47 : decode cX9_named 47 = .ok (.iload_n 3, 1) := by decide +kernel
theorem dX9_named_48 : decode cX9_named 48 = .ok (.iload_n 2, 1) := by decide +kernel
theorem dX9_named_49 : decode cX9_named 49 = .ok (.if_icmp .le 22, 3) := by decide +kernel
theorem dX9_named_52 : decode cX9_named 52 = .ok (.aload_n 0, 1) := by decide +kernel
theorem dX9_named_53 : decode cX9_named 53 = .ok (.getfield 13, 3) := by decide +kernel
theorem dX9_named_56 : decode cX9_named 56 = .ok (.iload_n 3, 1) := by decide +kernel
theorem dX9_named_57 : decode cX9_named 57 = .ok (.iconst 1, 1) := by decide +kernel
theorem dX9_named_58 : decode cX9_named 58 = .ok (.isub, 1) := by decide +kernel
theorem dX9_named_59 : decode cX9_named 59 = .ok (.iaload, 1) := by decide +kernel
theorem dX9_named_60 : decode cX9_named 60 = .ok (.bipush 32, 2) := by decide +kernel
theorem dX9_named_62 : decode cX9_named 62 = .ok (.if_icmp .ne 9, 3) := by decide +kernel
theorem dX9_named_65 : decode cX9_named 65 = .ok (.iinc 3 (-1), 3) := by decide +kernel
theorem dX9_named_68 : decode cX9_named 68 = .ok (.goto (-21), 3) := by decide +kernel
theorem dX9_named_71 : decode cX9_named 71 = .ok (.iconst 0, 1) := by decide +kernel
theorem dX9_named_72 : decode cX9_named 72 = .ok (.istore 4, 2) := by decide +kernel
theorem dX9_named_74 : decode cX9_named 74 = .ok (.iload_n 3, 1) := by decide +kernel
theorem dX9_named_75 : decode cX9_named 75 = .ok (.iload_n 2, 1) := by decide +kernel
theorem dX9_named_76 : decode cX9_named 76 = .ok (.if_icmp .le 39, 3) := by decide +kernel
theorem dX9_named_79 : decode cX9_named 79 = .ok (.iload 4, 2) := by decide +kernel
theorem dX9_named_81 : decode cX9_named 81 = .ok (.aload_n 0, 1) := by decide +kernel
theorem dX9_named_82 : decode cX9_named 82 = .ok (.getfield 244, 3) := by decide +kernel
theorem dX9_named_85 : decode cX9_named 85 = .ok (.if_icmp .ge 30, 3) := by decide +kernel
theorem dX9_named_88 : decode cX9_named 88 = .ok (.aload_n 0, 1) := by decide +kernel
theorem dX9_named_89 : decode cX9_named 89 = .ok (.aload_n 0, 1) := by decide +kernel
theorem dX9_named_90 : decode cX9_named 90 = .ok (.getfield 26, 3) := by decide +kernel
theorem dX9_named_93 : decode cX9_named 93 = .ok (.bipush 6, 2) := by decide +kernel
theorem dX9_named_95 : decode cX9_named 95 = .ok (.iload 4, 2) := by decide +kernel
theorem dX9_named_97 : decode cX9_named 97 = .ok (.imul, 1) := by decide +kernel
theorem dX9_named_98 : decode cX9_named 98 = .ok (.iload_n 2, 1) := by decide +kernel
theorem dX9_named_99 : decode cX9_named 99 = .ok (.iload_n 3, 1) := by decide +kernel
theorem dX9_named_100 : decode cX9_named 100 = .ok (.invokevirtual 169, 3) := by decide +kernel
theorem dX9_named_103 : decode cX9_named 103 = .ok (.ifCond .eq 6, 3) := by decide +kernel
theorem dX9_named_106 : decode cX9_named 106 = .ok (.iload 4, 2) := by decide +kernel
theorem dX9_named_108 : decode cX9_named 108 = .ok (.ireturn, 1) := by decide +kernel
theorem dX9_named_109 : decode cX9_named 109 = .ok (.iinc 4 1, 3) := by decide +kernel
theorem dX9_named_112 : decode cX9_named 112 = .ok (.goto (-38), 3) := by decide +kernel
theorem dX9_named_115 : decode cX9_named 115 = .ok (.aload_n 0, 1) := by decide +kernel
theorem dX9_named_116 : decode cX9_named 116 = .ok (.iconst 1, 1) := by decide +kernel
theorem dX9_named_117 : decode cX9_named 117 = .ok (.putfield 103, 3) := by decide +kernel
theorem dX9_named_120 : decode cX9_named 120 = .ok (.iconst 0, 1) := by decide +kernel
theorem dX9_named_121 : decode cX9_named 121 = .ok (.ireturn, 1) := by decide +kernel
theorem dX9_size_0 : decode cX9_size 0 = .ok (.aload_n 0, 1) := by decide +kernel
theorem dX9_size_1 : decode cX9_size 1 = .ok (.iconst 0, 1) := by decide +kernel
theorem dX9_size_2 : decode cX9_size 2 = .ok (.putfield 103, 3) := by decide +kernel
theorem dX9_size_5 : decode cX9_size 5 = .ok (.aload_n 0, 1) := by decide +kernel
theorem dX9_size_6 : decode cX9_size 6 = .ok (.getfield 109, 3) := by decide +kernel
theorem dX9_size_9 : decode cX9_size 9 = .ok (.ireturn, 1) := by decide +kernel
theorem dX9_trouble_0 : decode cX9_trouble 0 = .ok (.aload_n 0, 1) := by decide +kernel
theorem dX9_trouble_1 : decode cX9_trouble 1 = .ok (.iconst 0, 1) := by decide +kernel
theorem dX9_trouble_2 : decode cX9_trouble 2 = .ok (.putfield 103, 3) := by decide +kernel
theorem dX9_trouble_5 : decode cX9_trouble 5 = .ok (.aload_n 0, 1) := by decide +kernel
theorem dX9_trouble_6 : decode cX9_trouble 6 = .ok (.getfield 106, 3) := by decide +kernel
theorem dX9_trouble_9 : decode cX9_trouble 9 = .ok (.ireturn, 1) := by decide +kernel
theorem dJ6_bitCount_0f7a4_0 : decode cJ6_bitCount_0f7a4 0 = .ok (.iload_n 0, 1) := by decide +kernel
theorem dJ6_bitCount_0f7a4_1 : decode cJ6_bitCount_0f7a4 1 = .ok (.iload_n 0, 1) := by decide +kernel
theorem dJ6_bitCount_0f7a4_2 : decode cJ6_bitCount_0f7a4 2 = .ok (.iconst 1, 1) := by decide +kernel
theorem dJ6_bitCount_0f7a4_3 : decode cJ6_bitCount_0f7a4 3 = .ok (.iushr, 1) := by decide +kernel
theorem dJ6_bitCount_0f7a4_4 : decode cJ6_bitCount_0f7a4 4 = .ok (.ldc_w 265, 3) := by decide +kernel
theorem dJ6_bitCount_0f7a4_7 : decode cJ6_bitCount_0f7a4 7 = .ok (.iand, 1) := by decide +kernel
theorem dJ6_bitCount_0f7a4_8 : decode cJ6_bitCount_0f7a4 8 = .ok (.isub, 1) := by decide +kernel
theorem dJ6_bitCount_0f7a4_9 : decode cJ6_bitCount_0f7a4 9 = .ok (.istore_n 0, 1) := by decide +kernel
theorem dJ6_bitCount_0f7a4_10 : decode cJ6_bitCount_0f7a4 10 = .ok (.iload_n 0, 1) := by decide +kernel
theorem dJ6_bitCount_0f7a4_11 : decode cJ6_bitCount_0f7a4 11 = .ok (.ldc_w 266, 3) := by decide +kernel
theorem dJ6_bitCount_0f7a4_14 : decode cJ6_bitCount_0f7a4 14 = .ok (.iand, 1) := by decide +kernel
theorem dJ6_bitCount_0f7a4_15 : decode cJ6_bitCount_0f7a4 15 = .ok (.iload_n 0, 1) := by decide +kernel
theorem dJ6_bitCount_0f7a4_16 : decode cJ6_bitCount_0f7a4 16 = .ok (.iconst 2, 1) := by decide +kernel
theorem dJ6_bitCount_0f7a4_17 : decode cJ6_bitCount_0f7a4 17 = .ok (.iushr, 1) := by decide +kernel
theorem dJ6_bitCount_0f7a4_18 : decode cJ6_bitCount_0f7a4 18 = .ok (.ldc_w 266, 3) := by decide +kernel
theorem dJ6_bitCount_0f7a4_21 : decode cJ6_bitCount_0f7a4 21 = .ok (.iand, 1) := by decide +kernel
theorem dJ6_bitCount_0f7a4_22 : decode cJ6_bitCount_0f7a4 22 = .ok (.iadd, 1) := by decide +kernel
theorem dJ6_bitCount_0f7a4_23 : decode cJ6_bitCount_0f7a4 23 = .ok (.istore_n 0, 1) := by decide +kernel
theorem dJ6_bitCount_0f7a4_24 : decode cJ6_bitCount_0f7a4 24 = .ok (.iload_n 0, 1) := by decide +kernel
theorem dJ6_bitCount_0f7a4_25 : decode cJ6_bitCount_0f7a4 25 = .ok (.iload_n 0, 1) := by decide +kernel
theorem dJ6_bitCount_0f7a4_26 : decode cJ6_bitCount_0f7a4 26 = .ok (.iconst 4, 1) := by decide +kernel
theorem dJ6_bitCount_0f7a4_27 : decode cJ6_bitCount_0f7a4 27 = .ok (.iushr, 1) := by decide +kernel
theorem dJ6_bitCount_0f7a4_28 : decode cJ6_bitCount_0f7a4 28 = .ok (.iadd, 1) := by decide +kernel
theorem dJ6_bitCount_0f7a4_29 : decode cJ6_bitCount_0f7a4 29 = .ok (.ldc_w 267, 3) := by decide +kernel
theorem dJ6_bitCount_0f7a4_32 : decode cJ6_bitCount_0f7a4 32 = .ok (.iand, 1) := by decide +kernel
theorem dJ6_bitCount_0f7a4_33 : decode cJ6_bitCount_0f7a4 33 = .ok (.istore_n 0, 1) := by decide +kernel
theorem dJ6_bitCount_0f7a4_34 : decode cJ6_bitCount_0f7a4 34 = .ok (.iload_n 0, 1) := by decide +kernel
theorem dJ6_bitCount_0f7a4_35 : decode cJ6_bitCount_0f7a4 35 = .ok (.iload_n 0, 1) := by decide +kernel
theorem dJ6_bitCount_0f7a4_36 : decode cJ6_bitCount_0f7a4 36 = .ok (.bipush 8, 2) := by decide +kernel
theorem dJ6_bitCount_0f7a4_38 : decode cJ6_bitCount_0f7a4 38 = .ok (.iushr, 1) := by decide +kernel
theorem dJ6_bitCount_0f7a4_39 : decode cJ6_bitCount_0f7a4 39 = .ok (.iadd, 1) := by decide +kernel
theorem dJ6_bitCount_0f7a4_40 : decode cJ6_bitCount_0f7a4 40 = .ok (.istore_n 0, 1) := by decide +kernel
theorem dJ6_bitCount_0f7a4_41 : decode cJ6_bitCount_0f7a4 41 = .ok (.iload_n 0, 1) := by decide +kernel
theorem dJ6_bitCount_0f7a4_42 : decode cJ6_bitCount_0f7a4 42 = .ok (.iload_n 0, 1) := by decide +kernel
theorem dJ6_bitCount_0f7a4_43 : decode cJ6_bitCount_0f7a4 43 = .ok (.bipush 16, 2) := by decide +kernel
theorem dJ6_bitCount_0f7a4_45 : decode cJ6_bitCount_0f7a4 45 = .ok (.iushr, 1) := by decide +kernel
theorem dJ6_bitCount_0f7a4_46 : decode cJ6_bitCount_0f7a4 46 = .ok (.iadd, 1) := by decide +kernel
theorem dJ6_bitCount_0f7a4_47 : decode cJ6_bitCount_0f7a4 47 = .ok (.istore_n 0, 1) := by decide +kernel
theorem dJ6_bitCount_0f7a4_48 : decode cJ6_bitCount_0f7a4 48 = .ok (.iload_n 0, 1) := by decide +kernel
theorem dJ6_bitCount_0f7a4_49 : decode cJ6_bitCount_0f7a4 49 = .ok (.bipush 63, 2) := by decide +kernel
theorem dJ6_bitCount_0f7a4_51 : decode cJ6_bitCount_0f7a4 51 = .ok (.iand, 1) := by decide +kernel
theorem dJ6_bitCount_0f7a4_52 : decode cJ6_bitCount_0f7a4 52 = .ok (.ireturn, 1) := by decide +kernel
theorem dL_named_0 : decode cL_named 0 = .ok (.aload_n 2, 1) := by decide +kernel
theorem dL_named_1 : decode cL_named 1 = .ok (.iconst 0, 1) := by decide +kernel
theorem dL_named_2 : decode cL_named 2 = .ok (.aload_n 0, 1) := by decide +kernel
theorem dL_named_3 : decode cL_named 3 = .ok (.iload_n 1, 1) := by decide +kernel
theorem dL_named_4 : decode cL_named 4 = .ok (.invokevirtual 7, 3) := by decide +kernel
theorem dL_named_7 : decode cL_named 7 = .ok (.i2l, 1) := by decide +kernel
theorem dL_named_8 : decode cL_named 8 = .ok (.lastore, 1) := by decide +kernel
theorem dL_named_9 : decode cL_named 9 = .ok (.goto 6, 3) := by decide +kernel
theorem dL_named_12 : decode cL_named 12 = .ok (.astore_n 3, 1) := by decide +kernel
theorem dL_named_13 : decode cL_named 13 = .ok (.iconst 1, 1) := by decide +kernel
theorem dL_named_14 : decode cL_named 14 = .ok (.ireturn, 1) := by decide +kernel
theorem dL_named_15 : decode cL_named 15 = .ok (.iconst 0, 1) := by decide +kernel
theorem dL_named_16 : decode cL_named 16 = .ok (.ireturn, 1) := by decide +kernel
theorem dL_law_0 : decode cL_law 0 = .ok (.new 8, 3) := by decide +kernel
theorem dL_law_3 : decode cL_law 3 = .ok (.dup, 1) := by decide +kernel
theorem dL_law_4 : decode cL_law 4 = .ok (.invokespecial 15, 3) := by decide +kernel
theorem dL_law_7 : decode cL_law 7 = .ok (.astore_n 1, 1) := by decide +kernel
theorem dL_law_8 : decode cL_law 8 = .ok (.new 16, 3) := by decide +kernel
theorem dL_law_11 : decode cL_law 11 = .ok (.dup, 1) := by decide +kernel
theorem dL_law_12 : decode cL_law 12 = .ok (.invokespecial 18, 3) := by decide +kernel
theorem dL_law_15 : decode cL_law 15 = .ok (.astore_n 2, 1) := by decide +kernel
theorem dL_law_16 : decode cL_law 16 = .ok (.iconst 1, 1) := by decide +kernel
theorem dL_law_17 : decode cL_law 17 = .ok (.newarray .long, 2) := by decide +kernel
theorem dL_law_19 : decode cL_law 19 = .ok (.astore_n 3, 1) := by decide +kernel
theorem dL_law_20 : decode cL_law 20 = .ok (.iconst 0, 1) := by decide +kernel
theorem dL_law_21 : decode cL_law 21 = .ok (.istore 4, 2) := by decide +kernel
theorem dL_law_23 : decode cL_law 23 = .ok (.iload 4, 2) := by decide +kernel
theorem dL_law_25 : decode cL_law 25 = .ok (.aload_n 0, 1) := by decide +kernel
theorem dL_law_26 : decode cL_law 26 = .ok (.arraylength, 1) := by decide +kernel
theorem dL_law_27 : decode cL_law 27 = .ok (.bipush 6, 2) := by decide +kernel
theorem dL_law_29 : decode cL_law 29 = .ok (.isub, 1) := by decide +kernel
theorem dL_law_30 : decode cL_law 30 = .ok (.if_icmp .gt 1501, 3) := by decide +kernel
theorem dL_law_33 : decode cL_law 33 = .ok (.aload_n 0, 1) := by decide +kernel
theorem dL_law_34 : decode cL_law 34 = .ok (.iload 4, 2) := by decide +kernel
theorem dL_law_36 : decode cL_law 36 = .ok (.iaload, 1) := by decide +kernel
theorem dL_law_37 : decode cL_law 37 = .ok (.bipush 63, 2) := by decide +kernel
theorem dL_law_39 : decode cL_law 39 = .ok (.iand, 1) := by decide +kernel
theorem dL_law_40 : decode cL_law 40 = .ok (.tableswitch 1485 0 37 #[168, 241, 266, 279, 292, 317, 354, 391, 428, 465, 502, 539, 564, 601, 638, 675, 712, 749, 786, 835, 872, 909, 946, 959, 996, 1033, 1082, 1095, 1144, 1205, 1242, 1255, 1292, 1329, 1390, 1403, 1459, 1472], 168) := by decide +kernel
theorem dL_law_208 : decode cL_law 208 = .ok (.aload_n 1, 1) := by decide +kernel
theorem dL_law_209 : decode cL_law 209 = .ok (.aload_n 0, 1) := by decide +kernel
theorem dL_law_210 : decode cL_law 210 = .ok (.iload 4, 2) := by decide +kernel
theorem dL_law_212 : decode cL_law 212 = .ok (.iconst 1, 1) := by decide +kernel
theorem dL_law_213 : decode cL_law 213 = .ok (.iadd, 1) := by decide +kernel
theorem dL_law_214 : decode cL_law 214 = .ok (.iaload, 1) := by decide +kernel
theorem dL_law_215 : decode cL_law 215 = .ok (.aload_n 0, 1) := by decide +kernel
theorem dL_law_216 : decode cL_law 216 = .ok (.iload 4, 2) := by decide +kernel
theorem dL_law_218 : decode cL_law 218 = .ok (.iconst 2, 1) := by decide +kernel
theorem dL_law_219 : decode cL_law 219 = .ok (.iadd, 1) := by decide +kernel
theorem dL_law_220 : decode cL_law 220 = .ok (.iaload, 1) := by decide +kernel
theorem dL_law_221 : decode cL_law 221 = .ok (.aload_n 0, 1) := by decide +kernel
theorem dL_law_222 : decode cL_law 222 = .ok (.iload 4, 2) := by decide +kernel
theorem dL_law_224 : decode cL_law 224 = .ok (.iconst 3, 1) := by decide +kernel
theorem dL_law_225 : decode cL_law 225 = .ok (.iadd, 1) := by decide +kernel
theorem dL_law_226 : decode cL_law 226 = .ok (.iaload, 1) := by decide +kernel
theorem dL_law_227 : decode cL_law 227 = .ok (.aload_n 0, 1) := by decide +kernel
theorem dL_law_228 : decode cL_law 228 = .ok (.iload 4, 2) := by decide +kernel
theorem dL_law_230 : decode cL_law 230 = .ok (.iconst 4, 1) := by decide +kernel
theorem dL_law_231 : decode cL_law 231 = .ok (.iadd, 1) := by decide +kernel
theorem dL_law_232 : decode cL_law 232 = .ok (.iaload, 1) := by decide +kernel
theorem dL_law_233 : decode cL_law 233 = .ok (.aload_n 0, 1) := by decide +kernel
theorem dL_law_234 : decode cL_law 234 = .ok (.iload 4, 2) := by decide +kernel
theorem dL_law_236 : decode cL_law 236 = .ok (.iconst 5, 1) := by decide +kernel
theorem dL_law_237 : decode cL_law 237 = .ok (.iadd, 1) := by decide +kernel
theorem dL_law_238 : decode cL_law 238 = .ok (.iaload, 1) := by decide +kernel
theorem dL_law_239 : decode cL_law 239 = .ok (.invokevirtual 19, 3) := by decide +kernel
theorem dL_law_242 : decode cL_law 242 = .ok (.aload_n 2, 1) := by decide +kernel
theorem dL_law_243 : decode cL_law 243 = .ok (.aload_n 0, 1) := by decide +kernel
theorem dL_law_244 : decode cL_law 244 = .ok (.iload 4, 2) := by decide +kernel
theorem dL_law_246 : decode cL_law 246 = .ok (.iconst 1, 1) := by decide +kernel
theorem dL_law_247 : decode cL_law 247 = .ok (.iadd, 1) := by decide +kernel
theorem dL_law_248 : decode cL_law 248 = .ok (.iaload, 1) := by decide +kernel
theorem dL_law_249 : decode cL_law 249 = .ok (.aload_n 0, 1) := by decide +kernel
theorem dL_law_250 : decode cL_law 250 = .ok (.iload 4, 2) := by decide +kernel
theorem dL_law_252 : decode cL_law 252 = .ok (.iconst 2, 1) := by decide +kernel
theorem dL_law_253 : decode cL_law 253 = .ok (.iadd, 1) := by decide +kernel
theorem dL_law_254 : decode cL_law 254 = .ok (.iaload, 1) := by decide +kernel
theorem dL_law_255 : decode cL_law 255 = .ok (.aload_n 0, 1) := by decide +kernel
theorem dL_law_256 : decode cL_law 256 = .ok (.iload 4, 2) := by decide +kernel
theorem dL_law_258 : decode cL_law 258 = .ok (.iconst 3, 1) := by decide +kernel
theorem dL_law_259 : decode cL_law 259 = .ok (.iadd, 1) := by decide +kernel
theorem dL_law_260 : decode cL_law 260 = .ok (.iaload, 1) := by decide +kernel
theorem dL_law_261 : decode cL_law 261 = .ok (.aload_n 0, 1) := by decide +kernel
theorem dL_law_262 : decode cL_law 262 = .ok (.iload 4, 2) := by decide +kernel
theorem dL_law_264 : decode cL_law 264 = .ok (.iconst 4, 1) := by decide +kernel
theorem dL_law_265 : decode cL_law 265 = .ok (.iadd, 1) := by decide +kernel
theorem dL_law_266 : decode cL_law 266 = .ok (.iaload, 1) := by decide +kernel
theorem dL_law_267 : decode cL_law 267 = .ok (.aload_n 0, 1) := by decide +kernel
theorem dL_law_268 : decode cL_law 268 = .ok (.iload 4, 2) := by decide +kernel
theorem dL_law_270 : decode cL_law 270 = .ok (.iconst 5, 1) := by decide +kernel
theorem dL_law_271 : decode cL_law 271 = .ok (.iadd, 1) := by decide +kernel
theorem dL_law_272 : decode cL_law 272 = .ok (.iaload, 1) := by decide +kernel
theorem dL_law_273 : decode cL_law 273 = .ok (.invokevirtual 23, 3) := by decide +kernel
theorem dL_law_276 : decode cL_law 276 = .ok (.if_icmp .eq 1249, 3) := by decide +kernel
theorem dL_law_279 : decode cL_law 279 = .ok (.iconst 0, 1) := by decide +kernel
theorem dL_law_280 : decode cL_law 280 = .ok (.ireturn, 1) := by decide +kernel
theorem dL_law_281 : decode cL_law 281 = .ok (.aload_n 1, 1) := by decide +kernel
theorem dL_law_282 : decode cL_law 282 = .ok (.aload_n 0, 1) := by decide +kernel
theorem dL_law_283 : decode cL_law 283 = .ok (.iload 4, 2) := by decide +kernel
theorem dL_law_285 : decode cL_law 285 = .ok (.iconst 1, 1) := by decide +kernel
theorem dL_law_286 : decode cL_law 286 = .ok (.iadd, 1) := by decide +kernel
theorem dL_law_287 : decode cL_law 287 = .ok (.iaload, 1) := by decide +kernel
theorem dL_law_288 : decode cL_law 288 = .ok (.invokevirtual 24, 3) := by decide +kernel
theorem dL_law_291 : decode cL_law 291 = .ok (.aload_n 2, 1) := by decide +kernel
theorem dL_law_292 : decode cL_law 292 = .ok (.aload_n 0, 1) := by decide +kernel
theorem dL_law_293 : decode cL_law 293 = .ok (.iload 4, 2) := by decide +kernel
theorem dL_law_295 : decode cL_law 295 = .ok (.iconst 1, 1) := by decide +kernel
theorem dL_law_296 : decode cL_law 296 = .ok (.iadd, 1) := by decide +kernel
theorem dL_law_297 : decode cL_law 297 = .ok (.iaload, 1) := by decide +kernel
theorem dL_law_298 : decode cL_law 298 = .ok (.invokevirtual 27, 3) := by decide +kernel
theorem dL_law_301 : decode cL_law 301 = .ok (.if_icmp .eq 1224, 3) := by decide +kernel
theorem dL_law_304 : decode cL_law 304 = .ok (.iconst 0, 1) := by decide +kernel
theorem dL_law_305 : decode cL_law 305 = .ok (.ireturn, 1) := by decide +kernel
theorem dL_law_306 : decode cL_law 306 = .ok (.aload_n 1, 1) := by decide +kernel
theorem dL_law_307 : decode cL_law 307 = .ok (.invokevirtual 28, 3) := by decide +kernel
theorem dL_law_310 : decode cL_law 310 = .ok (.aload_n 2, 1) := by decide +kernel
theorem dL_law_311 : decode cL_law 311 = .ok (.invokevirtual 32, 3) := by decide +kernel
theorem dL_law_314 : decode cL_law 314 = .ok (.if_icmp .eq 1211, 3) := by decide +kernel
theorem dL_law_317 : decode cL_law 317 = .ok (.iconst 0, 1) := by decide +kernel
theorem dL_law_318 : decode cL_law 318 = .ok (.ireturn, 1) := by decide +kernel
theorem dL_law_319 : decode cL_law 319 = .ok (.aload_n 1, 1) := by decide +kernel
theorem dL_law_320 : decode cL_law 320 = .ok (.invokevirtual 33, 3) := by decide +kernel
theorem dL_law_323 : decode cL_law 323 = .ok (.aload_n 2, 1) := by decide +kernel
theorem dL_law_324 : decode cL_law 324 = .ok (.invokevirtual 36, 3) := by decide +kernel
theorem dL_law_327 : decode cL_law 327 = .ok (.if_icmp .eq 1198, 3) := by decide +kernel
theorem dL_law_330 : decode cL_law 330 = .ok (.iconst 0, 1) := by decide +kernel
theorem dL_law_331 : decode cL_law 331 = .ok (.ireturn, 1) := by decide +kernel
theorem dL_law_332 : decode cL_law 332 = .ok (.aload_n 1, 1) := by decide +kernel
theorem dL_law_333 : decode cL_law 333 = .ok (.aload_n 0, 1) := by decide +kernel
theorem dL_law_334 : decode cL_law 334 = .ok (.iload 4, 2) := by decide +kernel
theorem dL_law_336 : decode cL_law 336 = .ok (.iconst 1, 1) := by decide +kernel
theorem dL_law_337 : decode cL_law 337 = .ok (.iadd, 1) := by decide +kernel
theorem dL_law_338 : decode cL_law 338 = .ok (.iaload, 1) := by decide +kernel
theorem dL_law_339 : decode cL_law 339 = .ok (.invokevirtual 37, 3) := by decide +kernel
theorem dL_law_342 : decode cL_law 342 = .ok (.aload_n 2, 1) := by decide +kernel
theorem dL_law_343 : decode cL_law 343 = .ok (.aload_n 0, 1) := by decide +kernel
theorem dL_law_344 : decode cL_law 344 = .ok (.iload 4, 2) := by decide +kernel
theorem dL_law_346 : decode cL_law 346 = .ok (.iconst 1, 1) := by decide +kernel
theorem dL_law_347 : decode cL_law 347 = .ok (.iadd, 1) := by decide +kernel
theorem dL_law_348 : decode cL_law 348 = .ok (.iaload, 1) := by decide +kernel
theorem dL_law_349 : decode cL_law 349 = .ok (.invokevirtual 40, 3) := by decide +kernel
theorem dL_law_352 : decode cL_law 352 = .ok (.if_icmp .eq 1173, 3) := by decide +kernel
theorem dL_law_355 : decode cL_law 355 = .ok (.iconst 0, 1) := by decide +kernel
theorem dL_law_356 : decode cL_law 356 = .ok (.ireturn, 1) := by decide +kernel
theorem dL_law_357 : decode cL_law 357 = .ok (.aload_n 1, 1) := by decide +kernel
theorem dL_law_358 : decode cL_law 358 = .ok (.aload_n 0, 1) := by decide +kernel
theorem dL_law_359 : decode cL_law 359 = .ok (.iload 4, 2) := by decide +kernel
theorem dL_law_361 : decode cL_law 361 = .ok (.iconst 1, 1) := by decide +kernel
theorem dL_law_362 : decode cL_law 362 = .ok (.iadd, 1) := by decide +kernel
theorem dL_law_363 : decode cL_law 363 = .ok (.iaload, 1) := by decide +kernel
theorem dL_law_364 : decode cL_law 364 = .ok (.aload_n 0, 1) := by decide +kernel
theorem dL_law_365 : decode cL_law 365 = .ok (.iload 4, 2) := by decide +kernel
theorem dL_law_367 : decode cL_law 367 = .ok (.iconst 2, 1) := by decide +kernel
theorem dL_law_368 : decode cL_law 368 = .ok (.iadd, 1) := by decide +kernel
theorem dL_law_369 : decode cL_law 369 = .ok (.iaload, 1) := by decide +kernel
theorem dL_law_370 : decode cL_law 370 = .ok (.invokevirtual 41, 3) := by decide +kernel
theorem dL_law_373 : decode cL_law 373 = .ok (.aload_n 2, 1) := by decide +kernel
theorem dL_law_374 : decode cL_law 374 = .ok (.aload_n 0, 1) := by decide +kernel
theorem dL_law_375 : decode cL_law 375 = .ok (.iload 4, 2) := by decide +kernel
theorem dL_law_377 : decode cL_law 377 = .ok (.iconst 1, 1) := by decide +kernel
theorem dL_law_378 : decode cL_law 378 = .ok (.iadd, 1) := by decide +kernel
theorem dL_law_379 : decode cL_law 379 = .ok (.iaload, 1) := by decide +kernel
theorem dL_law_380 : decode cL_law 380 = .ok (.aload_n 0, 1) := by decide +kernel
theorem dL_law_381 : decode cL_law 381 = .ok (.iload 4, 2) := by decide +kernel
theorem dL_law_383 : decode cL_law 383 = .ok (.iconst 2, 1) := by decide +kernel
theorem dL_law_384 : decode cL_law 384 = .ok (.iadd, 1) := by decide +kernel
theorem dL_law_385 : decode cL_law 385 = .ok (.iaload, 1) := by decide +kernel
theorem dL_law_386 : decode cL_law 386 = .ok (.invokevirtual 45, 3) := by decide +kernel
theorem dL_law_389 : decode cL_law 389 = .ok (.if_icmp .eq 1136, 3) := by decide +kernel
theorem dL_law_392 : decode cL_law 392 = .ok (.iconst 0, 1) := by decide +kernel
theorem dL_law_393 : decode cL_law 393 = .ok (.ireturn, 1) := by decide +kernel
theorem dL_law_394 : decode cL_law 394 = .ok (.aload_n 1, 1) := by decide +kernel
theorem dL_law_395 : decode cL_law 395 = .ok (.aload_n 0, 1) := by decide +kernel
theorem dL_law_396 : decode cL_law 396 = .ok (.iload 4, 2) := by decide +kernel
theorem dL_law_398 : decode cL_law 398 = .ok (.iconst 1, 1) := by decide +kernel
theorem dL_law_399 : decode cL_law 399 = .ok (.iadd, 1) := by decide +kernel
theorem dL_law_400 : decode cL_law 400 = .ok (.iaload, 1) := by decide +kernel
theorem dL_law_401 : decode cL_law 401 = .ok (.aload_n 0, 1) := by decide +kernel
theorem dL_law_402 : decode cL_law 402 = .ok (.iload 4, 2) := by decide +kernel
theorem dL_law_404 : decode cL_law 404 = .ok (.iconst 2, 1) := by decide +kernel
theorem dL_law_405 : decode cL_law 405 = .ok (.iadd, 1) := by decide +kernel
theorem dL_law_406 : decode cL_law 406 = .ok (.iaload, 1) := by decide +kernel
theorem dL_law_407 : decode cL_law 407 = .ok (.invokevirtual 46, 3) := by decide +kernel
theorem dL_law_410 : decode cL_law 410 = .ok (.aload_n 2, 1) := by decide +kernel
theorem dL_law_411 : decode cL_law 411 = .ok (.aload_n 0, 1) := by decide +kernel
theorem dL_law_412 : decode cL_law 412 = .ok (.iload 4, 2) := by decide +kernel
theorem dL_law_414 : decode cL_law 414 = .ok (.iconst 1, 1) := by decide +kernel
theorem dL_law_415 : decode cL_law 415 = .ok (.iadd, 1) := by decide +kernel
theorem dL_law_416 : decode cL_law 416 = .ok (.iaload, 1) := by decide +kernel
theorem dL_law_417 : decode cL_law 417 = .ok (.aload_n 0, 1) := by decide +kernel
theorem dL_law_418 : decode cL_law 418 = .ok (.iload 4, 2) := by decide +kernel
theorem dL_law_420 : decode cL_law 420 = .ok (.iconst 2, 1) := by decide +kernel
theorem dL_law_421 : decode cL_law 421 = .ok (.iadd, 1) := by decide +kernel
theorem dL_law_422 : decode cL_law 422 = .ok (.iaload, 1) := by decide +kernel
theorem dL_law_423 : decode cL_law 423 = .ok (.invokevirtual 49, 3) := by decide +kernel
theorem dL_law_426 : decode cL_law 426 = .ok (.if_icmp .eq 1099, 3) := by decide +kernel
theorem dL_law_429 : decode cL_law 429 = .ok (.iconst 0, 1) := by decide +kernel
theorem dL_law_430 : decode cL_law 430 = .ok (.ireturn, 1) := by decide +kernel
theorem dL_law_431 : decode cL_law 431 = .ok (.aload_n 1, 1) := by decide +kernel
theorem dL_law_432 : decode cL_law 432 = .ok (.aload_n 0, 1) := by decide +kernel
theorem dL_law_433 : decode cL_law 433 = .ok (.iload 4, 2) := by decide +kernel
theorem dL_law_435 : decode cL_law 435 = .ok (.iconst 1, 1) := by decide +kernel
theorem dL_law_436 : decode cL_law 436 = .ok (.iadd, 1) := by decide +kernel
theorem dL_law_437 : decode cL_law 437 = .ok (.iaload, 1) := by decide +kernel
theorem dL_law_438 : decode cL_law 438 = .ok (.aload_n 0, 1) := by decide +kernel
theorem dL_law_439 : decode cL_law 439 = .ok (.iload 4, 2) := by decide +kernel
theorem dL_law_441 : decode cL_law 441 = .ok (.iconst 2, 1) := by decide +kernel
theorem dL_law_442 : decode cL_law 442 = .ok (.iadd, 1) := by decide +kernel
theorem dL_law_443 : decode cL_law 443 = .ok (.iaload, 1) := by decide +kernel
theorem dL_law_444 : decode cL_law 444 = .ok (.invokevirtual 50, 3) := by decide +kernel
theorem dL_law_447 : decode cL_law 447 = .ok (.aload_n 2, 1) := by decide +kernel
theorem dL_law_448 : decode cL_law 448 = .ok (.aload_n 0, 1) := by decide +kernel
theorem dL_law_449 : decode cL_law 449 = .ok (.iload 4, 2) := by decide +kernel
theorem dL_law_451 : decode cL_law 451 = .ok (.iconst 1, 1) := by decide +kernel
theorem dL_law_452 : decode cL_law 452 = .ok (.iadd, 1) := by decide +kernel
theorem dL_law_453 : decode cL_law 453 = .ok (.iaload, 1) := by decide +kernel
theorem dL_law_454 : decode cL_law 454 = .ok (.aload_n 0, 1) := by decide +kernel
theorem dL_law_455 : decode cL_law 455 = .ok (.iload 4, 2) := by decide +kernel
theorem dL_law_457 : decode cL_law 457 = .ok (.iconst 2, 1) := by decide +kernel
theorem dL_law_458 : decode cL_law 458 = .ok (.iadd, 1) := by decide +kernel
theorem dL_law_459 : decode cL_law 459 = .ok (.iaload, 1) := by decide +kernel
theorem dL_law_460 : decode cL_law 460 = .ok (.invokevirtual 53, 3) := by decide +kernel
theorem dL_law_463 : decode cL_law 463 = .ok (.if_icmp .eq 1062, 3) := by decide +kernel
theorem dL_law_466 : decode cL_law 466 = .ok (.iconst 0, 1) := by decide +kernel
theorem dL_law_467 : decode cL_law 467 = .ok (.ireturn, 1) := by decide +kernel
theorem dL_law_468 : decode cL_law 468 = .ok (.aload_n 1, 1) := by decide +kernel
theorem dL_law_469 : decode cL_law 469 = .ok (.aload_n 0, 1) := by decide +kernel
theorem dL_law_470 : decode cL_law 470 = .ok (.iload 4, 2) := by decide +kernel
theorem dL_law_472 : decode cL_law 472 = .ok (.iconst 1, 1) := by decide +kernel
theorem dL_law_473 : decode cL_law 473 = .ok (.iadd, 1) := by decide +kernel
theorem dL_law_474 : decode cL_law 474 = .ok (.iaload, 1) := by decide +kernel
theorem dL_law_475 : decode cL_law 475 = .ok (.aload_n 0, 1) := by decide +kernel
theorem dL_law_476 : decode cL_law 476 = .ok (.iload 4, 2) := by decide +kernel
theorem dL_law_478 : decode cL_law 478 = .ok (.iconst 2, 1) := by decide +kernel
theorem dL_law_479 : decode cL_law 479 = .ok (.iadd, 1) := by decide +kernel
theorem dL_law_480 : decode cL_law 480 = .ok (.iaload, 1) := by decide +kernel
theorem dL_law_481 : decode cL_law 481 = .ok (.invokevirtual 54, 3) := by decide +kernel
theorem dL_law_484 : decode cL_law 484 = .ok (.aload_n 2, 1) := by decide +kernel
theorem dL_law_485 : decode cL_law 485 = .ok (.aload_n 0, 1) := by decide +kernel
theorem dL_law_486 : decode cL_law 486 = .ok (.iload 4, 2) := by decide +kernel
theorem dL_law_488 : decode cL_law 488 = .ok (.iconst 1, 1) := by decide +kernel
theorem dL_law_489 : decode cL_law 489 = .ok (.iadd, 1) := by decide +kernel
theorem dL_law_490 : decode cL_law 490 = .ok (.iaload, 1) := by decide +kernel
theorem dL_law_491 : decode cL_law 491 = .ok (.aload_n 0, 1) := by decide +kernel
theorem dL_law_492 : decode cL_law 492 = .ok (.iload 4, 2) := by decide +kernel
theorem dL_law_494 : decode cL_law 494 = .ok (.iconst 2, 1) := by decide +kernel
theorem dL_law_495 : decode cL_law 495 = .ok (.iadd, 1) := by decide +kernel
theorem dL_law_496 : decode cL_law 496 = .ok (.iaload, 1) := by decide +kernel
theorem dL_law_497 : decode cL_law 497 = .ok (.invokevirtual 57, 3) := by decide +kernel
theorem dL_law_500 : decode cL_law 500 = .ok (.if_icmp .eq 1025, 3) := by decide +kernel
theorem dL_law_503 : decode cL_law 503 = .ok (.iconst 0, 1) := by decide +kernel
theorem dL_law_504 : decode cL_law 504 = .ok (.ireturn, 1) := by decide +kernel
theorem dL_law_505 : decode cL_law 505 = .ok (.aload_n 1, 1) := by decide +kernel
theorem dL_law_506 : decode cL_law 506 = .ok (.aload_n 0, 1) := by decide +kernel
theorem dL_law_507 : decode cL_law 507 = .ok (.iload 4, 2) := by decide +kernel
theorem dL_law_509 : decode cL_law 509 = .ok (.iconst 1, 1) := by decide +kernel
theorem dL_law_510 : decode cL_law 510 = .ok (.iadd, 1) := by decide +kernel
theorem dL_law_511 : decode cL_law 511 = .ok (.iaload, 1) := by decide +kernel
theorem dL_law_512 : decode cL_law 512 = .ok (.aload_n 0, 1) := by decide +kernel
theorem dL_law_513 : decode cL_law 513 = .ok (.iload 4, 2) := by decide +kernel
theorem dL_law_515 : decode cL_law 515 = .ok (.iconst 2, 1) := by decide +kernel
theorem dL_law_516 : decode cL_law 516 = .ok (.iadd, 1) := by decide +kernel
theorem dL_law_517 : decode cL_law 517 = .ok (.iaload, 1) := by decide +kernel
theorem dL_law_518 : decode cL_law 518 = .ok (.invokevirtual 58, 3) := by decide +kernel
theorem dL_law_521 : decode cL_law 521 = .ok (.aload_n 2, 1) := by decide +kernel
theorem dL_law_522 : decode cL_law 522 = .ok (.aload_n 0, 1) := by decide +kernel
theorem dL_law_523 : decode cL_law 523 = .ok (.iload 4, 2) := by decide +kernel
theorem dL_law_525 : decode cL_law 525 = .ok (.iconst 1, 1) := by decide +kernel
theorem dL_law_526 : decode cL_law 526 = .ok (.iadd, 1) := by decide +kernel
theorem dL_law_527 : decode cL_law 527 = .ok (.iaload, 1) := by decide +kernel
theorem dL_law_528 : decode cL_law 528 = .ok (.aload_n 0, 1) := by decide +kernel
theorem dL_law_529 : decode cL_law 529 = .ok (.iload 4, 2) := by decide +kernel
theorem dL_law_531 : decode cL_law 531 = .ok (.iconst 2, 1) := by decide +kernel
theorem dL_law_532 : decode cL_law 532 = .ok (.iadd, 1) := by decide +kernel
theorem dL_law_533 : decode cL_law 533 = .ok (.iaload, 1) := by decide +kernel
theorem dL_law_534 : decode cL_law 534 = .ok (.invokevirtual 61, 3) := by decide +kernel
theorem dL_law_537 : decode cL_law 537 = .ok (.if_icmp .eq 988, 3) := by decide +kernel
theorem dL_law_540 : decode cL_law 540 = .ok (.iconst 0, 1) := by decide +kernel
theorem dL_law_541 : decode cL_law 541 = .ok (.ireturn, 1) := by decide +kernel
theorem dL_law_542 : decode cL_law 542 = .ok (.aload_n 1, 1) := by decide +kernel
theorem dL_law_543 : decode cL_law 543 = .ok (.aload_n 0, 1) := by decide +kernel
theorem dL_law_544 : decode cL_law 544 = .ok (.iload 4, 2) := by decide +kernel
theorem dL_law_546 : decode cL_law 546 = .ok (.iconst 1, 1) := by decide +kernel
theorem dL_law_547 : decode cL_law 547 = .ok (.iadd, 1) := by decide +kernel
theorem dL_law_548 : decode cL_law 548 = .ok (.iaload, 1) := by decide +kernel
theorem dL_law_549 : decode cL_law 549 = .ok (.aload_n 0, 1) := by decide +kernel
theorem dL_law_550 : decode cL_law 550 = .ok (.iload 4, 2) := by decide +kernel
theorem dL_law_552 : decode cL_law 552 = .ok (.iconst 2, 1) := by decide +kernel
theorem dL_law_553 : decode cL_law 553 = .ok (.iadd, 1) := by decide +kernel
theorem dL_law_554 : decode cL_law 554 = .ok (.iaload, 1) := by decide +kernel
theorem dL_law_555 : decode cL_law 555 = .ok (.invokevirtual 62, 3) := by decide +kernel
theorem dL_law_558 : decode cL_law 558 = .ok (.aload_n 2, 1) := by decide +kernel
theorem dL_law_559 : decode cL_law 559 = .ok (.aload_n 0, 1) := by decide +kernel
theorem dL_law_560 : decode cL_law 560 = .ok (.iload 4, 2) := by decide +kernel
theorem dL_law_562 : decode cL_law 562 = .ok (.iconst 1, 1) := by decide +kernel
theorem dL_law_563 : decode cL_law 563 = .ok (.iadd, 1) := by decide +kernel
theorem dL_law_564 : decode cL_law 564 = .ok (.iaload, 1) := by decide +kernel
theorem dL_law_565 : decode cL_law 565 = .ok (.aload_n 0, 1) := by decide +kernel
theorem dL_law_566 : decode cL_law 566 = .ok (.iload 4, 2) := by decide +kernel
theorem dL_law_568 : decode cL_law 568 = .ok (.iconst 2, 1) := by decide +kernel
theorem dL_law_569 : decode cL_law 569 = .ok (.iadd, 1) := by decide +kernel
theorem dL_law_570 : decode cL_law 570 = .ok (.iaload, 1) := by decide +kernel
theorem dL_law_571 : decode cL_law 571 = .ok (.invokevirtual 65, 3) := by decide +kernel
theorem dL_law_574 : decode cL_law 574 = .ok (.if_icmp .eq 951, 3) := by decide +kernel
theorem dL_law_577 : decode cL_law 577 = .ok (.iconst 0, 1) := by decide +kernel
theorem dL_law_578 : decode cL_law 578 = .ok (.ireturn, 1) := by decide +kernel
theorem dL_law_579 : decode cL_law 579 = .ok (.aload_n 1, 1) := by decide +kernel
theorem dL_law_580 : decode cL_law 580 = .ok (.aload_n 0, 1) := by decide +kernel
theorem dL_law_581 : decode cL_law 581 = .ok (.iload 4, 2) := by decide +kernel
theorem dL_law_583 : decode cL_law 583 = .ok (.iconst 1, 1) := by decide +kernel
theorem dL_law_584 : decode cL_law 584 = .ok (.iadd, 1) := by decide +kernel
theorem dL_law_585 : decode cL_law 585 = .ok (.iaload, 1) := by decide +kernel
theorem dL_law_586 : decode cL_law 586 = .ok (.invokevirtual 66, 3) := by decide +kernel
theorem dL_law_589 : decode cL_law 589 = .ok (.aload_n 2, 1) := by decide +kernel
theorem dL_law_590 : decode cL_law 590 = .ok (.aload_n 0, 1) := by decide +kernel
theorem dL_law_591 : decode cL_law 591 = .ok (.iload 4, 2) := by decide +kernel
theorem dL_law_593 : decode cL_law 593 = .ok (.iconst 1, 1) := by decide +kernel
theorem dL_law_594 : decode cL_law 594 = .ok (.iadd, 1) := by decide +kernel
theorem dL_law_595 : decode cL_law 595 = .ok (.iaload, 1) := by decide +kernel
theorem dL_law_596 : decode cL_law 596 = .ok (.invokevirtual 69, 3) := by decide +kernel
theorem dL_law_599 : decode cL_law 599 = .ok (.if_icmp .eq 926, 3) := by decide +kernel
theorem dL_law_602 : decode cL_law 602 = .ok (.iconst 0, 1) := by decide +kernel
theorem dL_law_603 : decode cL_law 603 = .ok (.ireturn, 1) := by decide +kernel
theorem dL_law_604 : decode cL_law 604 = .ok (.aload_n 1, 1) := by decide +kernel
theorem dL_law_605 : decode cL_law 605 = .ok (.aload_n 0, 1) := by decide +kernel
theorem dL_law_606 : decode cL_law 606 = .ok (.iload 4, 2) := by decide +kernel
theorem dL_law_608 : decode cL_law 608 = .ok (.iconst 1, 1) := by decide +kernel
theorem dL_law_609 : decode cL_law 609 = .ok (.iadd, 1) := by decide +kernel
theorem dL_law_610 : decode cL_law 610 = .ok (.iaload, 1) := by decide +kernel
theorem dL_law_611 : decode cL_law 611 = .ok (.aload_n 0, 1) := by decide +kernel
theorem dL_law_612 : decode cL_law 612 = .ok (.iload 4, 2) := by decide +kernel
theorem dL_law_614 : decode cL_law 614 = .ok (.iconst 2, 1) := by decide +kernel
theorem dL_law_615 : decode cL_law 615 = .ok (.iadd, 1) := by decide +kernel
theorem dL_law_616 : decode cL_law 616 = .ok (.iaload, 1) := by decide +kernel
theorem dL_law_617 : decode cL_law 617 = .ok (.invokevirtual 70, 3) := by decide +kernel
theorem dL_law_620 : decode cL_law 620 = .ok (.aload_n 2, 1) := by decide +kernel
theorem dL_law_621 : decode cL_law 621 = .ok (.aload_n 0, 1) := by decide +kernel
theorem dL_law_622 : decode cL_law 622 = .ok (.iload 4, 2) := by decide +kernel
theorem dL_law_624 : decode cL_law 624 = .ok (.iconst 1, 1) := by decide +kernel
theorem dL_law_625 : decode cL_law 625 = .ok (.iadd, 1) := by decide +kernel
theorem dL_law_626 : decode cL_law 626 = .ok (.iaload, 1) := by decide +kernel
theorem dL_law_627 : decode cL_law 627 = .ok (.aload_n 0, 1) := by decide +kernel
theorem dL_law_628 : decode cL_law 628 = .ok (.iload 4, 2) := by decide +kernel
theorem dL_law_630 : decode cL_law 630 = .ok (.iconst 2, 1) := by decide +kernel
theorem dL_law_631 : decode cL_law 631 = .ok (.iadd, 1) := by decide +kernel
theorem dL_law_632 : decode cL_law 632 = .ok (.iaload, 1) := by decide +kernel
theorem dL_law_633 : decode cL_law 633 = .ok (.invokevirtual 73, 3) := by decide +kernel
theorem dL_law_636 : decode cL_law 636 = .ok (.if_icmp .eq 889, 3) := by decide +kernel
theorem dL_law_639 : decode cL_law 639 = .ok (.iconst 0, 1) := by decide +kernel
theorem dL_law_640 : decode cL_law 640 = .ok (.ireturn, 1) := by decide +kernel
theorem dL_law_641 : decode cL_law 641 = .ok (.aload_n 1, 1) := by decide +kernel
theorem dL_law_642 : decode cL_law 642 = .ok (.aload_n 0, 1) := by decide +kernel
theorem dL_law_643 : decode cL_law 643 = .ok (.iload 4, 2) := by decide +kernel
theorem dL_law_645 : decode cL_law 645 = .ok (.iconst 1, 1) := by decide +kernel
theorem dL_law_646 : decode cL_law 646 = .ok (.iadd, 1) := by decide +kernel
theorem dL_law_647 : decode cL_law 647 = .ok (.iaload, 1) := by decide +kernel
theorem dL_law_648 : decode cL_law 648 = .ok (.aload_n 0, 1) := by decide +kernel
theorem dL_law_649 : decode cL_law 649 = .ok (.iload 4, 2) := by decide +kernel
theorem dL_law_651 : decode cL_law 651 = .ok (.iconst 2, 1) := by decide +kernel
theorem dL_law_652 : decode cL_law 652 = .ok (.iadd, 1) := by decide +kernel
theorem dL_law_653 : decode cL_law 653 = .ok (.iaload, 1) := by decide +kernel
theorem dL_law_654 : decode cL_law 654 = .ok (.invokevirtual 74, 3) := by decide +kernel
theorem dL_law_657 : decode cL_law 657 = .ok (.aload_n 2, 1) := by decide +kernel
theorem dL_law_658 : decode cL_law 658 = .ok (.aload_n 0, 1) := by decide +kernel
theorem dL_law_659 : decode cL_law 659 = .ok (.iload 4, 2) := by decide +kernel
theorem dL_law_661 : decode cL_law 661 = .ok (.iconst 1, 1) := by decide +kernel
theorem dL_law_662 : decode cL_law 662 = .ok (.iadd, 1) := by decide +kernel
theorem dL_law_663 : decode cL_law 663 = .ok (.iaload, 1) := by decide +kernel
theorem dL_law_664 : decode cL_law 664 = .ok (.aload_n 0, 1) := by decide +kernel
theorem dL_law_665 : decode cL_law 665 = .ok (.iload 4, 2) := by decide +kernel
theorem dL_law_667 : decode cL_law 667 = .ok (.iconst 2, 1) := by decide +kernel
theorem dL_law_668 : decode cL_law 668 = .ok (.iadd, 1) := by decide +kernel
theorem dL_law_669 : decode cL_law 669 = .ok (.iaload, 1) := by decide +kernel
theorem dL_law_670 : decode cL_law 670 = .ok (.invokevirtual 77, 3) := by decide +kernel
theorem dL_law_673 : decode cL_law 673 = .ok (.if_icmp .eq 852, 3) := by decide +kernel
theorem dL_law_676 : decode cL_law 676 = .ok (.iconst 0, 1) := by decide +kernel
theorem dL_law_677 : decode cL_law 677 = .ok (.ireturn, 1) := by decide +kernel
theorem dL_law_678 : decode cL_law 678 = .ok (.aload_n 1, 1) := by decide +kernel
theorem dL_law_679 : decode cL_law 679 = .ok (.aload_n 0, 1) := by decide +kernel
theorem dL_law_680 : decode cL_law 680 = .ok (.iload 4, 2) := by decide +kernel
theorem dL_law_682 : decode cL_law 682 = .ok (.iconst 1, 1) := by decide +kernel
theorem dL_law_683 : decode cL_law 683 = .ok (.iadd, 1) := by decide +kernel
theorem dL_law_684 : decode cL_law 684 = .ok (.iaload, 1) := by decide +kernel
theorem dL_law_685 : decode cL_law 685 = .ok (.aload_n 0, 1) := by decide +kernel
theorem dL_law_686 : decode cL_law 686 = .ok (.iload 4, 2) := by decide +kernel
theorem dL_law_688 : decode cL_law 688 = .ok (.iconst 2, 1) := by decide +kernel
theorem dL_law_689 : decode cL_law 689 = .ok (.iadd, 1) := by decide +kernel
theorem dL_law_690 : decode cL_law 690 = .ok (.iaload, 1) := by decide +kernel
theorem dL_law_691 : decode cL_law 691 = .ok (.invokevirtual 78, 3) := by decide +kernel
theorem dL_law_694 : decode cL_law 694 = .ok (.aload_n 2, 1) := by decide +kernel
theorem dL_law_695 : decode cL_law 695 = .ok (.aload_n 0, 1) := by decide +kernel
theorem dL_law_696 : decode cL_law 696 = .ok (.iload 4, 2) := by decide +kernel
theorem dL_law_698 : decode cL_law 698 = .ok (.iconst 1, 1) := by decide +kernel
theorem dL_law_699 : decode cL_law 699 = .ok (.iadd, 1) := by decide +kernel
theorem dL_law_700 : decode cL_law 700 = .ok (.iaload, 1) := by decide +kernel
theorem dL_law_701 : decode cL_law 701 = .ok (.aload_n 0, 1) := by decide +kernel
theorem dL_law_702 : decode cL_law 702 = .ok (.iload 4, 2) := by decide +kernel
theorem dL_law_704 : decode cL_law 704 = .ok (.iconst 2, 1) := by decide +kernel
theorem dL_law_705 : decode cL_law 705 = .ok (.iadd, 1) := by decide +kernel
theorem dL_law_706 : decode cL_law 706 = .ok (.iaload, 1) := by decide +kernel
theorem dL_law_707 : decode cL_law 707 = .ok (.invokevirtual 81, 3) := by decide +kernel
theorem dL_law_710 : decode cL_law 710 = .ok (.if_icmp .eq 815, 3) := by decide +kernel
theorem dL_law_713 : decode cL_law 713 = .ok (.iconst 0, 1) := by decide +kernel
theorem dL_law_714 : decode cL_law 714 = .ok (.ireturn, 1) := by decide +kernel
theorem dL_law_715 : decode cL_law 715 = .ok (.aload_n 1, 1) := by decide +kernel
theorem dL_law_716 : decode cL_law 716 = .ok (.aload_n 0, 1) := by decide +kernel
theorem dL_law_717 : decode cL_law 717 = .ok (.iload 4, 2) := by decide +kernel
theorem dL_law_719 : decode cL_law 719 = .ok (.iconst 1, 1) := by decide +kernel
theorem dL_law_720 : decode cL_law 720 = .ok (.iadd, 1) := by decide +kernel
theorem dL_law_721 : decode cL_law 721 = .ok (.iaload, 1) := by decide +kernel
theorem dL_law_722 : decode cL_law 722 = .ok (.aload_n 0, 1) := by decide +kernel
theorem dL_law_723 : decode cL_law 723 = .ok (.iload 4, 2) := by decide +kernel
theorem dL_law_725 : decode cL_law 725 = .ok (.iconst 2, 1) := by decide +kernel
theorem dL_law_726 : decode cL_law 726 = .ok (.iadd, 1) := by decide +kernel
theorem dL_law_727 : decode cL_law 727 = .ok (.iaload, 1) := by decide +kernel
theorem dL_law_728 : decode cL_law 728 = .ok (.invokevirtual 82, 3) := by decide +kernel
theorem dL_law_731 : decode cL_law 731 = .ok (.aload_n 2, 1) := by decide +kernel
theorem dL_law_732 : decode cL_law 732 = .ok (.aload_n 0, 1) := by decide +kernel
theorem dL_law_733 : decode cL_law 733 = .ok (.iload 4, 2) := by decide +kernel
theorem dL_law_735 : decode cL_law 735 = .ok (.iconst 1, 1) := by decide +kernel
theorem dL_law_736 : decode cL_law 736 = .ok (.iadd, 1) := by decide +kernel
theorem dL_law_737 : decode cL_law 737 = .ok (.iaload, 1) := by decide +kernel
theorem dL_law_738 : decode cL_law 738 = .ok (.aload_n 0, 1) := by decide +kernel
theorem dL_law_739 : decode cL_law 739 = .ok (.iload 4, 2) := by decide +kernel
theorem dL_law_741 : decode cL_law 741 = .ok (.iconst 2, 1) := by decide +kernel
theorem dL_law_742 : decode cL_law 742 = .ok (.iadd, 1) := by decide +kernel
theorem dL_law_743 : decode cL_law 743 = .ok (.iaload, 1) := by decide +kernel
theorem dL_law_744 : decode cL_law 744 = .ok (.invokevirtual 85, 3) := by decide +kernel
theorem dL_law_747 : decode cL_law 747 = .ok (.if_icmp .eq 778, 3) := by decide +kernel
theorem dL_law_750 : decode cL_law 750 = .ok (.iconst 0, 1) := by decide +kernel
theorem dL_law_751 : decode cL_law 751 = .ok (.ireturn, 1) := by decide +kernel
theorem dL_law_752 : decode cL_law 752 = .ok (.aload_n 1, 1) := by decide +kernel
theorem dL_law_753 : decode cL_law 753 = .ok (.aload_n 0, 1) := by decide +kernel
theorem dL_law_754 : decode cL_law 754 = .ok (.iload 4, 2) := by decide +kernel
theorem dL_law_756 : decode cL_law 756 = .ok (.iconst 1, 1) := by decide +kernel
theorem dL_law_757 : decode cL_law 757 = .ok (.iadd, 1) := by decide +kernel
theorem dL_law_758 : decode cL_law 758 = .ok (.iaload, 1) := by decide +kernel
theorem dL_law_759 : decode cL_law 759 = .ok (.aload_n 0, 1) := by decide +kernel
theorem dL_law_760 : decode cL_law 760 = .ok (.iload 4, 2) := by decide +kernel
theorem dL_law_762 : decode cL_law 762 = .ok (.iconst 2, 1) := by decide +kernel
theorem dL_law_763 : decode cL_law 763 = .ok (.iadd, 1) := by decide +kernel
theorem dL_law_764 : decode cL_law 764 = .ok (.iaload, 1) := by decide +kernel
theorem dL_law_765 : decode cL_law 765 = .ok (.invokevirtual 86, 3) := by decide +kernel
theorem dL_law_768 : decode cL_law 768 = .ok (.aload_n 2, 1) := by decide +kernel
theorem dL_law_769 : decode cL_law 769 = .ok (.aload_n 0, 1) := by decide +kernel
theorem dL_law_770 : decode cL_law 770 = .ok (.iload 4, 2) := by decide +kernel
theorem dL_law_772 : decode cL_law 772 = .ok (.iconst 1, 1) := by decide +kernel
theorem dL_law_773 : decode cL_law 773 = .ok (.iadd, 1) := by decide +kernel
theorem dL_law_774 : decode cL_law 774 = .ok (.iaload, 1) := by decide +kernel
theorem dL_law_775 : decode cL_law 775 = .ok (.aload_n 0, 1) := by decide +kernel
theorem dL_law_776 : decode cL_law 776 = .ok (.iload 4, 2) := by decide +kernel
theorem dL_law_778 : decode cL_law 778 = .ok (.iconst 2, 1) := by decide +kernel
theorem dL_law_779 : decode cL_law 779 = .ok (.iadd, 1) := by decide +kernel
theorem dL_law_780 : decode cL_law 780 = .ok (.iaload, 1) := by decide +kernel
theorem dL_law_781 : decode cL_law 781 = .ok (.invokevirtual 89, 3) := by decide +kernel
theorem dL_law_784 : decode cL_law 784 = .ok (.if_icmp .eq 741, 3) := by decide +kernel
theorem dL_law_787 : decode cL_law 787 = .ok (.iconst 0, 1) := by decide +kernel
theorem dL_law_788 : decode cL_law 788 = .ok (.ireturn, 1) := by decide +kernel
theorem dL_law_789 : decode cL_law 789 = .ok (.aload_n 1, 1) := by decide +kernel
theorem dL_law_790 : decode cL_law 790 = .ok (.aload_n 0, 1) := by decide +kernel
theorem dL_law_791 : decode cL_law 791 = .ok (.iload 4, 2) := by decide +kernel
theorem dL_law_793 : decode cL_law 793 = .ok (.iconst 1, 1) := by decide +kernel
theorem dL_law_794 : decode cL_law 794 = .ok (.iadd, 1) := by decide +kernel
theorem dL_law_795 : decode cL_law 795 = .ok (.iaload, 1) := by decide +kernel
theorem dL_law_796 : decode cL_law 796 = .ok (.aload_n 0, 1) := by decide +kernel
theorem dL_law_797 : decode cL_law 797 = .ok (.iload 4, 2) := by decide +kernel
theorem dL_law_799 : decode cL_law 799 = .ok (.iconst 2, 1) := by decide +kernel
theorem dL_law_800 : decode cL_law 800 = .ok (.iadd, 1) := by decide +kernel
theorem dL_law_801 : decode cL_law 801 = .ok (.iaload, 1) := by decide +kernel
theorem dL_law_802 : decode cL_law 802 = .ok (.invokevirtual 90, 3) := by decide +kernel
theorem dL_law_805 : decode cL_law 805 = .ok (.aload_n 2, 1) := by decide +kernel
theorem dL_law_806 : decode cL_law 806 = .ok (.aload_n 0, 1) := by decide +kernel
theorem dL_law_807 : decode cL_law 807 = .ok (.iload 4, 2) := by decide +kernel
theorem dL_law_809 : decode cL_law 809 = .ok (.iconst 1, 1) := by decide +kernel
theorem dL_law_810 : decode cL_law 810 = .ok (.iadd, 1) := by decide +kernel
theorem dL_law_811 : decode cL_law 811 = .ok (.iaload, 1) := by decide +kernel
theorem dL_law_812 : decode cL_law 812 = .ok (.aload_n 0, 1) := by decide +kernel
theorem dL_law_813 : decode cL_law 813 = .ok (.iload 4, 2) := by decide +kernel
theorem dL_law_815 : decode cL_law 815 = .ok (.iconst 2, 1) := by decide +kernel
theorem dL_law_816 : decode cL_law 816 = .ok (.iadd, 1) := by decide +kernel
theorem dL_law_817 : decode cL_law 817 = .ok (.iaload, 1) := by decide +kernel
theorem dL_law_818 : decode cL_law 818 = .ok (.invokevirtual 93, 3) := by decide +kernel
theorem dL_law_821 : decode cL_law 821 = .ok (.if_icmp .eq 704, 3) := by decide +kernel
theorem dL_law_824 : decode cL_law 824 = .ok (.iconst 0, 1) := by decide +kernel
theorem dL_law_825 : decode cL_law 825 = .ok (.ireturn, 1) := by decide +kernel
theorem dL_law_826 : decode cL_law 826 = .ok (.aload_n 1, 1) := by decide +kernel
theorem dL_law_827 : decode cL_law 827 = .ok (.aload_n 0, 1) := by decide +kernel
theorem dL_law_828 : decode cL_law 828 = .ok (.iload 4, 2) := by decide +kernel
theorem dL_law_830 : decode cL_law 830 = .ok (.iconst 1, 1) := by decide +kernel
theorem dL_law_831 : decode cL_law 831 = .ok (.iadd, 1) := by decide +kernel
theorem dL_law_832 : decode cL_law 832 = .ok (.iaload, 1) := by decide +kernel
theorem dL_law_833 : decode cL_law 833 = .ok (.aload_n 0, 1) := by decide +kernel
theorem dL_law_834 : decode cL_law 834 = .ok (.iload 4, 2) := by decide +kernel
theorem dL_law_836 : decode cL_law 836 = .ok (.iconst 2, 1) := by decide +kernel
theorem dL_law_837 : decode cL_law 837 = .ok (.iadd, 1) := by decide +kernel
theorem dL_law_838 : decode cL_law 838 = .ok (.iaload, 1) := by decide +kernel
theorem dL_law_839 : decode cL_law 839 = .ok (.aload_n 0, 1) := by decide +kernel
theorem dL_law_840 : decode cL_law 840 = .ok (.iload 4, 2) := by decide +kernel
theorem dL_law_842 : decode cL_law 842 = .ok (.iconst 3, 1) := by decide +kernel
theorem dL_law_843 : decode cL_law 843 = .ok (.iadd, 1) := by decide +kernel
theorem dL_law_844 : decode cL_law 844 = .ok (.iaload, 1) := by decide +kernel
theorem dL_law_845 : decode cL_law 845 = .ok (.invokevirtual 94, 3) := by decide +kernel
theorem dL_law_848 : decode cL_law 848 = .ok (.aload_n 2, 1) := by decide +kernel
theorem dL_law_849 : decode cL_law 849 = .ok (.aload_n 0, 1) := by decide +kernel
theorem dL_law_850 : decode cL_law 850 = .ok (.iload 4, 2) := by decide +kernel
theorem dL_law_852 : decode cL_law 852 = .ok (.iconst 1, 1) := by decide +kernel
theorem dL_law_853 : decode cL_law 853 = .ok (.iadd, 1) := by decide +kernel
theorem dL_law_854 : decode cL_law 854 = .ok (.iaload, 1) := by decide +kernel
theorem dL_law_855 : decode cL_law 855 = .ok (.aload_n 0, 1) := by decide +kernel
theorem dL_law_856 : decode cL_law 856 = .ok (.iload 4, 2) := by decide +kernel
theorem dL_law_858 : decode cL_law 858 = .ok (.iconst 2, 1) := by decide +kernel
theorem dL_law_859 : decode cL_law 859 = .ok (.iadd, 1) := by decide +kernel
theorem dL_law_860 : decode cL_law 860 = .ok (.iaload, 1) := by decide +kernel
theorem dL_law_861 : decode cL_law 861 = .ok (.aload_n 0, 1) := by decide +kernel
theorem dL_law_862 : decode cL_law 862 = .ok (.iload 4, 2) := by decide +kernel
theorem dL_law_864 : decode cL_law 864 = .ok (.iconst 3, 1) := by decide +kernel
theorem dL_law_865 : decode cL_law 865 = .ok (.iadd, 1) := by decide +kernel
theorem dL_law_866 : decode cL_law 866 = .ok (.iaload, 1) := by decide +kernel
theorem dL_law_867 : decode cL_law 867 = .ok (.invokevirtual 98, 3) := by decide +kernel
theorem dL_law_870 : decode cL_law 870 = .ok (.if_icmp .eq 655, 3) := by decide +kernel
theorem dL_law_873 : decode cL_law 873 = .ok (.iconst 0, 1) := by decide +kernel
theorem dL_law_874 : decode cL_law 874 = .ok (.ireturn, 1) := by decide +kernel
theorem dL_law_875 : decode cL_law 875 = .ok (.aload_n 1, 1) := by decide +kernel
theorem dL_law_876 : decode cL_law 876 = .ok (.aload_n 0, 1) := by decide +kernel
theorem dL_law_877 : decode cL_law 877 = .ok (.iload 4, 2) := by decide +kernel
theorem dL_law_879 : decode cL_law 879 = .ok (.iconst 1, 1) := by decide +kernel
theorem dL_law_880 : decode cL_law 880 = .ok (.iadd, 1) := by decide +kernel
theorem dL_law_881 : decode cL_law 881 = .ok (.iaload, 1) := by decide +kernel
theorem dL_law_882 : decode cL_law 882 = .ok (.aload_n 0, 1) := by decide +kernel
theorem dL_law_883 : decode cL_law 883 = .ok (.iload 4, 2) := by decide +kernel
theorem dL_law_885 : decode cL_law 885 = .ok (.iconst 2, 1) := by decide +kernel
theorem dL_law_886 : decode cL_law 886 = .ok (.iadd, 1) := by decide +kernel
theorem dL_law_887 : decode cL_law 887 = .ok (.iaload, 1) := by decide +kernel
theorem dL_law_888 : decode cL_law 888 = .ok (.invokevirtual 99, 3) := by decide +kernel
theorem dL_law_891 : decode cL_law 891 = .ok (.aload_n 2, 1) := by decide +kernel
theorem dL_law_892 : decode cL_law 892 = .ok (.aload_n 0, 1) := by decide +kernel
theorem dL_law_893 : decode cL_law 893 = .ok (.iload 4, 2) := by decide +kernel
theorem dL_law_895 : decode cL_law 895 = .ok (.iconst 1, 1) := by decide +kernel
theorem dL_law_896 : decode cL_law 896 = .ok (.iadd, 1) := by decide +kernel
theorem dL_law_897 : decode cL_law 897 = .ok (.iaload, 1) := by decide +kernel
theorem dL_law_898 : decode cL_law 898 = .ok (.aload_n 0, 1) := by decide +kernel
theorem dL_law_899 : decode cL_law 899 = .ok (.iload 4, 2) := by decide +kernel
theorem dL_law_901 : decode cL_law 901 = .ok (.iconst 2, 1) := by decide +kernel
theorem dL_law_902 : decode cL_law 902 = .ok (.iadd, 1) := by decide +kernel
theorem dL_law_903 : decode cL_law 903 = .ok (.iaload, 1) := by decide +kernel
theorem dL_law_904 : decode cL_law 904 = .ok (.invokevirtual 102, 3) := by decide +kernel
theorem dL_law_907 : decode cL_law 907 = .ok (.if_icmp .eq 618, 3) := by decide +kernel
theorem dL_law_910 : decode cL_law 910 = .ok (.iconst 0, 1) := by decide +kernel
theorem dL_law_911 : decode cL_law 911 = .ok (.ireturn, 1) := by decide +kernel
theorem dL_law_912 : decode cL_law 912 = .ok (.aload_n 1, 1) := by decide +kernel
theorem dL_law_913 : decode cL_law 913 = .ok (.aload_n 0, 1) := by decide +kernel
theorem dL_law_914 : decode cL_law 914 = .ok (.iload 4, 2) := by decide +kernel
theorem dL_law_916 : decode cL_law 916 = .ok (.iconst 1, 1) := by decide +kernel
theorem dL_law_917 : decode cL_law 917 = .ok (.iadd, 1) := by decide +kernel
theorem dL_law_918 : decode cL_law 918 = .ok (.iaload, 1) := by decide +kernel
theorem dL_law_919 : decode cL_law 919 = .ok (.aload_n 0, 1) := by decide +kernel
theorem dL_law_920 : decode cL_law 920 = .ok (.iload 4, 2) := by decide +kernel
theorem dL_law_922 : decode cL_law 922 = .ok (.iconst 2, 1) := by decide +kernel
theorem dL_law_923 : decode cL_law 923 = .ok (.iadd, 1) := by decide +kernel
theorem dL_law_924 : decode cL_law 924 = .ok (.iaload, 1) := by decide +kernel
theorem dL_law_925 : decode cL_law 925 = .ok (.invokevirtual 103, 3) := by decide +kernel
theorem dL_law_928 : decode cL_law 928 = .ok (.aload_n 2, 1) := by decide +kernel
theorem dL_law_929 : decode cL_law 929 = .ok (.aload_n 0, 1) := by decide +kernel
theorem dL_law_930 : decode cL_law 930 = .ok (.iload 4, 2) := by decide +kernel
theorem dL_law_932 : decode cL_law 932 = .ok (.iconst 1, 1) := by decide +kernel
theorem dL_law_933 : decode cL_law 933 = .ok (.iadd, 1) := by decide +kernel
theorem dL_law_934 : decode cL_law 934 = .ok (.iaload, 1) := by decide +kernel
theorem dL_law_935 : decode cL_law 935 = .ok (.aload_n 0, 1) := by decide +kernel
theorem dL_law_936 : decode cL_law 936 = .ok (.iload 4, 2) := by decide +kernel
theorem dL_law_938 : decode cL_law 938 = .ok (.iconst 2, 1) := by decide +kernel
theorem dL_law_939 : decode cL_law 939 = .ok (.iadd, 1) := by decide +kernel
theorem dL_law_940 : decode cL_law 940 = .ok (.iaload, 1) := by decide +kernel
theorem dL_law_941 : decode cL_law 941 = .ok (.invokevirtual 106, 3) := by decide +kernel
theorem dL_law_944 : decode cL_law 944 = .ok (.if_icmp .eq 581, 3) := by decide +kernel
theorem dL_law_947 : decode cL_law 947 = .ok (.iconst 0, 1) := by decide +kernel
theorem dL_law_948 : decode cL_law 948 = .ok (.ireturn, 1) := by decide +kernel
theorem dL_law_949 : decode cL_law 949 = .ok (.aload_n 1, 1) := by decide +kernel
theorem dL_law_950 : decode cL_law 950 = .ok (.aload_n 0, 1) := by decide +kernel
theorem dL_law_951 : decode cL_law 951 = .ok (.iload 4, 2) := by decide +kernel
theorem dL_law_953 : decode cL_law 953 = .ok (.iconst 1, 1) := by decide +kernel
theorem dL_law_954 : decode cL_law 954 = .ok (.iadd, 1) := by decide +kernel
theorem dL_law_955 : decode cL_law 955 = .ok (.iaload, 1) := by decide +kernel
theorem dL_law_956 : decode cL_law 956 = .ok (.aload_n 0, 1) := by decide +kernel
theorem dL_law_957 : decode cL_law 957 = .ok (.iload 4, 2) := by decide +kernel
theorem dL_law_959 : decode cL_law 959 = .ok (.iconst 2, 1) := by decide +kernel
theorem dL_law_960 : decode cL_law 960 = .ok (.iadd, 1) := by decide +kernel
theorem dL_law_961 : decode cL_law 961 = .ok (.iaload, 1) := by decide +kernel
theorem dL_law_962 : decode cL_law 962 = .ok (.invokevirtual 107, 3) := by decide +kernel
theorem dL_law_965 : decode cL_law 965 = .ok (.aload_n 2, 1) := by decide +kernel
theorem dL_law_966 : decode cL_law 966 = .ok (.aload_n 0, 1) := by decide +kernel
theorem dL_law_967 : decode cL_law 967 = .ok (.iload 4, 2) := by decide +kernel
theorem dL_law_969 : decode cL_law 969 = .ok (.iconst 1, 1) := by decide +kernel
theorem dL_law_970 : decode cL_law 970 = .ok (.iadd, 1) := by decide +kernel
theorem dL_law_971 : decode cL_law 971 = .ok (.iaload, 1) := by decide +kernel
theorem dL_law_972 : decode cL_law 972 = .ok (.aload_n 0, 1) := by decide +kernel
theorem dL_law_973 : decode cL_law 973 = .ok (.iload 4, 2) := by decide +kernel
theorem dL_law_975 : decode cL_law 975 = .ok (.iconst 2, 1) := by decide +kernel
theorem dL_law_976 : decode cL_law 976 = .ok (.iadd, 1) := by decide +kernel
theorem dL_law_977 : decode cL_law 977 = .ok (.iaload, 1) := by decide +kernel
theorem dL_law_978 : decode cL_law 978 = .ok (.invokevirtual 110, 3) := by decide +kernel
theorem dL_law_981 : decode cL_law 981 = .ok (.if_icmp .eq 544, 3) := by decide +kernel
theorem dL_law_984 : decode cL_law 984 = .ok (.iconst 0, 1) := by decide +kernel
theorem dL_law_985 : decode cL_law 985 = .ok (.ireturn, 1) := by decide +kernel
theorem dL_law_986 : decode cL_law 986 = .ok (.aload_n 1, 1) := by decide +kernel
theorem dL_law_987 : decode cL_law 987 = .ok (.invokevirtual 111, 3) := by decide +kernel
theorem dL_law_990 : decode cL_law 990 = .ok (.aload_n 2, 1) := by decide +kernel
theorem dL_law_991 : decode cL_law 991 = .ok (.invokevirtual 114, 3) := by decide +kernel
theorem dL_law_994 : decode cL_law 994 = .ok (.if_icmp .eq 531, 3) := by decide +kernel
theorem dL_law_997 : decode cL_law 997 = .ok (.iconst 0, 1) := by decide +kernel
theorem dL_law_998 : decode cL_law 998 = .ok (.ireturn, 1) := by decide +kernel
theorem dL_law_999 : decode cL_law 999 = .ok (.aload_n 1, 1) := by decide +kernel
theorem dL_law_1000 : decode cL_law 1000 = .ok (.aload_n 0, 1) := by decide +kernel
theorem dL_law_1001 : decode cL_law 1001 = .ok (.iload 4, 2) := by decide +kernel
theorem dL_law_1003 : decode cL_law 1003 = .ok (.iconst 1, 1) := by decide +kernel
theorem dL_law_1004 : decode cL_law 1004 = .ok (.iadd, 1) := by decide +kernel
theorem dL_law_1005 : decode cL_law 1005 = .ok (.iaload, 1) := by decide +kernel
theorem dL_law_1006 : decode cL_law 1006 = .ok (.aload_n 0, 1) := by decide +kernel
theorem dL_law_1007 : decode cL_law 1007 = .ok (.iload 4, 2) := by decide +kernel
theorem dL_law_1009 : decode cL_law 1009 = .ok (.iconst 2, 1) := by decide +kernel
theorem dL_law_1010 : decode cL_law 1010 = .ok (.iadd, 1) := by decide +kernel
theorem dL_law_1011 : decode cL_law 1011 = .ok (.iaload, 1) := by decide +kernel
theorem dL_law_1012 : decode cL_law 1012 = .ok (.invokevirtual 115, 3) := by decide +kernel
theorem dL_law_1015 : decode cL_law 1015 = .ok (.aload_n 2, 1) := by decide +kernel
theorem dL_law_1016 : decode cL_law 1016 = .ok (.aload_n 0, 1) := by decide +kernel
theorem dL_law_1017 : decode cL_law 1017 = .ok (.iload 4, 2) := by decide +kernel
theorem dL_law_1019 : decode cL_law 1019 = .ok (.iconst 1, 1) := by decide +kernel
theorem dL_law_1020 : decode cL_law 1020 = .ok (.iadd, 1) := by decide +kernel
theorem dL_law_1021 : decode cL_law 1021 = .ok (.iaload, 1) := by decide +kernel
theorem dL_law_1022 : decode cL_law 1022 = .ok (.aload_n 0, 1) := by decide +kernel
theorem dL_law_1023 : decode cL_law 1023 = .ok (.iload 4, 2) := by decide +kernel
theorem dL_law_1025 : decode cL_law 1025 = .ok (.iconst 2, 1) := by decide +kernel
theorem dL_law_1026 : decode cL_law 1026 = .ok (.iadd, 1) := by decide +kernel
theorem dL_law_1027 : decode cL_law 1027 = .ok (.iaload, 1) := by decide +kernel
theorem dL_law_1028 : decode cL_law 1028 = .ok (.invokevirtual 118, 3) := by decide +kernel
theorem dL_law_1031 : decode cL_law 1031 = .ok (.if_icmp .eq 494, 3) := by decide +kernel
theorem dL_law_1034 : decode cL_law 1034 = .ok (.iconst 0, 1) := by decide +kernel
theorem dL_law_1035 : decode cL_law 1035 = .ok (.ireturn, 1) := by decide +kernel
theorem dL_law_1036 : decode cL_law 1036 = .ok (.aload_n 1, 1) := by decide +kernel
theorem dL_law_1037 : decode cL_law 1037 = .ok (.aload_n 0, 1) := by decide +kernel
theorem dL_law_1038 : decode cL_law 1038 = .ok (.iload 4, 2) := by decide +kernel
theorem dL_law_1040 : decode cL_law 1040 = .ok (.iconst 1, 1) := by decide +kernel
theorem dL_law_1041 : decode cL_law 1041 = .ok (.iadd, 1) := by decide +kernel
theorem dL_law_1042 : decode cL_law 1042 = .ok (.iaload, 1) := by decide +kernel
theorem dL_law_1043 : decode cL_law 1043 = .ok (.aload_n 0, 1) := by decide +kernel
theorem dL_law_1044 : decode cL_law 1044 = .ok (.iload 4, 2) := by decide +kernel
theorem dL_law_1046 : decode cL_law 1046 = .ok (.iconst 2, 1) := by decide +kernel
theorem dL_law_1047 : decode cL_law 1047 = .ok (.iadd, 1) := by decide +kernel
theorem dL_law_1048 : decode cL_law 1048 = .ok (.iaload, 1) := by decide +kernel
theorem dL_law_1049 : decode cL_law 1049 = .ok (.invokevirtual 119, 3) := by decide +kernel
theorem dL_law_1052 : decode cL_law 1052 = .ok (.aload_n 2, 1) := by decide +kernel
theorem dL_law_1053 : decode cL_law 1053 = .ok (.aload_n 0, 1) := by decide +kernel
theorem dL_law_1054 : decode cL_law 1054 = .ok (.iload 4, 2) := by decide +kernel
theorem dL_law_1056 : decode cL_law 1056 = .ok (.iconst 1, 1) := by decide +kernel
theorem dL_law_1057 : decode cL_law 1057 = .ok (.iadd, 1) := by decide +kernel
theorem dL_law_1058 : decode cL_law 1058 = .ok (.iaload, 1) := by decide +kernel
theorem dL_law_1059 : decode cL_law 1059 = .ok (.aload_n 0, 1) := by decide +kernel
theorem dL_law_1060 : decode cL_law 1060 = .ok (.iload 4, 2) := by decide +kernel
theorem dL_law_1062 : decode cL_law 1062 = .ok (.iconst 2, 1) := by decide +kernel
theorem dL_law_1063 : decode cL_law 1063 = .ok (.iadd, 1) := by decide +kernel
theorem dL_law_1064 : decode cL_law 1064 = .ok (.iaload, 1) := by decide +kernel
theorem dL_law_1065 : decode cL_law 1065 = .ok (.invokevirtual 122, 3) := by decide +kernel
theorem dL_law_1068 : decode cL_law 1068 = .ok (.if_icmp .eq 457, 3) := by decide +kernel
theorem dL_law_1071 : decode cL_law 1071 = .ok (.iconst 0, 1) := by decide +kernel
theorem dL_law_1072 : decode cL_law 1072 = .ok (.ireturn, 1) := by decide +kernel
theorem dL_law_1073 : decode cL_law 1073 = .ok (.aload_n 1, 1) := by decide +kernel
theorem dL_law_1074 : decode cL_law 1074 = .ok (.aload_n 0, 1) := by decide +kernel
theorem dL_law_1075 : decode cL_law 1075 = .ok (.iload 4, 2) := by decide +kernel
theorem dL_law_1077 : decode cL_law 1077 = .ok (.iconst 1, 1) := by decide +kernel
theorem dL_law_1078 : decode cL_law 1078 = .ok (.iadd, 1) := by decide +kernel
theorem dL_law_1079 : decode cL_law 1079 = .ok (.iaload, 1) := by decide +kernel
theorem dL_law_1080 : decode cL_law 1080 = .ok (.aload_n 0, 1) := by decide +kernel
theorem dL_law_1081 : decode cL_law 1081 = .ok (.iload 4, 2) := by decide +kernel
theorem dL_law_1083 : decode cL_law 1083 = .ok (.iconst 2, 1) := by decide +kernel
theorem dL_law_1084 : decode cL_law 1084 = .ok (.iadd, 1) := by decide +kernel
theorem dL_law_1085 : decode cL_law 1085 = .ok (.iaload, 1) := by decide +kernel
theorem dL_law_1086 : decode cL_law 1086 = .ok (.aload_n 0, 1) := by decide +kernel
theorem dL_law_1087 : decode cL_law 1087 = .ok (.iload 4, 2) := by decide +kernel
theorem dL_law_1089 : decode cL_law 1089 = .ok (.iconst 3, 1) := by decide +kernel
theorem dL_law_1090 : decode cL_law 1090 = .ok (.iadd, 1) := by decide +kernel
theorem dL_law_1091 : decode cL_law 1091 = .ok (.iaload, 1) := by decide +kernel
theorem dL_law_1092 : decode cL_law 1092 = .ok (.invokevirtual 123, 3) := by decide +kernel
theorem dL_law_1095 : decode cL_law 1095 = .ok (.aload_n 2, 1) := by decide +kernel
theorem dL_law_1096 : decode cL_law 1096 = .ok (.aload_n 0, 1) := by decide +kernel
theorem dL_law_1097 : decode cL_law 1097 = .ok (.iload 4, 2) := by decide +kernel
theorem dL_law_1099 : decode cL_law 1099 = .ok (.iconst 1, 1) := by decide +kernel
theorem dL_law_1100 : decode cL_law 1100 = .ok (.iadd, 1) := by decide +kernel
theorem dL_law_1101 : decode cL_law 1101 = .ok (.iaload, 1) := by decide +kernel
theorem dL_law_1102 : decode cL_law 1102 = .ok (.aload_n 0, 1) := by decide +kernel
theorem dL_law_1103 : decode cL_law 1103 = .ok (.iload 4, 2) := by decide +kernel
theorem dL_law_1105 : decode cL_law 1105 = .ok (.iconst 2, 1) := by decide +kernel
theorem dL_law_1106 : decode cL_law 1106 = .ok (.iadd, 1) := by decide +kernel
theorem dL_law_1107 : decode cL_law 1107 = .ok (.iaload, 1) := by decide +kernel
theorem dL_law_1108 : decode cL_law 1108 = .ok (.aload_n 0, 1) := by decide +kernel
theorem dL_law_1109 : decode cL_law 1109 = .ok (.iload 4, 2) := by decide +kernel
theorem dL_law_1111 : decode cL_law 1111 = .ok (.iconst 3, 1) := by decide +kernel
theorem dL_law_1112 : decode cL_law 1112 = .ok (.iadd, 1) := by decide +kernel
theorem dL_law_1113 : decode cL_law 1113 = .ok (.iaload, 1) := by decide +kernel
theorem dL_law_1114 : decode cL_law 1114 = .ok (.invokevirtual 126, 3) := by decide +kernel
theorem dL_law_1117 : decode cL_law 1117 = .ok (.if_icmp .eq 408, 3) := by decide +kernel
theorem dL_law_1120 : decode cL_law 1120 = .ok (.iconst 0, 1) := by decide +kernel
theorem dL_law_1121 : decode cL_law 1121 = .ok (.ireturn, 1) := by decide +kernel
theorem dL_law_1122 : decode cL_law 1122 = .ok (.aload_n 1, 1) := by decide +kernel
theorem dL_law_1123 : decode cL_law 1123 = .ok (.invokevirtual 127, 3) := by decide +kernel
theorem dL_law_1126 : decode cL_law 1126 = .ok (.aload_n 2, 1) := by decide +kernel
theorem dL_law_1127 : decode cL_law 1127 = .ok (.invokevirtual 130, 3) := by decide +kernel
theorem dL_law_1130 : decode cL_law 1130 = .ok (.if_icmp .eq 395, 3) := by decide +kernel
theorem dL_law_1133 : decode cL_law 1133 = .ok (.iconst 0, 1) := by decide +kernel
theorem dL_law_1134 : decode cL_law 1134 = .ok (.ireturn, 1) := by decide +kernel
theorem dL_law_1135 : decode cL_law 1135 = .ok (.aload_n 1, 1) := by decide +kernel
theorem dL_law_1136 : decode cL_law 1136 = .ok (.aload_n 0, 1) := by decide +kernel
theorem dL_law_1137 : decode cL_law 1137 = .ok (.iload 4, 2) := by decide +kernel
theorem dL_law_1139 : decode cL_law 1139 = .ok (.iconst 1, 1) := by decide +kernel
theorem dL_law_1140 : decode cL_law 1140 = .ok (.iadd, 1) := by decide +kernel
theorem dL_law_1141 : decode cL_law 1141 = .ok (.iaload, 1) := by decide +kernel
theorem dL_law_1142 : decode cL_law 1142 = .ok (.aload_n 0, 1) := by decide +kernel
theorem dL_law_1143 : decode cL_law 1143 = .ok (.iload 4, 2) := by decide +kernel
theorem dL_law_1145 : decode cL_law 1145 = .ok (.iconst 2, 1) := by decide +kernel
theorem dL_law_1146 : decode cL_law 1146 = .ok (.iadd, 1) := by decide +kernel
theorem dL_law_1147 : decode cL_law 1147 = .ok (.iaload, 1) := by decide +kernel
theorem dL_law_1148 : decode cL_law 1148 = .ok (.aload_n 0, 1) := by decide +kernel
theorem dL_law_1149 : decode cL_law 1149 = .ok (.iload 4, 2) := by decide +kernel
theorem dL_law_1151 : decode cL_law 1151 = .ok (.iconst 3, 1) := by decide +kernel
theorem dL_law_1152 : decode cL_law 1152 = .ok (.iadd, 1) := by decide +kernel
theorem dL_law_1153 : decode cL_law 1153 = .ok (.iaload, 1) := by decide +kernel
theorem dL_law_1154 : decode cL_law 1154 = .ok (.invokevirtual 131, 3) := by decide +kernel
theorem dL_law_1157 : decode cL_law 1157 = .ok (.aload_n 2, 1) := by decide +kernel
theorem dL_law_1158 : decode cL_law 1158 = .ok (.aload_n 0, 1) := by decide +kernel
theorem dL_law_1159 : decode cL_law 1159 = .ok (.iload 4, 2) := by decide +kernel
theorem dL_law_1161 : decode cL_law 1161 = .ok (.iconst 1, 1) := by decide +kernel
theorem dL_law_1162 : decode cL_law 1162 = .ok (.iadd, 1) := by decide +kernel
theorem dL_law_1163 : decode cL_law 1163 = .ok (.iaload, 1) := by decide +kernel
theorem dL_law_1164 : decode cL_law 1164 = .ok (.aload_n 0, 1) := by decide +kernel
theorem dL_law_1165 : decode cL_law 1165 = .ok (.iload 4, 2) := by decide +kernel
theorem dL_law_1167 : decode cL_law 1167 = .ok (.iconst 2, 1) := by decide +kernel
theorem dL_law_1168 : decode cL_law 1168 = .ok (.iadd, 1) := by decide +kernel
theorem dL_law_1169 : decode cL_law 1169 = .ok (.iaload, 1) := by decide +kernel
theorem dL_law_1170 : decode cL_law 1170 = .ok (.aload_n 0, 1) := by decide +kernel
theorem dL_law_1171 : decode cL_law 1171 = .ok (.iload 4, 2) := by decide +kernel
theorem dL_law_1173 : decode cL_law 1173 = .ok (.iconst 3, 1) := by decide +kernel
theorem dL_law_1174 : decode cL_law 1174 = .ok (.iadd, 1) := by decide +kernel
theorem dL_law_1175 : decode cL_law 1175 = .ok (.iaload, 1) := by decide +kernel
theorem dL_law_1176 : decode cL_law 1176 = .ok (.invokevirtual 134, 3) := by decide +kernel
theorem dL_law_1179 : decode cL_law 1179 = .ok (.if_icmp .eq 346, 3) := by decide +kernel
theorem dL_law_1182 : decode cL_law 1182 = .ok (.iconst 0, 1) := by decide +kernel
theorem dL_law_1183 : decode cL_law 1183 = .ok (.ireturn, 1) := by decide +kernel
theorem dL_law_1184 : decode cL_law 1184 = .ok (.aload_n 1, 1) := by decide +kernel
theorem dL_law_1185 : decode cL_law 1185 = .ok (.aload_n 0, 1) := by decide +kernel
theorem dL_law_1186 : decode cL_law 1186 = .ok (.iload 4, 2) := by decide +kernel
theorem dL_law_1188 : decode cL_law 1188 = .ok (.iconst 1, 1) := by decide +kernel
theorem dL_law_1189 : decode cL_law 1189 = .ok (.iadd, 1) := by decide +kernel
theorem dL_law_1190 : decode cL_law 1190 = .ok (.iaload, 1) := by decide +kernel
theorem dL_law_1191 : decode cL_law 1191 = .ok (.aload_n 0, 1) := by decide +kernel
theorem dL_law_1192 : decode cL_law 1192 = .ok (.iload 4, 2) := by decide +kernel
theorem dL_law_1194 : decode cL_law 1194 = .ok (.iconst 2, 1) := by decide +kernel
theorem dL_law_1195 : decode cL_law 1195 = .ok (.iadd, 1) := by decide +kernel
theorem dL_law_1196 : decode cL_law 1196 = .ok (.iaload, 1) := by decide +kernel
theorem dL_law_1197 : decode cL_law 1197 = .ok (.aload_n 0, 1) := by decide +kernel
theorem dL_law_1198 : decode cL_law 1198 = .ok (.iload 4, 2) := by decide +kernel
theorem dL_law_1200 : decode cL_law 1200 = .ok (.iconst 3, 1) := by decide +kernel
theorem dL_law_1201 : decode cL_law 1201 = .ok (.iadd, 1) := by decide +kernel
theorem dL_law_1202 : decode cL_law 1202 = .ok (.iaload, 1) := by decide +kernel
theorem dL_law_1203 : decode cL_law 1203 = .ok (.aload_n 0, 1) := by decide +kernel
theorem dL_law_1204 : decode cL_law 1204 = .ok (.iload 4, 2) := by decide +kernel
theorem dL_law_1206 : decode cL_law 1206 = .ok (.iconst 4, 1) := by decide +kernel
theorem dL_law_1207 : decode cL_law 1207 = .ok (.iadd, 1) := by decide +kernel
theorem dL_law_1208 : decode cL_law 1208 = .ok (.iaload, 1) := by decide +kernel
theorem dL_law_1209 : decode cL_law 1209 = .ok (.invokevirtual 135, 3) := by decide +kernel
theorem dL_law_1212 : decode cL_law 1212 = .ok (.aload_n 2, 1) := by decide +kernel
theorem dL_law_1213 : decode cL_law 1213 = .ok (.aload_n 0, 1) := by decide +kernel
theorem dL_law_1214 : decode cL_law 1214 = .ok (.iload 4, 2) := by decide +kernel
theorem dL_law_1216 : decode cL_law 1216 = .ok (.iconst 1, 1) := by decide +kernel
theorem dL_law_1217 : decode cL_law 1217 = .ok (.iadd, 1) := by decide +kernel
theorem dL_law_1218 : decode cL_law 1218 = .ok (.iaload, 1) := by decide +kernel
theorem dL_law_1219 : decode cL_law 1219 = .ok (.aload_n 0, 1) := by decide +kernel
theorem dL_law_1220 : decode cL_law 1220 = .ok (.iload 4, 2) := by decide +kernel
theorem dL_law_1222 : decode cL_law 1222 = .ok (.iconst 2, 1) := by decide +kernel
theorem dL_law_1223 : decode cL_law 1223 = .ok (.iadd, 1) := by decide +kernel
theorem dL_law_1224 : decode cL_law 1224 = .ok (.iaload, 1) := by decide +kernel
theorem dL_law_1225 : decode cL_law 1225 = .ok (.aload_n 0, 1) := by decide +kernel
theorem dL_law_1226 : decode cL_law 1226 = .ok (.iload 4, 2) := by decide +kernel
theorem dL_law_1228 : decode cL_law 1228 = .ok (.iconst 3, 1) := by decide +kernel
theorem dL_law_1229 : decode cL_law 1229 = .ok (.iadd, 1) := by decide +kernel
theorem dL_law_1230 : decode cL_law 1230 = .ok (.iaload, 1) := by decide +kernel
theorem dL_law_1231 : decode cL_law 1231 = .ok (.aload_n 0, 1) := by decide +kernel
theorem dL_law_1232 : decode cL_law 1232 = .ok (.iload 4, 2) := by decide +kernel
theorem dL_law_1234 : decode cL_law 1234 = .ok (.iconst 4, 1) := by decide +kernel
theorem dL_law_1235 : decode cL_law 1235 = .ok (.iadd, 1) := by decide +kernel
theorem dL_law_1236 : decode cL_law 1236 = .ok (.iaload, 1) := by decide +kernel
theorem dL_law_1237 : decode cL_law 1237 = .ok (.invokevirtual 139, 3) := by decide +kernel
theorem dL_law_1240 : decode cL_law 1240 = .ok (.if_icmp .eq 285, 3) := by decide +kernel
theorem dL_law_1243 : decode cL_law 1243 = .ok (.iconst 0, 1) := by decide +kernel
theorem dL_law_1244 : decode cL_law 1244 = .ok (.ireturn, 1) := by decide +kernel
theorem dL_law_1245 : decode cL_law 1245 = .ok (.aload_n 1, 1) := by decide +kernel
theorem dL_law_1246 : decode cL_law 1246 = .ok (.aload_n 0, 1) := by decide +kernel
theorem dL_law_1247 : decode cL_law 1247 = .ok (.iload 4, 2) := by decide +kernel
theorem dL_law_1249 : decode cL_law 1249 = .ok (.iconst 1, 1) := by decide +kernel
theorem dL_law_1250 : decode cL_law 1250 = .ok (.iadd, 1) := by decide +kernel
theorem dL_law_1251 : decode cL_law 1251 = .ok (.iaload, 1) := by decide +kernel
theorem dL_law_1252 : decode cL_law 1252 = .ok (.aload_n 0, 1) := by decide +kernel
theorem dL_law_1253 : decode cL_law 1253 = .ok (.iload 4, 2) := by decide +kernel
theorem dL_law_1255 : decode cL_law 1255 = .ok (.iconst 2, 1) := by decide +kernel
theorem dL_law_1256 : decode cL_law 1256 = .ok (.iadd, 1) := by decide +kernel
theorem dL_law_1257 : decode cL_law 1257 = .ok (.iaload, 1) := by decide +kernel
theorem dL_law_1258 : decode cL_law 1258 = .ok (.invokevirtual 140, 3) := by decide +kernel
theorem dL_law_1261 : decode cL_law 1261 = .ok (.aload_n 2, 1) := by decide +kernel
theorem dL_law_1262 : decode cL_law 1262 = .ok (.aload_n 0, 1) := by decide +kernel
theorem dL_law_1263 : decode cL_law 1263 = .ok (.iload 4, 2) := by decide +kernel
theorem dL_law_1265 : decode cL_law 1265 = .ok (.iconst 1, 1) := by decide +kernel
theorem dL_law_1266 : decode cL_law 1266 = .ok (.iadd, 1) := by decide +kernel
theorem dL_law_1267 : decode cL_law 1267 = .ok (.iaload, 1) := by decide +kernel
theorem dL_law_1268 : decode cL_law 1268 = .ok (.aload_n 0, 1) := by decide +kernel
theorem dL_law_1269 : decode cL_law 1269 = .ok (.iload 4, 2) := by decide +kernel
theorem dL_law_1271 : decode cL_law 1271 = .ok (.iconst 2, 1) := by decide +kernel
theorem dL_law_1272 : decode cL_law 1272 = .ok (.iadd, 1) := by decide +kernel
theorem dL_law_1273 : decode cL_law 1273 = .ok (.iaload, 1) := by decide +kernel
theorem dL_law_1274 : decode cL_law 1274 = .ok (.invokevirtual 143, 3) := by decide +kernel
theorem dL_law_1277 : decode cL_law 1277 = .ok (.if_icmp .eq 248, 3) := by decide +kernel
theorem dL_law_1280 : decode cL_law 1280 = .ok (.iconst 0, 1) := by decide +kernel
theorem dL_law_1281 : decode cL_law 1281 = .ok (.ireturn, 1) := by decide +kernel
theorem dL_law_1282 : decode cL_law 1282 = .ok (.aload_n 1, 1) := by decide +kernel
theorem dL_law_1283 : decode cL_law 1283 = .ok (.invokevirtual 144, 3) := by decide +kernel
theorem dL_law_1286 : decode cL_law 1286 = .ok (.aload_n 2, 1) := by decide +kernel
theorem dL_law_1287 : decode cL_law 1287 = .ok (.invokevirtual 147, 3) := by decide +kernel
theorem dL_law_1290 : decode cL_law 1290 = .ok (.if_icmp .eq 235, 3) := by decide +kernel
theorem dL_law_1293 : decode cL_law 1293 = .ok (.iconst 0, 1) := by decide +kernel
theorem dL_law_1294 : decode cL_law 1294 = .ok (.ireturn, 1) := by decide +kernel
theorem dL_law_1295 : decode cL_law 1295 = .ok (.aload_n 1, 1) := by decide +kernel
theorem dL_law_1296 : decode cL_law 1296 = .ok (.aload_n 0, 1) := by decide +kernel
theorem dL_law_1297 : decode cL_law 1297 = .ok (.iload 4, 2) := by decide +kernel
theorem dL_law_1299 : decode cL_law 1299 = .ok (.iconst 1, 1) := by decide +kernel
theorem dL_law_1300 : decode cL_law 1300 = .ok (.iadd, 1) := by decide +kernel
theorem dL_law_1301 : decode cL_law 1301 = .ok (.iaload, 1) := by decide +kernel
theorem dL_law_1302 : decode cL_law 1302 = .ok (.aload_n 0, 1) := by decide +kernel
theorem dL_law_1303 : decode cL_law 1303 = .ok (.iload 4, 2) := by decide +kernel
theorem dL_law_1305 : decode cL_law 1305 = .ok (.iconst 2, 1) := by decide +kernel
theorem dL_law_1306 : decode cL_law 1306 = .ok (.iadd, 1) := by decide +kernel
theorem dL_law_1307 : decode cL_law 1307 = .ok (.iaload, 1) := by decide +kernel
theorem dL_law_1308 : decode cL_law 1308 = .ok (.invokevirtual 148, 3) := by decide +kernel
theorem dL_law_1311 : decode cL_law 1311 = .ok (.aload_n 2, 1) := by decide +kernel
theorem dL_law_1312 : decode cL_law 1312 = .ok (.aload_n 0, 1) := by decide +kernel
theorem dL_law_1313 : decode cL_law 1313 = .ok (.iload 4, 2) := by decide +kernel
theorem dL_law_1315 : decode cL_law 1315 = .ok (.iconst 1, 1) := by decide +kernel
theorem dL_law_1316 : decode cL_law 1316 = .ok (.iadd, 1) := by decide +kernel
theorem dL_law_1317 : decode cL_law 1317 = .ok (.iaload, 1) := by decide +kernel
theorem dL_law_1318 : decode cL_law 1318 = .ok (.aload_n 0, 1) := by decide +kernel
theorem dL_law_1319 : decode cL_law 1319 = .ok (.iload 4, 2) := by decide +kernel
theorem dL_law_1321 : decode cL_law 1321 = .ok (.iconst 2, 1) := by decide +kernel
theorem dL_law_1322 : decode cL_law 1322 = .ok (.iadd, 1) := by decide +kernel
theorem dL_law_1323 : decode cL_law 1323 = .ok (.iaload, 1) := by decide +kernel
theorem dL_law_1324 : decode cL_law 1324 = .ok (.invokevirtual 151, 3) := by decide +kernel
theorem dL_law_1327 : decode cL_law 1327 = .ok (.if_icmp .eq 198, 3) := by decide +kernel
theorem dL_law_1330 : decode cL_law 1330 = .ok (.iconst 0, 1) := by decide +kernel
theorem dL_law_1331 : decode cL_law 1331 = .ok (.ireturn, 1) := by decide +kernel
theorem dL_law_1332 : decode cL_law 1332 = .ok (.aload_n 1, 1) := by decide +kernel
theorem dL_law_1333 : decode cL_law 1333 = .ok (.aload_n 0, 1) := by decide +kernel
theorem dL_law_1334 : decode cL_law 1334 = .ok (.iload 4, 2) := by decide +kernel
theorem dL_law_1336 : decode cL_law 1336 = .ok (.iconst 1, 1) := by decide +kernel
theorem dL_law_1337 : decode cL_law 1337 = .ok (.iadd, 1) := by decide +kernel
theorem dL_law_1338 : decode cL_law 1338 = .ok (.iaload, 1) := by decide +kernel
theorem dL_law_1339 : decode cL_law 1339 = .ok (.aload_n 0, 1) := by decide +kernel
theorem dL_law_1340 : decode cL_law 1340 = .ok (.iload 4, 2) := by decide +kernel
theorem dL_law_1342 : decode cL_law 1342 = .ok (.iconst 2, 1) := by decide +kernel
theorem dL_law_1343 : decode cL_law 1343 = .ok (.iadd, 1) := by decide +kernel
theorem dL_law_1344 : decode cL_law 1344 = .ok (.iaload, 1) := by decide +kernel
theorem dL_law_1345 : decode cL_law 1345 = .ok (.invokevirtual 152, 3) := by decide +kernel
theorem dL_law_1348 : decode cL_law 1348 = .ok (.aload_n 2, 1) := by decide +kernel
theorem dL_law_1349 : decode cL_law 1349 = .ok (.aload_n 0, 1) := by decide +kernel
theorem dL_law_1350 : decode cL_law 1350 = .ok (.iload 4, 2) := by decide +kernel
theorem dL_law_1352 : decode cL_law 1352 = .ok (.iconst 1, 1) := by decide +kernel
theorem dL_law_1353 : decode cL_law 1353 = .ok (.iadd, 1) := by decide +kernel
theorem dL_law_1354 : decode cL_law 1354 = .ok (.iaload, 1) := by decide +kernel
theorem dL_law_1355 : decode cL_law 1355 = .ok (.aload_n 0, 1) := by decide +kernel
theorem dL_law_1356 : decode cL_law 1356 = .ok (.iload 4, 2) := by decide +kernel
theorem dL_law_1358 : decode cL_law 1358 = .ok (.iconst 2, 1) := by decide +kernel
theorem dL_law_1359 : decode cL_law 1359 = .ok (.iadd, 1) := by decide +kernel
theorem dL_law_1360 : decode cL_law 1360 = .ok (.iaload, 1) := by decide +kernel
theorem dL_law_1361 : decode cL_law 1361 = .ok (.invokevirtual 155, 3) := by decide +kernel
theorem dL_law_1364 : decode cL_law 1364 = .ok (.if_icmp .eq 161, 3) := by decide +kernel
theorem dL_law_1367 : decode cL_law 1367 = .ok (.iconst 0, 1) := by decide +kernel
theorem dL_law_1368 : decode cL_law 1368 = .ok (.ireturn, 1) := by decide +kernel
theorem dL_law_1369 : decode cL_law 1369 = .ok (.aload_n 1, 1) := by decide +kernel
theorem dL_law_1370 : decode cL_law 1370 = .ok (.aload_n 0, 1) := by decide +kernel
theorem dL_law_1371 : decode cL_law 1371 = .ok (.iload 4, 2) := by decide +kernel
theorem dL_law_1373 : decode cL_law 1373 = .ok (.iconst 1, 1) := by decide +kernel
theorem dL_law_1374 : decode cL_law 1374 = .ok (.iadd, 1) := by decide +kernel
theorem dL_law_1375 : decode cL_law 1375 = .ok (.iaload, 1) := by decide +kernel
theorem dL_law_1376 : decode cL_law 1376 = .ok (.aload_n 0, 1) := by decide +kernel
theorem dL_law_1377 : decode cL_law 1377 = .ok (.iload 4, 2) := by decide +kernel
theorem dL_law_1379 : decode cL_law 1379 = .ok (.iconst 2, 1) := by decide +kernel
theorem dL_law_1380 : decode cL_law 1380 = .ok (.iadd, 1) := by decide +kernel
theorem dL_law_1381 : decode cL_law 1381 = .ok (.iaload, 1) := by decide +kernel
theorem dL_law_1382 : decode cL_law 1382 = .ok (.aload_n 0, 1) := by decide +kernel
theorem dL_law_1383 : decode cL_law 1383 = .ok (.iload 4, 2) := by decide +kernel
theorem dL_law_1385 : decode cL_law 1385 = .ok (.iconst 3, 1) := by decide +kernel
theorem dL_law_1386 : decode cL_law 1386 = .ok (.iadd, 1) := by decide +kernel
theorem dL_law_1387 : decode cL_law 1387 = .ok (.iaload, 1) := by decide +kernel
theorem dL_law_1388 : decode cL_law 1388 = .ok (.aload_n 0, 1) := by decide +kernel
theorem dL_law_1389 : decode cL_law 1389 = .ok (.iload 4, 2) := by decide +kernel
theorem dL_law_1391 : decode cL_law 1391 = .ok (.iconst 4, 1) := by decide +kernel
theorem dL_law_1392 : decode cL_law 1392 = .ok (.iadd, 1) := by decide +kernel
theorem dL_law_1393 : decode cL_law 1393 = .ok (.iaload, 1) := by decide +kernel
theorem dL_law_1394 : decode cL_law 1394 = .ok (.invokevirtual 156, 3) := by decide +kernel
theorem dL_law_1397 : decode cL_law 1397 = .ok (.aload_n 2, 1) := by decide +kernel
theorem dL_law_1398 : decode cL_law 1398 = .ok (.aload_n 0, 1) := by decide +kernel
theorem dL_law_1399 : decode cL_law 1399 = .ok (.iload 4, 2) := by decide +kernel
theorem dL_law_1401 : decode cL_law 1401 = .ok (.iconst 1, 1) := by decide +kernel
theorem dL_law_1402 : decode cL_law 1402 = .ok (.iadd, 1) := by decide +kernel
theorem dL_law_1403 : decode cL_law 1403 = .ok (.iaload, 1) := by decide +kernel
theorem dL_law_1404 : decode cL_law 1404 = .ok (.aload_n 0, 1) := by decide +kernel
theorem dL_law_1405 : decode cL_law 1405 = .ok (.iload 4, 2) := by decide +kernel
theorem dL_law_1407 : decode cL_law 1407 = .ok (.iconst 2, 1) := by decide +kernel
theorem dL_law_1408 : decode cL_law 1408 = .ok (.iadd, 1) := by decide +kernel
theorem dL_law_1409 : decode cL_law 1409 = .ok (.iaload, 1) := by decide +kernel
theorem dL_law_1410 : decode cL_law 1410 = .ok (.aload_n 0, 1) := by decide +kernel
theorem dL_law_1411 : decode cL_law 1411 = .ok (.iload 4, 2) := by decide +kernel
theorem dL_law_1413 : decode cL_law 1413 = .ok (.iconst 3, 1) := by decide +kernel
theorem dL_law_1414 : decode cL_law 1414 = .ok (.iadd, 1) := by decide +kernel
theorem dL_law_1415 : decode cL_law 1415 = .ok (.iaload, 1) := by decide +kernel
theorem dL_law_1416 : decode cL_law 1416 = .ok (.aload_n 0, 1) := by decide +kernel
theorem dL_law_1417 : decode cL_law 1417 = .ok (.iload 4, 2) := by decide +kernel
theorem dL_law_1419 : decode cL_law 1419 = .ok (.iconst 4, 1) := by decide +kernel
theorem dL_law_1420 : decode cL_law 1420 = .ok (.iadd, 1) := by decide +kernel
theorem dL_law_1421 : decode cL_law 1421 = .ok (.iaload, 1) := by decide +kernel
theorem dL_law_1422 : decode cL_law 1422 = .ok (.invokevirtual 159, 3) := by decide +kernel
theorem dL_law_1425 : decode cL_law 1425 = .ok (.if_icmp .eq 100, 3) := by decide +kernel
theorem dL_law_1428 : decode cL_law 1428 = .ok (.iconst 0, 1) := by decide +kernel
theorem dL_law_1429 : decode cL_law 1429 = .ok (.ireturn, 1) := by decide +kernel
theorem dL_law_1430 : decode cL_law 1430 = .ok (.aload_n 1, 1) := by decide +kernel
theorem dL_law_1431 : decode cL_law 1431 = .ok (.invokevirtual 160, 3) := by decide +kernel
theorem dL_law_1434 : decode cL_law 1434 = .ok (.aload_n 2, 1) := by decide +kernel
theorem dL_law_1435 : decode cL_law 1435 = .ok (.invokevirtual 164, 3) := by decide +kernel
theorem dL_law_1438 : decode cL_law 1438 = .ok (.if_icmp .eq 87, 3) := by decide +kernel
theorem dL_law_1441 : decode cL_law 1441 = .ok (.iconst 0, 1) := by decide +kernel
theorem dL_law_1442 : decode cL_law 1442 = .ok (.ireturn, 1) := by decide +kernel
theorem dL_law_1443 : decode cL_law 1443 = .ok (.aload_n 1, 1) := by decide +kernel
theorem dL_law_1444 : decode cL_law 1444 = .ok (.aload_n 0, 1) := by decide +kernel
theorem dL_law_1445 : decode cL_law 1445 = .ok (.iload 4, 2) := by decide +kernel
theorem dL_law_1447 : decode cL_law 1447 = .ok (.iconst 1, 1) := by decide +kernel
theorem dL_law_1448 : decode cL_law 1448 = .ok (.iadd, 1) := by decide +kernel
theorem dL_law_1449 : decode cL_law 1449 = .ok (.iaload, 1) := by decide +kernel
theorem dL_law_1450 : decode cL_law 1450 = .ok (.aload_n 3, 1) := by decide +kernel
theorem dL_law_1451 : decode cL_law 1451 = .ok (.invokestatic 165, 3) := by decide +kernel
theorem dL_law_1454 : decode cL_law 1454 = .ok (.istore 5, 2) := by decide +kernel
theorem dL_law_1456 : decode cL_law 1456 = .ok (.aload_n 2, 1) := by decide +kernel
theorem dL_law_1457 : decode cL_law 1457 = .ok (.aload_n 0, 1) := by decide +kernel
theorem dL_law_1458 : decode cL_law 1458 = .ok (.iload 4, 2) := by decide +kernel
theorem dL_law_1460 : decode cL_law 1460 = .ok (.iconst 1, 1) := by decide +kernel
theorem dL_law_1461 : decode cL_law 1461 = .ok (.iadd, 1) := by decide +kernel
theorem dL_law_1462 : decode cL_law 1462 = .ok (.iaload, 1) := by decide +kernel
theorem dL_law_1463 : decode cL_law 1463 = .ok (.invokevirtual 170, 3) := by decide +kernel
theorem dL_law_1466 : decode cL_law 1466 = .ok (.istore 6, 2) := by decide +kernel
theorem dL_law_1468 : decode cL_law 1468 = .ok (.aload_n 2, 1) := by decide +kernel
theorem dL_law_1469 : decode cL_law 1469 = .ok (.invokevirtual 171, 3) := by decide +kernel
theorem dL_law_1472 : decode cL_law 1472 = .ok (.iload 5, 2) := by decide +kernel
theorem dL_law_1474 : decode cL_law 1474 = .ok (.if_icmp .eq 5, 3) := by decide +kernel
theorem dL_law_1477 : decode cL_law 1477 = .ok (.iconst 0, 1) := by decide +kernel
theorem dL_law_1478 : decode cL_law 1478 = .ok (.ireturn, 1) := by decide +kernel
theorem dL_law_1479 : decode cL_law 1479 = .ok (.iload 5, 2) := by decide +kernel
theorem dL_law_1481 : decode cL_law 1481 = .ok (.ifCond .ne 15, 3) := by decide +kernel
theorem dL_law_1484 : decode cL_law 1484 = .ok (.aload_n 3, 1) := by decide +kernel
theorem dL_law_1485 : decode cL_law 1485 = .ok (.iconst 0, 1) := by decide +kernel
theorem dL_law_1486 : decode cL_law 1486 = .ok (.laload, 1) := by decide +kernel
theorem dL_law_1487 : decode cL_law 1487 = .ok (.iload 6, 2) := by decide +kernel
theorem dL_law_1489 : decode cL_law 1489 = .ok (.i2l, 1) := by decide +kernel
theorem dL_law_1490 : decode cL_law 1490 = .ok (.lcmp, 1) := by decide +kernel
theorem dL_law_1491 : decode cL_law 1491 = .ok (.ifCond .eq 5, 3) := by decide +kernel
theorem dL_law_1494 : decode cL_law 1494 = .ok (.iconst 0, 1) := by decide +kernel
theorem dL_law_1495 : decode cL_law 1495 = .ok (.ireturn, 1) := by decide +kernel
theorem dL_law_1496 : decode cL_law 1496 = .ok (.goto 29, 3) := by decide +kernel
theorem dL_law_1499 : decode cL_law 1499 = .ok (.aload_n 1, 1) := by decide +kernel
theorem dL_law_1500 : decode cL_law 1500 = .ok (.invokevirtual 174, 3) := by decide +kernel
theorem dL_law_1503 : decode cL_law 1503 = .ok (.aload_n 2, 1) := by decide +kernel
theorem dL_law_1504 : decode cL_law 1504 = .ok (.invokevirtual 177, 3) := by decide +kernel
theorem dL_law_1507 : decode cL_law 1507 = .ok (.if_icmp .eq 18, 3) := by decide +kernel
theorem dL_law_1510 : decode cL_law 1510 = .ok (.iconst 0, 1) := by decide +kernel
theorem dL_law_1511 : decode cL_law 1511 = .ok (.ireturn, 1) := by decide +kernel
theorem dL_law_1512 : decode cL_law 1512 = .ok (.aload_n 1, 1) := by decide +kernel
theorem dL_law_1513 : decode cL_law 1513 = .ok (.invokevirtual 178, 3) := by decide +kernel
theorem dL_law_1516 : decode cL_law 1516 = .ok (.aload_n 2, 1) := by decide +kernel
theorem dL_law_1517 : decode cL_law 1517 = .ok (.invokevirtual 181, 3) := by decide +kernel
theorem dL_law_1520 : decode cL_law 1520 = .ok (.if_icmp .eq 5, 3) := by decide +kernel
theorem dL_law_1523 : decode cL_law 1523 = .ok (.iconst 0, 1) := by decide +kernel
theorem dL_law_1524 : decode cL_law 1524 = .ok (.ireturn, 1) := by decide +kernel
theorem dL_law_1525 : decode cL_law 1525 = .ok (.iinc 4 6, 3) := by decide +kernel
theorem dL_law_1528 : decode cL_law 1528 = .ok (.goto (-1505), 3) := by decide +kernel
theorem dL_law_1531 : decode cL_law 1531 = .ok (.iconst 1, 1) := by decide +kernel
theorem dL_law_1532 : decode cL_law 1532 = .ok (.ireturn, 1) := by decide +kernel
