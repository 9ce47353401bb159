theorem dX5_loneArrow_59 : decode cX5_loneArrow 59 = .ok (.iload_n 2, 1) := by decide +kernel
theorem dX5_loneArrow_60 : decode cX5_loneArrow 60 = .ok (.iaload, 1) := by decide +kernel
theorem dX5_loneArrow_61 : decode cX5_loneArrow 61 = .ok (.invokestatic 152, 3) := by decide +kernel
theorem dX5_loneArrow_64 : decode cX5_loneArrow 64 = .ok (.istore 4, 2) := by decide +kernel
theorem dX5_loneArrow_66 : decode cX5_loneArrow 66 = .ok (.iload_n 3, 1) := by decide +kernel
theorem dX5_loneArrow_67 : decode cX5_loneArrow 67 = .ok (.ifCond .eq 17, 3) := by decide +kernel
theorem dX5_loneArrow_70 : decode cX5_loneArrow 70 = .ok (.iload_n 1, 1) := by decide +kernel
theorem dX5_loneArrow_71 : decode cX5_loneArrow 71 = .ok (.iconst (-1), 1) := by decide +kernel
theorem dX5_loneArrow_72 : decode cX5_loneArrow 72 = .ok (.if_icmp .eq 9, 3) := by decide +kernel
theorem dX5_loneArrow_75 : decode cX5_loneArrow 75 = .ok (.iload 4, 2) := by decide +kernel
theorem dX5_loneArrow_77 : decode cX5_loneArrow 77 = .ok (.iload_n 1, 1) := by decide +kernel
theorem dX5_loneArrow_78 : decode cX5_loneArrow 78 = .ok (.if_icmp .ge 6, 3) := by decide +kernel
theorem dX5_loneArrow_81 : decode cX5_loneArrow 81 = .ok (.iload 4, 2) := by decide +kernel
theorem dX5_loneArrow_83 : decode cX5_loneArrow 83 = .ok (.istore_n 1, 1) := by decide +kernel
theorem dX5_loneArrow_84 : decode cX5_loneArrow 84 = .ok (.iinc 2 1, 3) := by decide +kernel
theorem dX5_loneArrow_87 : decode cX5_loneArrow 87 = .ok (.goto (-83), 3) := by decide +kernel
theorem dX5_loneArrow_90 : decode cX5_loneArrow 90 = .ok (.iload_n 1, 1) := by decide +kernel
theorem dX5_loneArrow_91 : decode cX5_loneArrow 91 = .ok (.ireturn, 1) := by decide +kernel
theorem dX6_init_0 : decode cX6_init 0 = .ok (.aload_n 0, 1) := by decide +kernel
theorem dX6_init_1 : decode cX6_init 1 = .ok (.invokespecial 3, 3) := by decide +kernel
theorem dX6_init_4 : decode cX6_init 4 = .ok (.aload_n 0, 1) := by decide +kernel
theorem dX6_init_5 : decode cX6_init 5 = .ok (.bipush 10, 2) := by decide +kernel
theorem dX6_init_7 : decode cX6_init 7 = .ok (.newarray .int, 2) := by decide +kernel
theorem dX6_init_9 : decode cX6_init 9 = .ok (.putfield 9, 3) := by decide +kernel
theorem dX6_init_12 : decode cX6_init 12 = .ok (.aload_n 0, 1) := by decide +kernel
theorem dX6_init_13 : decode cX6_init 13 = .ok (.iconst 4, 1) := by decide +kernel
theorem dX6_init_14 : decode cX6_init 14 = .ok (.newarray .long, 2) := by decide +kernel
theorem dX6_init_16 : decode cX6_init 16 = .ok (.putfield 15, 3) := by decide +kernel
theorem dX6_init_19 : decode cX6_init 19 = .ok (.aload_n 0, 1) := by decide +kernel
theorem dX6_init_20 : decode cX6_init 20 = .ok (.iconst (-1), 1) := by decide +kernel
theorem dX6_init_21 : decode cX6_init 21 = .ok (.putfield 19, 3) := by decide +kernel
theorem dX6_init_24 : decode cX6_init 24 = .ok (.aload_n 0, 1) := by decide +kernel
theorem dX6_init_25 : decode cX6_init 25 = .ok (.aload_n 1, 1) := by decide +kernel
theorem dX6_init_26 : decode cX6_init 26 = .ok (.putfield 23, 3) := by decide +kernel
theorem dX6_init_29 : decode cX6_init 29 = .ok (.aload_n 0, 1) := by decide +kernel
theorem dX6_init_30 : decode cX6_init 30 = .ok (.aload_n 2, 1) := by decide +kernel
theorem dX6_init_31 : decode cX6_init 31 = .ok (.putfield 27, 3) := by decide +kernel
theorem dX6_init_34 : decode cX6_init 34 = .ok (.aload_n 0, 1) := by decide +kernel
theorem dX6_init_35 : decode cX6_init 35 = .ok (.aload_n 3, 1) := by decide +kernel
theorem dX6_init_36 : decode cX6_init 36 = .ok (.putfield 31, 3) := by decide +kernel
theorem dX6_init_39 : decode cX6_init 39 = .ok (.aload_n 0, 1) := by decide +kernel
theorem dX6_init_40 : decode cX6_init 40 = .ok (.aload 4, 2) := by decide +kernel
theorem dX6_init_42 : decode cX6_init 42 = .ok (.putfield 35, 3) := by decide +kernel
theorem dX6_init_45 : decode cX6_init 45 = .ok (.return_, 1) := by decide +kernel
theorem dX6_fewest_0 : decode cX6_fewest 0 = .ok (.aload_n 0, 1) := by decide +kernel
theorem dX6_fewest_1 : decode cX6_fewest 1 = .ok (.getfield 19, 3) := by decide +kernel
theorem dX6_fewest_4 : decode cX6_fewest 4 = .ok (.aload_n 0, 1) := by decide +kernel
theorem dX6_fewest_5 : decode cX6_fewest 5 = .ok (.getfield 23, 3) := by decide +kernel
theorem dX6_fewest_8 : decode cX6_fewest 8 = .ok (.getfield 38, 3) := by decide +kernel
theorem dX6_fewest_11 : decode cX6_fewest 11 = .ok (.if_icmp .eq 32, 3) := by decide +kernel
theorem dX6_fewest_14 : decode cX6_fewest 14 = .ok (.aload_n 0, 1) := by decide +kernel
theorem dX6_fewest_15 : decode cX6_fewest 15 = .ok (.aload_n 0, 1) := by decide +kernel
theorem dX6_fewest_16 : decode cX6_fewest 16 = .ok (.getfield 23, 3) := by decide +kernel
theorem dX6_fewest_19 : decode cX6_fewest 19 = .ok (.getfield 38, 3) := by decide +kernel
theorem dX6_fewest_22 : decode cX6_fewest 22 = .ok (.putfield 19, 3) := by decide +kernel
theorem dX6_fewest_25 : decode cX6_fewest 25 = .ok (.aload_n 0, 1) := by decide +kernel
theorem dX6_fewest_26 : decode cX6_fewest 26 = .ok (.aload_n 0, 1) := by decide +kernel
theorem dX6_fewest_27 : decode cX6_fewest 27 = .ok (.iconst 0, 1) := by decide +kernel
theorem dX6_fewest_28 : decode cX6_fewest 28 = .ok (.invokevirtual 43, 3) := by decide +kernel
theorem dX6_fewest_31 : decode cX6_fewest 31 = .ok (.ldc2_w 47, 3) := by decide +kernel
theorem dX6_fewest_34 : decode cX6_fewest 34 = .ok (.ldiv, 1) := by decide +kernel
theorem dX6_fewest_35 : decode cX6_fewest 35 = .ok (.l2i, 1) := by decide +kernel
theorem dX6_fewest_36 : decode cX6_fewest 36 = .ok (.putfield 49, 3) := by decide +kernel
theorem dX6_fewest_39 : decode cX6_fewest 39 = .ok (.aload_n 0, 1) := by decide +kernel
theorem dX6_fewest_40 : decode cX6_fewest 40 = .ok (.invokevirtual 52, 3) := by decide +kernel
theorem dX6_fewest_43 : decode cX6_fewest 43 = .ok (.aload_n 0, 1) := by decide +kernel
theorem dX6_fewest_44 : decode cX6_fewest 44 = .ok (.getfield 49, 3) := by decide +kernel
theorem dX6_fewest_47 : decode cX6_fewest 47 = .ok (.ireturn, 1) := by decide +kernel
theorem dX6_markAt_0 : decode cX6_markAt 0 = .ok (.aload_n 0, 1) := by decide +kernel
theorem dX6_markAt_1 : decode cX6_markAt 1 = .ok (.invokevirtual 55, 3) := by decide +kernel
theorem dX6_markAt_4 : decode cX6_markAt 4 = .ok (.pop, 1) := by decide +kernel
theorem dX6_markAt_5 : decode cX6_markAt 5 = .ok (.aload_n 0, 1) := by decide +kernel
theorem dX6_markAt_6 : decode cX6_markAt 6 = .ok (.getfield 23, 3) := by decide +kernel
theorem dX6_markAt_9 : decode cX6_markAt 9 = .ok (.iload_n 1, 1) := by decide +kernel
theorem dX6_markAt_10 : decode cX6_markAt 10 = .ok (.invokevirtual 59, 3) := by decide +kernel
theorem dX6_markAt_13 : decode cX6_markAt 13 = .ok (.ifCond .eq 12, 3) := by decide +kernel
theorem dX6_markAt_16 : decode cX6_markAt 16 = .ok (.aload_n 0, 1) := by decide +kernel
theorem dX6_markAt_17 : decode cX6_markAt 17 = .ok (.getfield 9, 3) := by decide +kernel
theorem dX6_markAt_20 : decode cX6_markAt 20 = .ok (.iload_n 1, 1) := by decide +kernel
theorem dX6_markAt_21 : decode cX6_markAt 21 = .ok (.iaload, 1) := by decide +kernel
theorem dX6_markAt_22 : decode cX6_markAt 22 = .ok (.goto 4, 3) := by decide +kernel
theorem dX6_markAt_25 : decode cX6_markAt 25 = .ok (.iconst (-1), 1) := by decide +kernel
theorem dX6_markAt_26 : decode cX6_markAt 26 = .ok (.ireturn, 1) := by decide +kernel
theorem dX6_leastBreaks_0 : decode cX6_leastBreaks 0 = .ok (.aload_n 0, 1) := by decide +kernel
theorem dX6_leastBreaks_1 : decode cX6_leastBreaks 1 = .ok (.iconst 1, 1) := by decide +kernel
theorem dX6_leastBreaks_2 : decode cX6_leastBreaks 2 = .ok (.invokevirtual 43, 3) := by decide +kernel
theorem dX6_leastBreaks_5 : decode cX6_leastBreaks 5 = .ok (.ldc2_w 47, 3) := by decide +kernel
theorem dX6_leastBreaks_8 : decode cX6_leastBreaks 8 = .ok (.lrem, 1) := by decide +kernel
theorem dX6_leastBreaks_9 : decode cX6_leastBreaks 9 = .ok (.l2i, 1) := by decide +kernel
theorem dX6_leastBreaks_10 : decode cX6_leastBreaks 10 = .ok (.ireturn, 1) := by decide +kernel
theorem dX6_fillCosts_0 : decode cX6_fillCosts 0 = .ok (.aload_n 0, 1) := by decide +kernel
theorem dX6_fillCosts_1 : decode cX6_fillCosts 1 = .ok (.getfield 23, 3) := by decide +kernel
theorem dX6_fillCosts_4 : decode cX6_fillCosts 4 = .ok (.invokevirtual 63, 3) := by decide +kernel
theorem dX6_fillCosts_7 : decode cX6_fillCosts 7 = .ok (.istore_n 2, 1) := by decide +kernel
theorem dX6_fillCosts_8 : decode cX6_fillCosts 8 = .ok (.iload_n 2, 1) := by decide +kernel
theorem dX6_fillCosts_9 : decode cX6_fillCosts 9 = .ok (.ifCond .ne 5, 3) := by decide +kernel
theorem dX6_fillCosts_12 : decode cX6_fillCosts 12 = .ok (.lconst 0, 1) := by decide +kernel
theorem dX6_fillCosts_13 : decode cX6_fillCosts 13 = .ok (.lreturn, 1) := by decide +kernel
theorem dX6_fillCosts_14 : decode cX6_fillCosts 14 = .ok (.iconst 0, 1) := by decide +kernel
theorem dX6_fillCosts_15 : decode cX6_fillCosts 15 = .ok (.istore_n 3, 1) := by decide +kernel
theorem dX6_fillCosts_16 : decode cX6_fillCosts 16 = .ok (.iload_n 3, 1) := by decide +kernel
theorem dX6_fillCosts_17 : decode cX6_fillCosts 17 = .ok (.iconst 4, 1) := by decide +kernel
theorem dX6_fillCosts_18 : decode cX6_fillCosts 18 = .ok (.if_icmp .ge 32, 3) := by decide +kernel
theorem dX6_fillCosts_21 : decode cX6_fillCosts 21 = .ok (.aload_n 0, 1) := by decide +kernel
theorem dX6_fillCosts_22 : decode cX6_fillCosts 22 = .ok (.getfield 35, 3) := by decide +kernel
theorem dX6_fillCosts_25 : decode cX6_fillCosts 25 = .ok (.iconst 4, 1) := by decide +kernel
theorem dX6_fillCosts_26 : decode cX6_fillCosts 26 = .ok (.iload_n 2, 1) := by decide +kernel
theorem dX6_fillCosts_27 : decode cX6_fillCosts 27 = .ok (.imul, 1) := by decide +kernel
theorem dX6_fillCosts_28 : decode cX6_fillCosts 28 = .ok (.iload_n 3, 1) := by decide +kernel
theorem dX6_fillCosts_29 : decode cX6_fillCosts 29 = .ok (.iadd, 1) := by decide +kernel
theorem dX6_fillCosts_30 : decode cX6_fillCosts 30 = .ok (.iload_n 1, 1) := by decide +kernel
theorem dX6_fillCosts_31 : decode cX6_fillCosts 31 = .ok (.ifCond .eq 11, 3) := by decide +kernel
theorem dX6_fillCosts_34 : decode cX6_fillCosts 34 = .ok (.aload_n 0, 1) := by decide +kernel
theorem dX6_fillCosts_35 : decode cX6_fillCosts 35 = .ok (.iload_n 2, 1) := by decide +kernel
theorem dX6_fillCosts_36 : decode cX6_fillCosts 36 = .ok (.invokevirtual 66, 3) := by decide +kernel
theorem dX6_fillCosts_39 : decode cX6_fillCosts 39 = .ok (.goto 4, 3) := by decide +kernel
theorem dX6_fillCosts_42 : decode cX6_fillCosts 42 = .ok (.lconst 0, 1) := by decide +kernel
theorem dX6_fillCosts_43 : decode cX6_fillCosts 43 = .ok (.lastore, 1) := by decide +kernel
theorem dX6_fillCosts_44 : decode cX6_fillCosts 44 = .ok (.iinc 3 1, 3) := by decide +kernel
theorem dX6_fillCosts_47 : decode cX6_fillCosts 47 = .ok (.goto (-31), 3) := by decide +kernel
theorem dX6_fillCosts_50 : decode cX6_fillCosts 50 = .ok (.aload_n 0, 1) := by decide +kernel
theorem dX6_fillCosts_51 : decode cX6_fillCosts 51 = .ok (.getfield 23, 3) := by decide +kernel
theorem dX6_fillCosts_54 : decode cX6_fillCosts 54 = .ok (.invokevirtual 70, 3) := by decide +kernel
theorem dX6_fillCosts_57 : decode cX6_fillCosts 57 = .ok (.iconst 2, 1) := by decide +kernel
theorem dX6_fillCosts_58 : decode cX6_fillCosts 58 = .ok (.isub, 1) := by decide +kernel
theorem dX6_fillCosts_59 : decode cX6_fillCosts 59 = .ok (.istore_n 3, 1) := by decide +kernel
theorem dX6_fillCosts_60 : decode cX6_fillCosts 60 = .ok (.iload_n 3, 1) := by decide +kernel
theorem dX6_fillCosts_61 : decode cX6_fillCosts 61 = .ok (.ifCond .le 85, 3) := by decide +kernel
theorem dX6_fillCosts_64 : decode cX6_fillCosts 64 = .ok (.aload_n 0, 1) := by decide +kernel
theorem dX6_fillCosts_65 : decode cX6_fillCosts 65 = .ok (.getfield 23, 3) := by decide +kernel
theorem dX6_fillCosts_68 : decode cX6_fillCosts 68 = .ok (.iload_n 3, 1) := by decide +kernel
theorem dX6_fillCosts_69 : decode cX6_fillCosts 69 = .ok (.invokevirtual 73, 3) := by decide +kernel
theorem dX6_fillCosts_72 : decode cX6_fillCosts 72 = .ok (.istore 4, 2) := by decide +kernel
theorem dX6_fillCosts_74 : decode cX6_fillCosts 74 = .ok (.ldc2_w 47, 3) := by decide +kernel
theorem dX6_fillCosts_77 : decode cX6_fillCosts 77 = .ok (.aload_n 0, 1) := by decide +kernel
theorem dX6_fillCosts_78 : decode cX6_fillCosts 78 = .ok (.iload 4, 2) := by decide +kernel
theorem dX6_fillCosts_80 : decode cX6_fillCosts 80 = .ok (.invokevirtual 77, 3) := by decide +kernel
theorem dX6_fillCosts_83 : decode cX6_fillCosts 83 = .ok (.ladd, 1) := by decide +kernel
theorem dX6_fillCosts_84 : decode cX6_fillCosts 84 = .ok (.iload_n 1, 1) := by decide +kernel
theorem dX6_fillCosts_85 : decode cX6_fillCosts 85 = .ok (.ifCond .eq 12, 3) := by decide +kernel
theorem dX6_fillCosts_88 : decode cX6_fillCosts 88 = .ok (.aload_n 0, 1) := by decide +kernel
theorem dX6_fillCosts_89 : decode cX6_fillCosts 89 = .ok (.iload 4, 2) := by decide +kernel
theorem dX6_fillCosts_91 : decode cX6_fillCosts 91 = .ok (.invokevirtual 66, 3) := by decide +kernel
theorem dX6_fillCosts_94 : decode cX6_fillCosts 94 = .ok (.goto 4, 3) := by decide +kernel
theorem dX6_fillCosts_97 : decode cX6_fillCosts 97 = .ok (.lconst 0, 1) := by decide +kernel
theorem dX6_fillCosts_98 : decode cX6_fillCosts 98 = .ok (.ladd, 1) := by decide +kernel
theorem dX6_fillCosts_99 : decode cX6_fillCosts 99 = .ok (.lstore 5, 2) := by decide +kernel
theorem dX6_fillCosts_101 : decode cX6_fillCosts 101 = .ok (.iconst 0, 1) := by decide +kernel
theorem dX6_fillCosts_102 : decode cX6_fillCosts 102 = .ok (.istore 7, 2) := by decide +kernel
theorem dX6_fillCosts_104 : decode cX6_fillCosts 104 = .ok (.iload 7, 2) := by decide +kernel
theorem dX6_fillCosts_106 : decode cX6_fillCosts 106 = .ok (.iconst 4, 1) := by decide +kernel
theorem dX6_fillCosts_107 : decode cX6_fillCosts 107 = .ok (.if_icmp .ge 33, 3) := by decide +kernel
theorem dX6_fillCosts_110 : decode cX6_fillCosts 110 = .ok (.aload_n 0, 1) := by decide +kernel
theorem dX6_fillCosts_111 : decode cX6_fillCosts 111 = .ok (.getfield 35, 3) := by decide +kernel
theorem dX6_fillCosts_114 : decode cX6_fillCosts 114 = .ok (.iconst 4, 1) := by decide +kernel
theorem dX6_fillCosts_115 : decode cX6_fillCosts 115 = .ok (.iload 4, 2) := by decide +kernel
theorem dX6_fillCosts_117 : decode cX6_fillCosts 117 = .ok (.imul, 1) := by decide +kernel
theorem dX6_fillCosts_118 : decode cX6_fillCosts 118 = .ok (.iload 7, 2) := by decide +kernel
theorem dX6_fillCosts_120 : decode cX6_fillCosts 120 = .ok (.iadd, 1) := by decide +kernel
theorem dX6_fillCosts_121 : decode cX6_fillCosts 121 = .ok (.aload_n 0, 1) := by decide +kernel
theorem dX6_fillCosts_122 : decode cX6_fillCosts 122 = .ok (.getfield 15, 3) := by decide +kernel
theorem dX6_fillCosts_125 : decode cX6_fillCosts 125 = .ok (.iload 7, 2) := by decide +kernel
theorem dX6_fillCosts_127 : decode cX6_fillCosts 127 = .ok (.laload, 1) := by decide +kernel
theorem dX6_fillCosts_128 : decode cX6_fillCosts 128 = .ok (.lload 5, 2) := by decide +kernel
theorem dX6_fillCosts_130 : decode cX6_fillCosts 130 = .ok (.invokestatic 80, 3) := by decide +kernel
theorem dX6_fillCosts_133 : decode cX6_fillCosts 133 = .ok (.lastore, 1) := by decide +kernel
theorem dX6_fillCosts_134 : decode cX6_fillCosts 134 = .ok (.iinc 7 1, 3) := by decide +kernel
theorem dX6_fillCosts_137 : decode cX6_fillCosts 137 = .ok (.goto (-33), 3) := by decide +kernel
theorem dX6_fillCosts_140 : decode cX6_fillCosts 140 = .ok (.iinc 3 (-1), 3) := by decide +kernel
theorem dX6_fillCosts_143 : decode cX6_fillCosts 143 = .ok (.goto (-83), 3) := by decide +kernel
theorem dX6_fillCosts_146 : decode cX6_fillCosts 146 = .ok (.ldc2_w 47, 3) := by decide +kernel
theorem dX6_fillCosts_149 : decode cX6_fillCosts 149 = .ok (.aload_n 0, 1) := by decide +kernel
theorem dX6_fillCosts_150 : decode cX6_fillCosts 150 = .ok (.iconst 0, 1) := by decide +kernel
theorem dX6_fillCosts_151 : decode cX6_fillCosts 151 = .ok (.invokevirtual 77, 3) := by decide +kernel
theorem dX6_fillCosts_154 : decode cX6_fillCosts 154 = .ok (.ladd, 1) := by decide +kernel
theorem dX6_fillCosts_155 : decode cX6_fillCosts 155 = .ok (.lreturn, 1) := by decide +kernel
theorem dX6_breaksBehind_0 : decode cX6_breaksBehind 0 = .ok (.aload_n 0, 1) := by decide +kernel
theorem dX6_breaksBehind_1 : decode cX6_breaksBehind 1 = .ok (.getfield 31, 3) := by decide +kernel
theorem dX6_breaksBehind_4 : decode cX6_breaksBehind 4 = .ok (.aload_n 0, 1) := by decide +kernel
theorem dX6_breaksBehind_5 : decode cX6_breaksBehind 5 = .ok (.getfield 27, 3) := by decide +kernel
theorem dX6_breaksBehind_8 : decode cX6_breaksBehind 8 = .ok (.iload_n 1, 1) := by decide +kernel
theorem dX6_breaksBehind_9 : decode cX6_breaksBehind 9 = .ok (.invokevirtual 86, 3) := by decide +kernel
theorem dX6_breaksBehind_12 : decode cX6_breaksBehind 12 = .ok (.iload_n 1, 1) := by decide +kernel
theorem dX6_breaksBehind_13 : decode cX6_breaksBehind 13 = .ok (.invokevirtual 92, 3) := by decide +kernel
theorem dX6_breaksBehind_16 : decode cX6_breaksBehind 16 = .ok (.i2l, 1) := by decide +kernel
theorem dX6_breaksBehind_17 : decode cX6_breaksBehind 17 = .ok (.lreturn, 1) := by decide +kernel
theorem dX6_cheapest_0 : decode cX6_cheapest 0 = .ok (.aload_n 0, 1) := by decide +kernel
theorem dX6_cheapest_1 : decode cX6_cheapest 1 = .ok (.getfield 15, 3) := by decide +kernel
theorem dX6_cheapest_4 : decode cX6_cheapest 4 = .ok (.ldc2_w 98, 3) := by decide +kernel
theorem dX6_cheapest_7 : decode cX6_cheapest 7 = .ok (.invokestatic 100, 3) := by decide +kernel
theorem dX6_cheapest_10 : decode cX6_cheapest 10 = .ok (.ldc2_w 98, 3) := by decide +kernel
theorem dX6_cheapest_13 : decode cX6_cheapest 13 = .ok (.lstore_n 2, 1) := by decide +kernel
theorem dX6_cheapest_14 : decode cX6_cheapest 14 = .ok (.aload_n 0, 1) := by decide +kernel
theorem dX6_cheapest_15 : decode cX6_cheapest 15 = .ok (.getfield 23, 3) := by decide +kernel
theorem dX6_cheapest_18 : decode cX6_cheapest 18 = .ok (.iload_n 1, 1) := by decide +kernel
theorem dX6_cheapest_19 : decode cX6_cheapest 19 = .ok (.invokevirtual 106, 3) := by decide +kernel
theorem dX6_cheapest_22 : decode cX6_cheapest 22 = .ok (.istore 4, 2) := by decide +kernel
theorem dX6_cheapest_24 : decode cX6_cheapest 24 = .ok (.iconst 0, 1) := by decide +kernel
theorem dX6_cheapest_25 : decode cX6_cheapest 25 = .ok (.istore 5, 2) := by decide +kernel
theorem dX6_cheapest_27 : decode cX6_cheapest 27 = .ok (.iload 5, 2) := by decide +kernel
theorem dX6_cheapest_29 : decode cX6_cheapest 29 = .ok (.bipush 10, 2) := by decide +kernel
theorem dX6_cheapest_31 : decode cX6_cheapest 31 = .ok (.if_icmp .ge 76, 3) := by decide +kernel
theorem dX6_cheapest_34 : decode cX6_cheapest 34 = .ok (.iload 4, 2) := by decide +kernel
theorem dX6_cheapest_36 : decode cX6_cheapest 36 = .ok (.iload 5, 2) := by decide +kernel
theorem dX6_cheapest_38 : decode cX6_cheapest 38 = .ok (.ishr, 1) := by decide +kernel
theorem dX6_cheapest_39 : decode cX6_cheapest 39 = .ok (.iconst 1, 1) := by decide +kernel
theorem dX6_cheapest_40 : decode cX6_cheapest 40 = .ok (.iand, 1) := by decide +kernel
theorem dX6_cheapest_41 : decode cX6_cheapest 41 = .ok (.ifCond .eq 60, 3) := by decide +kernel
theorem dX6_cheapest_44 : decode cX6_cheapest 44 = .ok (.aload_n 0, 1) := by decide +kernel
theorem dX6_cheapest_45 : decode cX6_cheapest 45 = .ok (.getfield 23, 3) := by decide +kernel
theorem dX6_cheapest_48 : decode cX6_cheapest 48 = .ok (.getfield 109, 3) := by decide +kernel
theorem dX6_cheapest_51 : decode cX6_cheapest 51 = .ok (.iload 5, 2) := by decide +kernel
theorem dX6_cheapest_53 : decode cX6_cheapest 53 = .ok (.iaload, 1) := by decide +kernel
theorem dX6_cheapest_54 : decode cX6_cheapest 54 = .ok (.istore 6, 2) := by decide +kernel
theorem dX6_cheapest_56 : decode cX6_cheapest 56 = .ok (.aload_n 0, 1) := by decide +kernel
theorem dX6_cheapest_57 : decode cX6_cheapest 57 = .ok (.getfield 15, 3) := by decide +kernel
theorem dX6_cheapest_60 : decode cX6_cheapest 60 = .ok (.iload 6, 2) := by decide +kernel
theorem dX6_cheapest_62 : decode cX6_cheapest 62 = .ok (.aload_n 0, 1) := by decide +kernel
theorem dX6_cheapest_63 : decode cX6_cheapest 63 = .ok (.getfield 15, 3) := by decide +kernel
theorem dX6_cheapest_66 : decode cX6_cheapest 66 = .ok (.iload 6, 2) := by decide +kernel
theorem dX6_cheapest_68 : decode cX6_cheapest 68 = .ok (.laload, 1) := by decide +kernel
theorem dX6_cheapest_69 : decode cX6_cheapest 69 = .ok (.aload_n 0, 1) := by decide +kernel
theorem dX6_cheapest_70 : decode cX6_cheapest 70 = .ok (.getfield 35, 3) := by decide +kernel
theorem dX6_cheapest_73 : decode cX6_cheapest 73 = .ok (.iconst 4, 1) := by decide +kernel
theorem dX6_cheapest_74 : decode cX6_cheapest 74 = .ok (.iload_n 1, 1) := by decide +kernel
theorem dX6_cheapest_75 : decode cX6_cheapest 75 = .ok (.iconst 1, 1) := by decide +kernel
theorem dX6_cheapest_76 : decode cX6_cheapest 76 = .ok (.iload 5, 2) := by decide +kernel
theorem dX6_cheapest_78 : decode cX6_cheapest 78 = .ok (.ishl, 1) := by decide +kernel
theorem dX6_cheapest_79 : decode cX6_cheapest 79 = .ok (.ior, 1) := by decide +kernel
theorem dX6_cheapest_80 : decode cX6_cheapest 80 = .ok (.imul, 1) := by decide +kernel
theorem dX6_cheapest_81 : decode cX6_cheapest 81 = .ok (.iload 6, 2) := by decide +kernel
theorem dX6_cheapest_83 : decode cX6_cheapest 83 = .ok (.iadd, 1) := by decide +kernel
theorem dX6_cheapest_84 : decode cX6_cheapest 84 = .ok (.laload, 1) := by decide +kernel
theorem dX6_cheapest_85 : decode cX6_cheapest 85 = .ok (.invokestatic 80, 3) := by decide +kernel
theorem dX6_cheapest_88 : decode cX6_cheapest 88 = .ok (.lastore, 1) := by decide +kernel
theorem dX6_cheapest_89 : decode cX6_cheapest 89 = .ok (.lload_n 2, 1) := by decide +kernel
theorem dX6_cheapest_90 : decode cX6_cheapest 90 = .ok (.aload_n 0, 1) := by decide +kernel
theorem dX6_cheapest_91 : decode cX6_cheapest 91 = .ok (.getfield 15, 3) := by decide +kernel
theorem dX6_cheapest_94 : decode cX6_cheapest 94 = .ok (.iload 6, 2) := by decide +kernel
theorem dX6_cheapest_96 : decode cX6_cheapest 96 = .ok (.laload, 1) := by decide +kernel
theorem dX6_cheapest_97 : decode cX6_cheapest 97 = .ok (.invokestatic 80, 3) := by decide +kernel
theorem dX6_cheapest_100 : decode cX6_cheapest 100 = .ok (.lstore_n 2, 1) := by decide +kernel
theorem dX6_cheapest_101 : decode cX6_cheapest 101 = .ok (.iinc 5 1, 3) := by decide +kernel
theorem dX6_cheapest_104 : decode cX6_cheapest 104 = .ok (.goto (-77), 3) := by decide +kernel
theorem dX6_cheapest_107 : decode cX6_cheapest 107 = .ok (.lload_n 2, 1) := by decide +kernel
theorem dX6_cheapest_108 : decode cX6_cheapest 108 = .ok (.lreturn, 1) := by decide +kernel
theorem dX6_findFirst_0 : decode cX6_findFirst 0 = .ok (.aload_n 0, 1) := by decide +kernel
theorem dX6_findFirst_1 : decode cX6_findFirst 1 = .ok (.getfield 49, 3) := by decide +kernel
theorem dX6_findFirst_4 : decode cX6_findFirst 4 = .ok (.i2l, 1) := by decide +kernel
theorem dX6_findFirst_5 : decode cX6_findFirst 5 = .ok (.ldc2_w 47, 3) := by decide +kernel
theorem dX6_findFirst_8 : decode cX6_findFirst 8 = .ok (.lmul, 1) := by decide +kernel
theorem dX6_findFirst_9 : decode cX6_findFirst 9 = .ok (.lstore_n 1, 1) := by decide +kernel
theorem dX6_findFirst_10 : decode cX6_findFirst 10 = .ok (.iconst 0, 1) := by decide +kernel
theorem dX6_findFirst_11 : decode cX6_findFirst 11 = .ok (.istore_n 3, 1) := by decide +kernel
theorem dX6_findFirst_12 : decode cX6_findFirst 12 = .ok (.iconst (-1), 1) := by decide +kernel
theorem dX6_findFirst_13 : decode cX6_findFirst 13 = .ok (.istore 4, 2) := by decide +kernel
theorem dX6_findFirst_15 : decode cX6_findFirst 15 = .ok (.iconst 0, 1) := by decide +kernel
theorem dX6_findFirst_16 : decode cX6_findFirst 16 = .ok (.istore 5, 2) := by decide +kernel
theorem dX6_findFirst_18 : decode cX6_findFirst 18 = .ok (.iload 5, 2) := by decide +kernel
theorem dX6_findFirst_20 : decode cX6_findFirst 20 = .ok (.aload_n 0, 1) := by decide +kernel
theorem dX6_findFirst_21 : decode cX6_findFirst 21 = .ok (.getfield 23, 3) := by decide +kernel
theorem dX6_findFirst_24 : decode cX6_findFirst 24 = .ok (.getfield 112, 3) := by decide +kernel
theorem dX6_findFirst_27 : decode cX6_findFirst 27 = .ok (.getfield 116, 3) := by decide +kernel
theorem dX6_findFirst_30 : decode cX6_findFirst 30 = .ok (.if_icmp .ge 72, 3) := by decide +kernel
theorem dX6_findFirst_33 : decode cX6_findFirst 33 = .ok (.aload_n 0, 1) := by decide +kernel
theorem dX6_findFirst_34 : decode cX6_findFirst 34 = .ok (.iload_n 3, 1) := by decide +kernel
theorem dX6_findFirst_35 : decode cX6_findFirst 35 = .ok (.iload 4, 2) := by decide +kernel
theorem dX6_findFirst_37 : decode cX6_findFirst 37 = .ok (.lload_n 1, 1) := by decide +kernel
theorem dX6_findFirst_38 : decode cX6_findFirst 38 = .ok (.invokevirtual 121, 3) := by decide +kernel
theorem dX6_findFirst_41 : decode cX6_findFirst 41 = .ok (.istore 6, 2) := by decide +kernel
theorem dX6_findFirst_43 : decode cX6_findFirst 43 = .ok (.lload_n 1, 1) := by decide +kernel
theorem dX6_findFirst_44 : decode cX6_findFirst 44 = .ok (.aload_n 0, 1) := by decide +kernel
theorem dX6_findFirst_45 : decode cX6_findFirst 45 = .ok (.getfield 23, 3) := by decide +kernel
theorem dX6_findFirst_48 : decode cX6_findFirst 48 = .ok (.getfield 109, 3) := by decide +kernel
theorem dX6_findFirst_51 : decode cX6_findFirst 51 = .ok (.iload 6, 2) := by decide +kernel
theorem dX6_findFirst_53 : decode cX6_findFirst 53 = .ok (.iaload, 1) := by decide +kernel
theorem dX6_findFirst_54 : decode cX6_findFirst 54 = .ok (.iload 4, 2) := by decide +kernel
theorem dX6_findFirst_56 : decode cX6_findFirst 56 = .ok (.if_icmp .ne 7, 3) := by decide +kernel
theorem dX6_findFirst_59 : decode cX6_findFirst 59 = .ok (.lconst 0, 1) := by decide +kernel
theorem dX6_findFirst_60 : decode cX6_findFirst 60 = .ok (.goto 6, 3) := by decide +kernel
theorem dX6_findFirst_63 : decode cX6_findFirst 63 = .ok (.ldc2_w 47, 3) := by decide +kernel
theorem dX6_findFirst_66 : decode cX6_findFirst 66 = .ok (.lsub, 1) := by decide +kernel
theorem dX6_findFirst_67 : decode cX6_findFirst 67 = .ok (.lstore_n 1, 1) := by decide +kernel
theorem dX6_findFirst_68 : decode cX6_findFirst 68 = .ok (.aload_n 0, 1) := by decide +kernel
theorem dX6_findFirst_69 : decode cX6_findFirst 69 = .ok (.getfield 23, 3) := by decide +kernel
theorem dX6_findFirst_72 : decode cX6_findFirst 72 = .ok (.getfield 109, 3) := by decide +kernel
theorem dX6_findFirst_75 : decode cX6_findFirst 75 = .ok (.iload 6, 2) := by decide +kernel
theorem dX6_findFirst_77 : decode cX6_findFirst 77 = .ok (.iaload, 1) := by decide +kernel
theorem dX6_findFirst_78 : decode cX6_findFirst 78 = .ok (.istore 4, 2) := by decide +kernel
theorem dX6_findFirst_80 : decode cX6_findFirst 80 = .ok (.iload_n 3, 1) := by decide +kernel
theorem dX6_findFirst_81 : decode cX6_findFirst 81 = .ok (.iconst 1, 1) := by decide +kernel
theorem dX6_findFirst_82 : decode cX6_findFirst 82 = .ok (.iload 6, 2) := by decide +kernel
theorem dX6_findFirst_84 : decode cX6_findFirst 84 = .ok (.ishl, 1) := by decide +kernel
theorem dX6_findFirst_85 : decode cX6_findFirst 85 = .ok (.ior, 1) := by decide +kernel
theorem dX6_findFirst_86 : decode cX6_findFirst 86 = .ok (.istore_n 3, 1) := by decide +kernel
theorem dX6_findFirst_87 : decode cX6_findFirst 87 = .ok (.aload_n 0, 1) := by decide +kernel
theorem dX6_findFirst_88 : decode cX6_findFirst 88 = .ok (.getfield 9, 3) := by decide +kernel
theorem dX6_findFirst_91 : decode cX6_findFirst 91 = .ok (.iload 5, 2) := by decide +kernel
theorem dX6_findFirst_93 : decode cX6_findFirst 93 = .ok (.iload 6, 2) := by decide +kernel
theorem dX6_findFirst_95 : decode cX6_findFirst 95 = .ok (.iastore, 1) := by decide +kernel
theorem dX6_findFirst_96 : decode cX6_findFirst 96 = .ok (.iinc 5 1, 3) := by decide +kernel
theorem dX6_findFirst_99 : decode cX6_findFirst 99 = .ok (.goto (-81), 3) := by decide +kernel
theorem dX6_findFirst_102 : decode cX6_findFirst 102 = .ok (.return_, 1) := by decide +kernel
theorem dX6_leastMark_0 : decode cX6_leastMark 0 = .ok (.aload_n 0, 1) := by decide +kernel
theorem dX6_leastMark_1 : decode cX6_leastMark 1 = .ok (.getfield 23, 3) := by decide +kernel
theorem dX6_leastMark_4 : decode cX6_leastMark 4 = .ok (.iload_n 1, 1) := by decide +kernel
theorem dX6_leastMark_5 : decode cX6_leastMark 5 = .ok (.invokevirtual 106, 3) := by decide +kernel
theorem dX6_leastMark_8 : decode cX6_leastMark 8 = .ok (.istore 5, 2) := by decide +kernel
theorem dX6_leastMark_10 : decode cX6_leastMark 10 = .ok (.iconst 0, 1) := by decide +kernel
theorem dX6_leastMark_11 : decode cX6_leastMark 11 = .ok (.istore 6, 2) := by decide +kernel
theorem dX6_leastMark_13 : decode cX6_leastMark 13 = .ok (.iload 6, 2) := by decide +kernel
theorem dX6_leastMark_15 : decode cX6_leastMark 15 = .ok (.bipush 10, 2) := by decide +kernel
theorem dX6_leastMark_17 : decode cX6_leastMark 17 = .ok (.if_icmp .ge 77, 3) := by decide +kernel
theorem dX6_leastMark_20 : decode cX6_leastMark 20 = .ok (.iload 5, 2) := by decide +kernel
theorem dX6_leastMark_22 : decode cX6_leastMark 22 = .ok (.iload 6, 2) := by decide +kernel
theorem dX6_leastMark_24 : decode cX6_leastMark 24 = .ok (.ishr, 1) := by decide +kernel
theorem dX6_leastMark_25 : decode cX6_leastMark 25 = .ok (.iconst 1, 1) := by decide +kernel
theorem dX6_leastMark_26 : decode cX6_leastMark 26 = .ok (.iand, 1) := by decide +kernel
theorem dX6_leastMark_27 : decode cX6_leastMark 27 = .ok (.ifCond .eq 61, 3) := by decide +kernel
theorem dX6_leastMark_30 : decode cX6_leastMark 30 = .ok (.aload_n 0, 1) := by decide +kernel
theorem dX6_leastMark_31 : decode cX6_leastMark 31 = .ok (.getfield 23, 3) := by decide +kernel
theorem dX6_leastMark_34 : decode cX6_leastMark 34 = .ok (.getfield 109, 3) := by decide +kernel
theorem dX6_leastMark_37 : decode cX6_leastMark 37 = .ok (.iload 6, 2) := by decide +kernel
theorem dX6_leastMark_39 : decode cX6_leastMark 39 = .ok (.iaload, 1) := by decide +kernel
theorem dX6_leastMark_40 : decode cX6_leastMark 40 = .ok (.iload_n 2, 1) := by decide +kernel
theorem dX6_leastMark_41 : decode cX6_leastMark 41 = .ok (.if_icmp .ne 7, 3) := by decide +kernel
theorem dX6_leastMark_44 : decode cX6_leastMark 44 = .ok (.lconst 0, 1) := by decide +kernel
theorem dX6_leastMark_45 : decode cX6_leastMark 45 = .ok (.goto 6, 3) := by decide +kernel
theorem dX6_leastMark_48 : decode cX6_leastMark 48 = .ok (.ldc2_w 47, 3) := by decide +kernel
theorem dX6_leastMark_51 : decode cX6_leastMark 51 = .ok (.lstore 7, 2) := by decide +kernel
theorem dX6_leastMark_53 : decode cX6_leastMark 53 = .ok (.lload 7, 2) := by decide +kernel
theorem dX6_leastMark_55 : decode cX6_leastMark 55 = .ok (.aload_n 0, 1) := by decide +kernel
theorem dX6_leastMark_56 : decode cX6_leastMark 56 = .ok (.getfield 35, 3) := by decide +kernel
theorem dX6_leastMark_59 : decode cX6_leastMark 59 = .ok (.iconst 4, 1) := by decide +kernel
theorem dX6_leastMark_60 : decode cX6_leastMark 60 = .ok (.iload_n 1, 1) := by decide +kernel
theorem dX6_leastMark_61 : decode cX6_leastMark 61 = .ok (.iconst 1, 1) := by decide +kernel
theorem dX6_leastMark_62 : decode cX6_leastMark 62 = .ok (.iload 6, 2) := by decide +kernel
theorem dX6_leastMark_64 : decode cX6_leastMark 64 = .ok (.ishl, 1) := by decide +kernel
theorem dX6_leastMark_65 : decode cX6_leastMark 65 = .ok (.ior, 1) := by decide +kernel
theorem dX6_leastMark_66 : decode cX6_leastMark 66 = .ok (.imul, 1) := by decide +kernel
theorem dX6_leastMark_67 : decode cX6_leastMark 67 = .ok (.aload_n 0, 1) := by decide +kernel
theorem dX6_leastMark_68 : decode cX6_leastMark 68 = .ok (.getfield 23, 3) := by decide +kernel
theorem dX6_leastMark_71 : decode cX6_leastMark 71 = .ok (.getfield 109, 3) := by decide +kernel
theorem dX6_leastMark_74 : decode cX6_leastMark 74 = .ok (.iload 6, 2) := by decide +kernel
theorem dX6_leastMark_76 : decode cX6_leastMark 76 = .ok (.iaload, 1) := by decide +kernel
theorem dX6_leastMark_77 : decode cX6_leastMark 77 = .ok (.iadd, 1) := by decide +kernel
theorem dX6_leastMark_78 : decode cX6_leastMark 78 = .ok (.laload, 1) := by decide +kernel
theorem dX6_leastMark_79 : decode cX6_leastMark 79 = .ok (.ladd, 1) := by decide +kernel
theorem dX6_leastMark_80 : decode cX6_leastMark 80 = .ok (.lload_n 3, 1) := by decide +kernel
theorem dX6_leastMark_81 : decode cX6_leastMark 81 = .ok (.lcmp, 1) := by decide +kernel
theorem dX6_leastMark_82 : decode cX6_leastMark 82 = .ok (.ifCond .ne 6, 3) := by decide +kernel
theorem dX6_leastMark_85 : decode cX6_leastMark 85 = .ok (.iload 6, 2) := by decide +kernel
theorem dX6_leastMark_87 : decode cX6_leastMark 87 = .ok (.ireturn, 1) := by decide +kernel
theorem dX6_leastMark_88 : decode cX6_leastMark 88 = .ok (.iinc 6 1, 3) := by decide +kernel
theorem dX6_leastMark_91 : decode cX6_leastMark 91 = .ok (.goto (-78), 3) := by decide +kernel
theorem dX6_leastMark_94 : decode cX6_leastMark 94 = .ok (.iconst 0, 1) := by decide +kernel
theorem dX6_leastMark_95 : decode cX6_leastMark 95 = .ok (.ireturn, 1) := by decide +kernel
theorem dX7_init_0 : decode cX7_init 0 = .ok (.aload_n 0, 1) := by decide +kernel
theorem dX7_init_1 : decode cX7_init 1 = .ok (.invokespecial 3, 3) := by decide +kernel
theorem dX7_init_4 : decode cX7_init 4 = .ok (.aload_n 0, 1) := by decide +kernel
theorem dX7_init_5 : decode cX7_init 5 = .ok (.sipush 400, 3) := by decide +kernel
theorem dX7_init_8 : decode cX7_init 8 = .ok (.newarray .byte, 2) := by decide +kernel
theorem dX7_init_10 : decode cX7_init 10 = .ok (.putfield 9, 3) := by decide +kernel
theorem dX7_init_13 : decode cX7_init 13 = .ok (.aload_n 0, 1) := by decide +kernel
theorem dX7_init_14 : decode cX7_init 14 = .ok (.bipush 100, 2) := by decide +kernel
theorem dX7_init_16 : decode cX7_init 16 = .ok (.newarray .int, 2) := by decide +kernel
theorem dX7_init_18 : decode cX7_init 18 = .ok (.putfield 15, 3) := by decide +kernel
theorem dX7_init_21 : decode cX7_init 21 = .ok (.aload_n 0, 1) := by decide +kernel
theorem dX7_init_22 : decode cX7_init 22 = .ok (.bipush 100, 2) := by decide +kernel
theorem dX7_init_24 : decode cX7_init 24 = .ok (.newarray .int, 2) := by decide +kernel
theorem dX7_init_26 : decode cX7_init 26 = .ok (.putfield 19, 3) := by decide +kernel
theorem dX7_init_29 : decode cX7_init 29 = .ok (.aload_n 0, 1) := by decide +kernel
theorem dX7_init_30 : decode cX7_init 30 = .ok (.bipush 100, 2) := by decide +kernel
theorem dX7_init_32 : decode cX7_init 32 = .ok (.newarray .int, 2) := by decide +kernel
theorem dX7_init_34 : decode cX7_init 34 = .ok (.putfield 22, 3) := by decide +kernel
theorem dX7_init_37 : decode cX7_init 37 = .ok (.aload_n 0, 1) := by decide +kernel
theorem dX7_init_38 : decode cX7_init 38 = .ok (.bipush 10, 2) := by decide +kernel
theorem dX7_init_40 : decode cX7_init 40 = .ok (.newarray .int, 2) := by decide +kernel
theorem dX7_init_42 : decode cX7_init 42 = .ok (.putfield 25, 3) := by decide +kernel
theorem dX7_init_45 : decode cX7_init 45 = .ok (.aload_n 0, 1) := by decide +kernel
theorem dX7_init_46 : decode cX7_init 46 = .ok (.bipush 10, 2) := by decide +kernel
theorem dX7_init_48 : decode cX7_init 48 = .ok (.newarray .int, 2) := by decide +kernel
theorem dX7_init_50 : decode cX7_init 50 = .ok (.putfield 28, 3) := by decide +kernel
theorem dX7_init_53 : decode cX7_init 53 = .ok (.aload_n 0, 1) := by decide +kernel
theorem dX7_init_54 : decode cX7_init 54 = .ok (.bipush 10, 2) := by decide +kernel
theorem dX7_init_56 : decode cX7_init 56 = .ok (.newarray .int, 2) := by decide +kernel
theorem dX7_init_58 : decode cX7_init 58 = .ok (.putfield 31, 3) := by decide +kernel
theorem dX7_init_61 : decode cX7_init 61 = .ok (.aload_n 0, 1) := by decide +kernel
theorem dX7_init_62 : decode cX7_init 62 = .ok (.bipush 10, 2) := by decide +kernel
theorem dX7_init_64 : decode cX7_init 64 = .ok (.newarray .int, 2) := by decide +kernel
theorem dX7_init_66 : decode cX7_init 66 = .ok (.putfield 34, 3) := by decide +kernel
theorem dX7_init_69 : decode cX7_init 69 = .ok (.aload_n 0, 1) := by decide +kernel
theorem dX7_init_70 : decode cX7_init 70 = .ok (.bipush 10, 2) := by decide +kernel
theorem dX7_init_72 : decode cX7_init 72 = .ok (.newarray .int, 2) := by decide +kernel
theorem dX7_init_74 : decode cX7_init 74 = .ok (.putfield 37, 3) := by decide +kernel
theorem dX7_init_77 : decode cX7_init 77 = .ok (.aload_n 0, 1) := by decide +kernel
theorem dX7_init_78 : decode cX7_init 78 = .ok (.bipush 10, 2) := by decide +kernel
theorem dX7_init_80 : decode cX7_init 80 = .ok (.newarray .int, 2) := by decide +kernel
theorem dX7_init_82 : decode cX7_init 82 = .ok (.putfield 40, 3) := by decide +kernel
theorem dX7_init_85 : decode cX7_init 85 = .ok (.aload_n 0, 1) := by decide +kernel
theorem dX7_init_86 : decode cX7_init 86 = .ok (.bipush 10, 2) := by decide +kernel
theorem dX7_init_88 : decode cX7_init 88 = .ok (.newarray .int, 2) := by decide +kernel
theorem dX7_init_90 : decode cX7_init 90 = .ok (.putfield 43, 3) := by decide +kernel
theorem dX7_init_93 : decode cX7_init 93 = .ok (.return_, 1) := by decide +kernel
theorem dX7_wipe_0 : decode cX7_wipe 0 = .ok (.aload_n 0, 1) := by decide +kernel
theorem dX7_wipe_1 : decode cX7_wipe 1 = .ok (.iconst 0, 1) := by decide +kernel
theorem dX7_wipe_2 : decode cX7_wipe 2 = .ok (.putfield 46, 3) := by decide +kernel
theorem dX7_wipe_5 : decode cX7_wipe 5 = .ok (.aload_n 0, 1) := by decide +kernel
theorem dX7_wipe_6 : decode cX7_wipe 6 = .ok (.iconst 0, 1) := by decide +kernel
theorem dX7_wipe_7 : decode cX7_wipe 7 = .ok (.putfield 50, 3) := by decide +kernel
theorem dX7_wipe_10 : decode cX7_wipe 10 = .ok (.aload_n 0, 1) := by decide +kernel
theorem dX7_wipe_11 : decode cX7_wipe 11 = .ok (.iconst 0, 1) := by decide +kernel
theorem dX7_wipe_12 : decode cX7_wipe 12 = .ok (.putfield 54, 3) := by decide +kernel
theorem dX7_wipe_15 : decode cX7_wipe 15 = .ok (.aload_n 0, 1) := by decide +kernel
theorem dX7_wipe_16 : decode cX7_wipe 16 = .ok (.iconst 0, 1) := by decide +kernel
theorem dX7_wipe_17 : decode cX7_wipe 17 = .ok (.putfield 57, 3) := by decide +kernel
theorem dX7_wipe_20 : decode cX7_wipe 20 = .ok (.aload_n 0, 1) := by decide +kernel
theorem dX7_wipe_21 : decode cX7_wipe 21 = .ok (.iconst 0, 1) := by decide +kernel
theorem dX7_wipe_22 : decode cX7_wipe 22 = .ok (.putfield 60, 3) := by decide +kernel
theorem dX7_wipe_25 : decode cX7_wipe 25 = .ok (.aload_n 0, 1) := by decide +kernel
theorem dX7_wipe_26 : decode cX7_wipe 26 = .ok (.getfield 28, 3) := by decide +kernel
theorem dX7_wipe_29 : decode cX7_wipe 29 = .ok (.iconst 0, 1) := by decide +kernel
theorem dX7_wipe_30 : decode cX7_wipe 30 = .ok (.invokestatic 63, 3) := by decide +kernel
theorem dX7_wipe_33 : decode cX7_wipe 33 = .ok (.aload_n 0, 1) := by decide +kernel
theorem dX7_wipe_34 : decode cX7_wipe 34 = .ok (.getfield 31, 3) := by decide +kernel
theorem dX7_wipe_37 : decode cX7_wipe 37 = .ok (.iconst 0, 1) := by decide +kernel
theorem dX7_wipe_38 : decode cX7_wipe 38 = .ok (.invokestatic 63, 3) := by decide +kernel
theorem dX7_wipe_41 : decode cX7_wipe 41 = .ok (.aload_n 0, 1) := by decide +kernel
theorem dX7_wipe_42 : decode cX7_wipe 42 = .ok (.getfield 43, 3) := by decide +kernel
theorem dX7_wipe_45 : decode cX7_wipe 45 = .ok (.iconst (-1), 1) := by decide +kernel
theorem dX7_wipe_46 : decode cX7_wipe 46 = .ok (.invokestatic 63, 3) := by decide +kernel
theorem dX7_wipe_49 : decode cX7_wipe 49 = .ok (.return_, 1) := by decide +kernel
theorem dX7_addItem_0 : decode cX7_addItem 0 = .ok (.aload_n 0, 1) := by decide +kernel
theorem dX7_addItem_1 : decode cX7_addItem 1 = .ok (.getfield 54, 3) := by decide +kernel
theorem dX7_addItem_4 : decode cX7_addItem 4 = .ok (.bipush 100, 2) := by decide +kernel
theorem dX7_addItem_6 : decode cX7_addItem 6 = .ok (.if_icmp .ge 43, 3) := by decide +kernel
theorem dX7_addItem_9 : decode cX7_addItem 9 = .ok (.aload_n 0, 1) := by decide +kernel
theorem dX7_addItem_10 : decode cX7_addItem 10 = .ok (.getfield 15, 3) := by decide +kernel
theorem dX7_addItem_13 : decode cX7_addItem 13 = .ok (.aload_n 0, 1) := by decide +kernel
theorem dX7_addItem_14 : decode cX7_addItem 14 = .ok (.getfield 54, 3) := by decide +kernel
theorem dX7_addItem_17 : decode cX7_addItem 17 = .ok (.iload_n 1, 1) := by decide +kernel
theorem dX7_addItem_18 : decode cX7_addItem 18 = .ok (.iastore, 1) := by decide +kernel
theorem dX7_addItem_19 : decode cX7_addItem 19 = .ok (.aload_n 0, 1) := by decide +kernel
theorem dX7_addItem_20 : decode cX7_addItem 20 = .ok (.getfield 19, 3) := by decide +kernel
theorem dX7_addItem_23 : decode cX7_addItem 23 = .ok (.aload_n 0, 1) := by decide +kernel
theorem dX7_addItem_24 : decode cX7_addItem 24 = .ok (.getfield 54, 3) := by decide +kernel
theorem dX7_addItem_27 : decode cX7_addItem 27 = .ok (.iconst (-1), 1) := by decide +kernel
theorem dX7_addItem_28 : decode cX7_addItem 28 = .ok (.iastore, 1) := by decide +kernel
theorem dX7_addItem_29 : decode cX7_addItem 29 = .ok (.aload_n 0, 1) := by decide +kernel
theorem dX7_addItem_30 : decode cX7_addItem 30 = .ok (.getfield 22, 3) := by decide +kernel
theorem dX7_addItem_33 : decode cX7_addItem 33 = .ok (.aload_n 0, 1) := by decide +kernel
theorem dX7_addItem_34 : decode cX7_addItem 34 = .ok (.getfield 54, 3) := by decide +kernel
theorem dX7_addItem_37 : decode cX7_addItem 37 = .ok (.iconst (-1), 1) := by decide +kernel
theorem dX7_addItem_38 : decode cX7_addItem 38 = .ok (.iastore, 1) := by decide +kernel
theorem dX7_addItem_39 : decode cX7_addItem 39 = .ok (.aload_n 0, 1) := by decide +kernel
theorem dX7_addItem_40 : decode cX7_addItem 40 = .ok (.dup, 1) := by decide +kernel
theorem dX7_addItem_41 : decode cX7_addItem 41 = .ok (.getfield 54, 3) := by decide +kernel
theorem dX7_addItem_44 : decode cX7_addItem 44 = .ok (.iconst 1, 1) := by decide +kernel
theorem dX7_addItem_45 : decode cX7_addItem 45 = .ok (.iadd, 1) := by decide +kernel
theorem dX7_addItem_46 : decode cX7_addItem 46 = .ok (.putfield 54, 3) := by decide +kernel
theorem dX7_addItem_49 : decode cX7_addItem 49 = .ok (.return_, 1) := by decide +kernel
theorem dX7_printSign_0 : decode cX7_printSign 0 = .ok (.aload_n 0, 1) := by decide +kernel
theorem dX7_printSign_1 : decode cX7_printSign 1 = .ok (.getfield 46, 3) := by decide +kernel
theorem dX7_printSign_4 : decode cX7_printSign 4 = .ok (.sipush 400, 3) := by decide +kernel
theorem dX7_printSign_7 : decode cX7_printSign 7 = .ok (.if_icmp .ge 24, 3) := by decide +kernel
theorem dX7_printSign_10 : decode cX7_printSign 10 = .ok (.aload_n 0, 1) := by decide +kernel
theorem dX7_printSign_11 : decode cX7_printSign 11 = .ok (.getfield 9, 3) := by decide +kernel
theorem dX7_printSign_14 : decode cX7_printSign 14 = .ok (.aload_n 0, 1) := by decide +kernel
theorem dX7_printSign_15 : decode cX7_printSign 15 = .ok (.getfield 46, 3) := by decide +kernel
theorem dX7_printSign_18 : decode cX7_printSign 18 = .ok (.iload_n 1, 1) := by decide +kernel
theorem dX7_printSign_19 : decode cX7_printSign 19 = .ok (.i2b, 1) := by decide +kernel
theorem dX7_printSign_20 : decode cX7_printSign 20 = .ok (.bastore, 1) := by decide +kernel
theorem dX7_printSign_21 : decode cX7_printSign 21 = .ok (.aload_n 0, 1) := by decide +kernel
theorem dX7_printSign_22 : decode cX7_printSign 22 = .ok (.dup, 1) := by decide +kernel
theorem dX7_printSign_23 : decode cX7_printSign 23 = .ok (.getfield 46, 3) := by decide +kernel
theorem dX7_printSign_26 : decode cX7_printSign 26 = .ok (.iconst 1, 1) := by decide +kernel
theorem dX7_printSign_27 : decode cX7_printSign 27 = .ok (.iadd, 1) := by decide +kernel
theorem dX7_printSign_28 : decode cX7_printSign 28 = .ok (.putfield 46, 3) := by decide +kernel
theorem dX7_printSign_31 : decode cX7_printSign 31 = .ok (.aload_n 0, 1) := by decide +kernel
theorem dX7_printSign_32 : decode cX7_printSign 32 = .ok (.iconst 0, 1) := by decide +kernel
theorem dX7_printSign_33 : decode cX7_printSign 33 = .ok (.putfield 50, 3) := by decide +kernel
theorem dX7_printSign_36 : decode cX7_printSign 36 = .ok (.return_, 1) := by decide +kernel
theorem dX7_printNumber_0 : decode cX7_printNumber 0 = .ok (.aload_n 0, 1) := by decide +kernel
theorem dX7_printNumber_1 : decode cX7_printNumber 1 = .ok (.getfield 50, 3) := by decide +kernel
theorem dX7_printNumber_4 : decode cX7_printNumber 4 = .ok (.ifCond .eq 9, 3) := by decide +kernel
theorem dX7_printNumber_7 : decode cX7_printNumber 7 = .ok (.aload_n 0, 1) := by decide +kernel
theorem dX7_printNumber_8 : decode cX7_printNumber 8 = .ok (.bipush 32, 2) := by decide +kernel
theorem dX7_printNumber_10 : decode cX7_printNumber 10 = .ok (.invokevirtual 69, 3) := by decide +kernel
theorem dX7_printNumber_13 : decode cX7_printNumber 13 = .ok (.iload_n 1, 1) := by decide +kernel
theorem dX7_printNumber_14 : decode cX7_printNumber 14 = .ok (.bipush 10, 2) := by decide +kernel
theorem dX7_printNumber_16 : decode cX7_printNumber 16 = .ok (.if_icmp .lt 14, 3) := by decide +kernel
theorem dX7_printNumber_19 : decode cX7_printNumber 19 = .ok (.aload_n 0, 1) := by decide +kernel
theorem dX7_printNumber_20 : decode cX7_printNumber 20 = .ok (.bipush 48, 2) := by decide +kernel
theorem dX7_printNumber_22 : decode cX7_printNumber 22 = .ok (.iload_n 1, 1) := by decide +kernel
theorem dX7_printNumber_23 : decode cX7_printNumber 23 = .ok (.bipush 10, 2) := by decide +kernel
theorem dX7_printNumber_25 : decode cX7_printNumber 25 = .ok (.idiv, 1) := by decide +kernel
theorem dX7_printNumber_26 : decode cX7_printNumber 26 = .ok (.iadd, 1) := by decide +kernel
theorem dX7_printNumber_27 : decode cX7_printNumber 27 = .ok (.invokevirtual 69, 3) := by decide +kernel
theorem dX7_printNumber_30 : decode cX7_printNumber 30 = .ok (.aload_n 0, 1) := by decide +kernel
theorem dX7_printNumber_31 : decode cX7_printNumber 31 = .ok (.bipush 48, 2) := by decide +kernel
theorem dX7_printNumber_33 : decode cX7_printNumber 33 = .ok (.iload_n 1, 1) := by decide +kernel
theorem dX7_printNumber_34 : decode cX7_printNumber 34 = .ok (.bipush 10, 2) := by decide +kernel
theorem dX7_printNumber_36 : decode cX7_printNumber 36 = .ok (.irem, 1) := by decide +kernel
theorem dX7_printNumber_37 : decode cX7_printNumber 37 = .ok (.iadd, 1) := by decide +kernel
theorem dX7_printNumber_38 : decode cX7_printNumber 38 = .ok (.invokevirtual 69, 3) := by decide +kernel
theorem dX7_printNumber_41 : decode cX7_printNumber 41 = .ok (.aload_n 0, 1) := by decide +kernel
theorem dX7_printNumber_42 : decode cX7_printNumber 42 = .ok (.iconst 1, 1) := by decide +kernel
theorem dX7_printNumber_43 : decode cX7_printNumber 43 = .ok (.putfield 50, 3) := by decide +kernel
theorem dX7_printNumber_46 : decode cX7_printNumber 46 = .ok (.return_, 1) := by decide +kernel
theorem dX7_tell_0 : decode cX7_tell 0 = .ok (.aload_n 0, 1) := by decide +kernel
theorem dX7_tell_1 : decode cX7_tell 1 = .ok (.getfield 25, 3) := by decide +kernel
theorem dX7_tell_4 : decode cX7_tell 4 = .ok (.iload_n 1, 1) := by decide +kernel
theorem dX7_tell_5 : decode cX7_tell 5 = .ok (.iload_n 2, 1) := by decide +kernel
theorem dX7_tell_6 : decode cX7_tell 6 = .ok (.iastore, 1) := by decide +kernel
theorem dX7_tell_7 : decode cX7_tell 7 = .ok (.aload_n 0, 1) := by decide +kernel
theorem dX7_tell_8 : decode cX7_tell 8 = .ok (.getfield 34, 3) := by decide +kernel
theorem dX7_tell_11 : decode cX7_tell 11 = .ok (.iload_n 1, 1) := by decide +kernel
theorem dX7_tell_12 : decode cX7_tell 12 = .ok (.iload_n 3, 1) := by decide +kernel
theorem dX7_tell_13 : decode cX7_tell 13 = .ok (.iastore, 1) := by decide +kernel
theorem dX7_tell_14 : decode cX7_tell 14 = .ok (.aload_n 0, 1) := by decide +kernel
theorem dX7_tell_15 : decode cX7_tell 15 = .ok (.getfield 28, 3) := by decide +kernel
theorem dX7_tell_18 : decode cX7_tell 18 = .ok (.iload_n 1, 1) := by decide +kernel
theorem dX7_tell_19 : decode cX7_tell 19 = .ok (.dup2, 1) := by decide +kernel
theorem dX7_tell_20 : decode cX7_tell 20 = .ok (.iaload, 1) := by decide +kernel
theorem dX7_tell_21 : decode cX7_tell 21 = .ok (.iload 4, 2) := by decide +kernel
theorem dX7_tell_23 : decode cX7_tell 23 = .ok (.ior, 1) := by decide +kernel
theorem dX7_tell_24 : decode cX7_tell 24 = .ok (.iastore, 1) := by decide +kernel
theorem dX7_tell_25 : decode cX7_tell 25 = .ok (.return_, 1) := by decide +kernel
theorem dX7_spell_0 : decode cX7_spell 0 = .ok (.aload_n 2, 1) := by decide +kernel
theorem dX7_spell_1 : decode cX7_spell 1 = .ok (.iload_n 1, 1) := by decide +kernel
theorem dX7_spell_2 : decode cX7_spell 2 = .ok (.invokevirtual 73, 3) := by decide +kernel
theorem dX7_spell_5 : decode cX7_spell 5 = .ok (.iconst 0, 1) := by decide +kernel
theorem dX7_spell_6 : decode cX7_spell 6 = .ok (.istore_n 3, 1) := by decide +kernel
theorem dX7_spell_7 : decode cX7_spell 7 = .ok (.iconst 0, 1) := by decide +kernel
theorem dX7_spell_8 : decode cX7_spell 8 = .ok (.istore 4, 2) := by decide +kernel
theorem dX7_spell_10 : decode cX7_spell 10 = .ok (.iconst 0, 1) := by decide +kernel
theorem dX7_spell_11 : decode cX7_spell 11 = .ok (.istore 5, 2) := by decide +kernel
theorem dX7_spell_13 : decode cX7_spell 13 = .ok (.iload 5, 2) := by decide +kernel
theorem dX7_spell_15 : decode cX7_spell 15 = .ok (.bipush 100, 2) := by decide +kernel
theorem dX7_spell_17 : decode cX7_spell 17 = .ok (.if_icmp .ge 126, 3) := by decide +kernel
theorem dX7_spell_20 : decode cX7_spell 20 = .ok (.iload 4, 2) := by decide +kernel
theorem dX7_spell_22 : decode cX7_spell 22 = .ok (.ifCond .lt 121, 3) := by decide +kernel
theorem dX7_spell_25 : decode cX7_spell 25 = .ok (.iload 4, 2) := by decide +kernel
theorem dX7_spell_27 : decode cX7_spell 27 = .ok (.aload_n 0, 1) := by decide +kernel
theorem dX7_spell_28 : decode cX7_spell 28 = .ok (.getfield 54, 3) := by decide +kernel
theorem dX7_spell_31 : decode cX7_spell 31 = .ok (.if_icmp .ge 112, 3) := by decide +kernel
theorem dX7_spell_34 : decode cX7_spell 34 = .ok (.aload_n 0, 1) := by decide +kernel
theorem dX7_spell_35 : decode cX7_spell 35 = .ok (.getfield 15, 3) := by decide +kernel
theorem dX7_spell_38 : decode cX7_spell 38 = .ok (.iload 4, 2) := by decide +kernel
theorem dX7_spell_40 : decode cX7_spell 40 = .ok (.iaload, 1) := by decide +kernel
theorem dX7_spell_41 : decode cX7_spell 41 = .ok (.bipush 119, 2) := by decide +kernel
theorem dX7_spell_43 : decode cX7_spell 43 = .ok (.if_icmp .ne 18, 3) := by decide +kernel
theorem dX7_spell_46 : decode cX7_spell 46 = .ok (.aload_n 2, 1) := by decide +kernel
theorem dX7_spell_47 : decode cX7_spell 47 = .ok (.iload_n 1, 1) := by decide +kernel
theorem dX7_spell_48 : decode cX7_spell 48 = .ok (.aload_n 0, 1) := by decide +kernel
theorem dX7_spell_49 : decode cX7_spell 49 = .ok (.getfield 22, 3) := by decide +kernel
theorem dX7_spell_52 : decode cX7_spell 52 = .ok (.iload 4, 2) := by decide +kernel
theorem dX7_spell_54 : decode cX7_spell 54 = .ok (.iaload, 1) := by decide +kernel
theorem dX7_spell_55 : decode cX7_spell 55 = .ok (.invokevirtual 78, 3) := by decide +kernel
theorem dX7_spell_58 : decode cX7_spell 58 = .ok (.goto 70, 3) := by decide +kernel
theorem dX7_spell_61 : decode cX7_spell 61 = .ok (.aload_n 0, 1) := by decide +kernel
theorem dX7_spell_62 : decode cX7_spell 62 = .ok (.getfield 15, 3) := by decide +kernel
theorem dX7_spell_65 : decode cX7_spell 65 = .ok (.iload 4, 2) := by decide +kernel
theorem dX7_spell_67 : decode cX7_spell 67 = .ok (.iaload, 1) := by decide +kernel
theorem dX7_spell_68 : decode cX7_spell 68 = .ok (.bipush 40, 2) := by decide +kernel
theorem dX7_spell_70 : decode cX7_spell 70 = .ok (.if_icmp .eq 29, 3) := by decide +kernel
theorem dX7_spell_73 : decode cX7_spell 73 = .ok (.aload_n 0, 1) := by decide +kernel
theorem dX7_spell_74 : decode cX7_spell 74 = .ok (.getfield 15, 3) := by decide +kernel
theorem dX7_spell_77 : decode cX7_spell 77 = .ok (.iload 4, 2) := by decide +kernel
theorem dX7_spell_79 : decode cX7_spell 79 = .ok (.iaload, 1) := by decide +kernel
theorem dX7_spell_80 : decode cX7_spell 80 = .ok (.bipush 47, 2) := by decide +kernel
theorem dX7_spell_82 : decode cX7_spell 82 = .ok (.if_icmp .ne 28, 3) := by decide +kernel
theorem dX7_spell_85 : decode cX7_spell 85 = .ok (.iload_n 1, 1) := by decide +kernel
theorem dX7_spell_86 : decode cX7_spell 86 = .ok (.aload_n 0, 1) := by decide +kernel
theorem dX7_spell_87 : decode cX7_spell 87 = .ok (.getfield 19, 3) := by decide +kernel
theorem dX7_spell_90 : decode cX7_spell 90 = .ok (.iload 4, 2) := by decide +kernel
theorem dX7_spell_92 : decode cX7_spell 92 = .ok (.iaload, 1) := by decide +kernel
theorem dX7_spell_93 : decode cX7_spell 93 = .ok (.invokestatic 82, 3) := by decide +kernel
theorem dX7_spell_96 : decode cX7_spell 96 = .ok (.ifCond .eq 14, 3) := by decide +kernel
theorem dX7_spell_99 : decode cX7_spell 99 = .ok (.aload_n 0, 1) := by decide +kernel
theorem dX7_spell_100 : decode cX7_spell 100 = .ok (.getfield 22, 3) := by decide +kernel
theorem dX7_spell_103 : decode cX7_spell 103 = .ok (.iload 4, 2) := by decide +kernel
theorem dX7_spell_105 : decode cX7_spell 105 = .ok (.iaload, 1) := by decide +kernel
theorem dX7_spell_106 : decode cX7_spell 106 = .ok (.istore_n 3, 1) := by decide +kernel
theorem dX7_spell_107 : decode cX7_spell 107 = .ok (.goto 21, 3) := by decide +kernel
theorem dX7_spell_110 : decode cX7_spell 110 = .ok (.aload_n 0, 1) := by decide +kernel
theorem dX7_spell_111 : decode cX7_spell 111 = .ok (.getfield 15, 3) := by decide +kernel
theorem dX7_spell_114 : decode cX7_spell 114 = .ok (.iload 4, 2) := by decide +kernel
theorem dX7_spell_116 : decode cX7_spell 116 = .ok (.iaload, 1) := by decide +kernel
theorem dX7_spell_117 : decode cX7_spell 117 = .ok (.bipush 41, 2) := by decide +kernel
theorem dX7_spell_119 : decode cX7_spell 119 = .ok (.if_icmp .ne 9, 3) := by decide +kernel
theorem dX7_spell_122 : decode cX7_spell 122 = .ok (.aload_n 2, 1) := by decide +kernel
theorem dX7_spell_123 : decode cX7_spell 123 = .ok (.iload_n 1, 1) := by decide +kernel
theorem dX7_spell_124 : decode cX7_spell 124 = .ok (.iload_n 3, 1) := by decide +kernel
theorem dX7_spell_125 : decode cX7_spell 125 = .ok (.invokevirtual 78, 3) := by decide +kernel
theorem dX7_spell_128 : decode cX7_spell 128 = .ok (.aload_n 0, 1) := by decide +kernel
theorem dX7_spell_129 : decode cX7_spell 129 = .ok (.iload 4, 2) := by decide +kernel
theorem dX7_spell_131 : decode cX7_spell 131 = .ok (.iload_n 1, 1) := by decide +kernel
theorem dX7_spell_132 : decode cX7_spell 132 = .ok (.invokevirtual 86, 3) := by decide +kernel
theorem dX7_spell_135 : decode cX7_spell 135 = .ok (.istore 4, 2) := by decide +kernel
theorem dX7_spell_137 : decode cX7_spell 137 = .ok (.iinc 5 1, 3) := by decide +kernel
theorem dX7_spell_140 : decode cX7_spell 140 = .ok (.goto (-127), 3) := by decide +kernel
theorem dX7_spell_143 : decode cX7_spell 143 = .ok (.return_, 1) := by decide +kernel
theorem dX7_after_0 : decode cX7_after 0 = .ok (.aload_n 0, 1) := by decide +kernel
theorem dX7_after_1 : decode cX7_after 1 = .ok (.getfield 19, 3) := by decide +kernel
theorem dX7_after_4 : decode cX7_after 4 = .ok (.iload_n 1, 1) := by decide +kernel
theorem dX7_after_5 : decode cX7_after 5 = .ok (.iaload, 1) := by decide +kernel
theorem dX7_after_6 : decode cX7_after 6 = .ok (.istore_n 3, 1) := by decide +kernel
theorem dX7_after_7 : decode cX7_after 7 = .ok (.iload_n 3, 1) := by decide +kernel
theorem dX7_after_8 : decode cX7_after 8 = .ok (.ifCond .lt 9, 3) := by decide +kernel
theorem dX7_after_11 : decode cX7_after 11 = .ok (.iload_n 3, 1) := by decide +kernel
theorem dX7_after_12 : decode cX7_after 12 = .ok (.bipush 10, 2) := by decide +kernel
theorem dX7_after_14 : decode cX7_after 14 = .ok (.if_icmp .lt 7, 3) := by decide +kernel
theorem dX7_after_17 : decode cX7_after 17 = .ok (.iload_n 1, 1) := by decide +kernel
theorem dX7_after_18 : decode cX7_after 18 = .ok (.iconst 1, 1) := by decide +kernel
theorem dX7_after_19 : decode cX7_after 19 = .ok (.iadd, 1) := by decide +kernel
theorem dX7_after_20 : decode cX7_after 20 = .ok (.ireturn, 1) := by decide +kernel
theorem dX7_after_21 : decode cX7_after 21 = .ok (.iload_n 2, 1) := by decide +kernel
theorem dX7_after_22 : decode cX7_after 22 = .ok (.iload_n 3, 1) := by decide +kernel
theorem dX7_after_23 : decode cX7_after 23 = .ok (.ishr, 1) := by decide +kernel
theorem dX7_after_24 : decode cX7_after 24 = .ok (.iconst 1, 1) := by decide +kernel
theorem dX7_after_25 : decode cX7_after 25 = .ok (.iand, 1) := by decide +kernel
theorem dX7_after_26 : decode cX7_after 26 = .ok (.ifCond .eq 7, 3) := by decide +kernel
theorem dX7_after_29 : decode cX7_after 29 = .ok (.iconst 1, 1) := by decide +kernel
theorem dX7_after_30 : decode cX7_after 30 = .ok (.goto 4, 3) := by decide +kernel
theorem dX7_after_33 : decode cX7_after 33 = .ok (.iconst 0, 1) := by decide +kernel
theorem dX7_after_34 : decode cX7_after 34 = .ok (.istore 4, 2) := by decide +kernel
theorem dX7_after_36 : decode cX7_after 36 = .ok (.aload_n 0, 1) := by decide +kernel
theorem dX7_after_37 : decode cX7_after 37 = .ok (.getfield 43, 3) := by decide +kernel
theorem dX7_after_40 : decode cX7_after 40 = .ok (.iload_n 3, 1) := by decide +kernel
theorem dX7_after_41 : decode cX7_after 41 = .ok (.iaload, 1) := by decide +kernel
theorem dX7_after_42 : decode cX7_after 42 = .ok (.ifCond .lt 20, 3) := by decide +kernel
theorem dX7_after_45 : decode cX7_after 45 = .ok (.iload_n 2, 1) := by decide +kernel
theorem dX7_after_46 : decode cX7_after 46 = .ok (.aload_n 0, 1) := by decide +kernel
theorem dX7_after_47 : decode cX7_after 47 = .ok (.getfield 43, 3) := by decide +kernel
theorem dX7_after_50 : decode cX7_after 50 = .ok (.iload_n 3, 1) := by decide +kernel
theorem dX7_after_51 : decode cX7_after 51 = .ok (.iaload, 1) := by decide +kernel
theorem dX7_after_52 : decode cX7_after 52 = .ok (.ishr, 1) := by decide +kernel
theorem dX7_after_53 : decode cX7_after 53 = .ok (.iconst 1, 1) := by decide +kernel
theorem dX7_after_54 : decode cX7_after 54 = .ok (.iand, 1) := by decide +kernel
theorem dX7_after_55 : decode cX7_after 55 = .ok (.ifCond .eq 7, 3) := by decide +kernel
theorem dX7_after_58 : decode cX7_after 58 = .ok (.iconst 1, 1) := by decide +kernel
theorem dX7_after_59 : decode cX7_after 59 = .ok (.goto 4, 3) := by decide +kernel
theorem dX7_after_62 : decode cX7_after 62 = .ok (.iconst 0, 1) := by decide +kernel
theorem dX7_after_63 : decode cX7_after 63 = .ok (.istore 5, 2) := by decide +kernel
theorem dX7_after_65 : decode cX7_after 65 = .ok (.aload_n 0, 1) := by decide +kernel
theorem dX7_after_66 : decode cX7_after 66 = .ok (.getfield 15, 3) := by decide +kernel
theorem dX7_after_69 : decode cX7_after 69 = .ok (.iload_n 1, 1) := by decide +kernel
theorem dX7_after_70 : decode cX7_after 70 = .ok (.iaload, 1) := by decide +kernel
theorem dX7_after_71 : decode cX7_after 71 = .ok (.lookupswitch 154 #[(42, 114), (60, 94), (62, 134), (91, 69), (123, 49)], 49) := by decide +kernel
theorem dX7_after_120 : decode cX7_after 120 = .ok (.iload 4, 2) := by decide +kernel
theorem dX7_after_122 : decode cX7_after 122 = .ok (.ifCond .eq 9, 3) := by decide +kernel
theorem dX7_after_125 : decode cX7_after 125 = .ok (.iload_n 1, 1) := by decide +kernel
theorem dX7_after_126 : decode cX7_after 126 = .ok (.iconst 1, 1) := by decide +kernel
theorem dX7_after_127 : decode cX7_after 127 = .ok (.iadd, 1) := by decide +kernel
theorem dX7_after_128 : decode cX7_after 128 = .ok (.goto 11, 3) := by decide +kernel
theorem dX7_after_131 : decode cX7_after 131 = .ok (.aload_n 0, 1) := by decide +kernel
theorem dX7_after_132 : decode cX7_after 132 = .ok (.getfield 22, 3) := by decide +kernel
theorem dX7_after_135 : decode cX7_after 135 = .ok (.iload_n 1, 1) := by decide +kernel
theorem dX7_after_136 : decode cX7_after 136 = .ok (.iaload, 1) := by decide +kernel
theorem dX7_after_137 : decode cX7_after 137 = .ok (.iconst 1, 1) := by decide +kernel
theorem dX7_after_138 : decode cX7_after 138 = .ok (.iadd, 1) := by decide +kernel
theorem dX7_after_139 : decode cX7_after 139 = .ok (.ireturn, 1) := by decide +kernel
theorem dX7_after_140 : decode cX7_after 140 = .ok (.iload 4, 2) := by decide +kernel
theorem dX7_after_142 : decode cX7_after 142 = .ok (.ifCond .eq 19, 3) := by decide +kernel
theorem dX7_after_145 : decode cX7_after 145 = .ok (.iload 5, 2) := by decide +kernel
theorem dX7_after_147 : decode cX7_after 147 = .ok (.ifCond .ne 14, 3) := by decide +kernel
theorem dX7_after_150 : decode cX7_after 150 = .ok (.aload_n 0, 1) := by decide +kernel
theorem dX7_after_151 : decode cX7_after 151 = .ok (.getfield 22, 3) := by decide +kernel
theorem dX7_after_154 : decode cX7_after 154 = .ok (.iload_n 1, 1) := by decide +kernel
theorem dX7_after_155 : decode cX7_after 155 = .ok (.iaload, 1) := by decide +kernel
theorem dX7_after_156 : decode cX7_after 156 = .ok (.iconst 1, 1) := by decide +kernel
theorem dX7_after_157 : decode cX7_after 157 = .ok (.iadd, 1) := by decide +kernel
theorem dX7_after_158 : decode cX7_after 158 = .ok (.goto 6, 3) := by decide +kernel
theorem dX7_after_161 : decode cX7_after 161 = .ok (.iload_n 1, 1) := by decide +kernel
theorem dX7_after_162 : decode cX7_after 162 = .ok (.iconst 1, 1) := by decide +kernel
theorem dX7_after_163 : decode cX7_after 163 = .ok (.iadd, 1) := by decide +kernel
theorem dX7_after_164 : decode cX7_after 164 = .ok (.ireturn, 1) := by decide +kernel
theorem dX7_after_165 : decode cX7_after 165 = .ok (.iload 4, 2) := by decide +kernel
theorem dX7_after_167 : decode cX7_after 167 = .ok (.ifCond .eq 14, 3) := by decide +kernel
theorem dX7_after_170 : decode cX7_after 170 = .ok (.aload_n 0, 1) := by decide +kernel
theorem dX7_after_171 : decode cX7_after 171 = .ok (.getfield 22, 3) := by decide +kernel
theorem dX7_after_174 : decode cX7_after 174 = .ok (.iload_n 1, 1) := by decide +kernel
theorem dX7_after_175 : decode cX7_after 175 = .ok (.iaload, 1) := by decide +kernel
theorem dX7_after_176 : decode cX7_after 176 = .ok (.iconst 1, 1) := by decide +kernel
theorem dX7_after_177 : decode cX7_after 177 = .ok (.iadd, 1) := by decide +kernel
theorem dX7_after_178 : decode cX7_after 178 = .ok (.goto 6, 3) := by decide +kernel
theorem dX7_after_181 : decode cX7_after 181 = .ok (.iload_n 1, 1) := by decide +kernel
theorem dX7_after_182 : decode cX7_after 182 = .ok (.iconst 1, 1) := by decide +kernel
theorem dX7_after_183 : decode cX7_after 183 = .ok (.iadd, 1) := by decide +kernel
theorem dX7_after_184 : decode cX7_after 184 = .ok (.ireturn, 1) := by decide +kernel
theorem dX7_after_185 : decode cX7_after 185 = .ok (.iload 4, 2) := by decide +kernel
theorem dX7_after_187 : decode cX7_after 187 = .ok (.ifCond .eq 14, 3) := by decide +kernel
theorem dX7_after_190 : decode cX7_after 190 = .ok (.aload_n 0, 1) := by decide +kernel
theorem dX7_after_191 : decode cX7_after 191 = .ok (.getfield 37, 3) := by decide +kernel
theorem dX7_after_194 : decode cX7_after 194 = .ok (.iload_n 3, 1) := by decide +kernel
theorem dX7_after_195 : decode cX7_after 195 = .ok (.iaload, 1) := by decide +kernel
theorem dX7_after_196 : decode cX7_after 196 = .ok (.iconst 1, 1) := by decide +kernel
theorem dX7_after_197 : decode cX7_after 197 = .ok (.iadd, 1) := by decide +kernel
theorem dX7_after_198 : decode cX7_after 198 = .ok (.goto 6, 3) := by decide +kernel
theorem dX7_after_201 : decode cX7_after 201 = .ok (.iload_n 1, 1) := by decide +kernel
theorem dX7_after_202 : decode cX7_after 202 = .ok (.iconst 1, 1) := by decide +kernel
theorem dX7_after_203 : decode cX7_after 203 = .ok (.iadd, 1) := by decide +kernel
theorem dX7_after_204 : decode cX7_after 204 = .ok (.ireturn, 1) := by decide +kernel
theorem dX7_after_205 : decode cX7_after 205 = .ok (.iload 4, 2) := by decide +kernel
theorem dX7_after_207 : decode cX7_after 207 = .ok (.ifCond .eq 14, 3) := by decide +kernel
theorem dX7_after_210 : decode cX7_after 210 = .ok (.aload_n 0, 1) := by decide +kernel
theorem dX7_after_211 : decode cX7_after 211 = .ok (.getfield 40, 3) := by decide +kernel
theorem dX7_after_214 : decode cX7_after 214 = .ok (.iload_n 3, 1) := by decide +kernel
theorem dX7_after_215 : decode cX7_after 215 = .ok (.iaload, 1) := by decide +kernel
theorem dX7_after_216 : decode cX7_after 216 = .ok (.iconst 1, 1) := by decide +kernel
theorem dX7_after_217 : decode cX7_after 217 = .ok (.iadd, 1) := by decide +kernel
theorem dX7_after_218 : decode cX7_after 218 = .ok (.goto 6, 3) := by decide +kernel
theorem dX7_after_221 : decode cX7_after 221 = .ok (.iload_n 1, 1) := by decide +kernel
theorem dX7_after_222 : decode cX7_after 222 = .ok (.iconst 1, 1) := by decide +kernel
theorem dX7_after_223 : decode cX7_after 223 = .ok (.iadd, 1) := by decide +kernel
theorem dX7_after_224 : decode cX7_after 224 = .ok (.ireturn, 1) := by decide +kernel
theorem dX7_after_225 : decode cX7_after 225 = .ok (.iload_n 1, 1) := by decide +kernel
theorem dX7_after_226 : decode cX7_after 226 = .ok (.iconst 1, 1) := by decide +kernel
theorem dX7_after_227 : decode cX7_after 227 = .ok (.iadd, 1) := by decide +kernel
theorem dX7_after_228 : decode cX7_after 228 = .ok (.ireturn, 1) := by decide +kernel
theorem dX7_isIn_0 : decode cX7_isIn 0 = .ok (.iload_n 1, 1) := by decide +kernel
theorem dX7_isIn_1 : decode cX7_isIn 1 = .ok (.ifCond .lt 21, 3) := by decide +kernel
theorem dX7_isIn_4 : decode cX7_isIn 4 = .ok (.iload_n 1, 1) := by decide +kernel
theorem dX7_isIn_5 : decode cX7_isIn 5 = .ok (.bipush 10, 2) := by decide +kernel
theorem dX7_isIn_7 : decode cX7_isIn 7 = .ok (.if_icmp .ge 15, 3) := by decide +kernel
theorem dX7_isIn_10 : decode cX7_isIn 10 = .ok (.iload_n 0, 1) := by decide +kernel
theorem dX7_isIn_11 : decode cX7_isIn 11 = .ok (.iload_n 1, 1) := by decide +kernel
theorem dX7_isIn_12 : decode cX7_isIn 12 = .ok (.ishr, 1) := by decide +kernel
theorem dX7_isIn_13 : decode cX7_isIn 13 = .ok (.iconst 1, 1) := by decide +kernel
theorem dX7_isIn_14 : decode cX7_isIn 14 = .ok (.iand, 1) := by decide +kernel
theorem dX7_isIn_15 : decode cX7_isIn 15 = .ok (.ifCond .eq 7, 3) := by decide +kernel
theorem dX7_isIn_18 : decode cX7_isIn 18 = .ok (.iconst 1, 1) := by decide +kernel
theorem dX7_isIn_19 : decode cX7_isIn 19 = .ok (.goto 4, 3) := by decide +kernel
theorem dX7_isIn_22 : decode cX7_isIn 22 = .ok (.iconst 0, 1) := by decide +kernel
theorem dX7_isIn_23 : decode cX7_isIn 23 = .ok (.ireturn, 1) := by decide +kernel
theorem dX8_init_0 : decode cX8_init 0 = .ok (.aload_n 0, 1) := by decide +kernel
theorem dX8_init_1 : decode cX8_init 1 = .ok (.invokespecial 3, 3) := by decide +kernel
theorem dX8_init_4 : decode cX8_init 4 = .ok (.aload_n 0, 1) := by decide +kernel
theorem dX8_init_5 : decode cX8_init 5 = .ok (.iconst 1, 1) := by decide +kernel
theorem dX8_init_6 : decode cX8_init 6 = .ok (.iload_n 1, 1) := by decide +kernel
theorem dX8_init_7 : decode cX8_init 7 = .ok (.invokestatic 9, 3) := by decide +kernel
theorem dX8_init_10 : decode cX8_init 10 = .ok (.putfield 15, 3) := by decide +kernel
theorem dX8_init_13 : decode cX8_init 13 = .ok (.aload_n 0, 1) := by decide +kernel
theorem dX8_init_14 : decode cX8_init 14 = .ok (.aload_n 0, 1) := by decide +kernel
theorem dX8_init_15 : decode cX8_init 15 = .ok (.getfield 15, 3) := by decide +kernel
theorem dX8_init_18 : decode cX8_init 18 = .ok (.iconst 5, 1) := by decide +kernel
theorem dX8_init_19 : decode cX8_init 19 = .ok (.imul, 1) := by decide +kernel
theorem dX8_init_20 : decode cX8_init 20 = .ok (.newarray .long, 2) := by decide +kernel
theorem dX8_init_22 : decode cX8_init 22 = .ok (.putfield 21, 3) := by decide +kernel
theorem dX8_init_25 : decode cX8_init 25 = .ok (.aload_n 0, 1) := by decide +kernel
theorem dX8_init_26 : decode cX8_init 26 = .ok (.aload_n 0, 1) := by decide +kernel
theorem dX8_init_27 : decode cX8_init 27 = .ok (.getfield 15, 3) := by decide +kernel
theorem dX8_init_30 : decode cX8_init 30 = .ok (.newarray .int, 2) := by decide +kernel
theorem dX8_init_32 : decode cX8_init 32 = .ok (.putfield 25, 3) := by decide +kernel
theorem dX8_init_35 : decode cX8_init 35 = .ok (.return_, 1) := by decide +kernel
theorem dX8_isMade_0 : decode cX8_isMade 0 = .ok (.iload_n 1, 1) := by decide +kernel
theorem dX8_isMade_1 : decode cX8_isMade 1 = .ok (.ifCond .lt 25, 3) := by decide +kernel
theorem dX8_isMade_4 : decode cX8_isMade 4 = .ok (.iload_n 1, 1) := by decide +kernel
theorem dX8_isMade_5 : decode cX8_isMade 5 = .ok (.aload_n 0, 1) := by decide +kernel
theorem dX8_isMade_6 : decode cX8_isMade 6 = .ok (.getfield 15, 3) := by decide +kernel
theorem dX8_isMade_9 : decode cX8_isMade 9 = .ok (.if_icmp .ge 17, 3) := by decide +kernel
theorem dX8_isMade_12 : decode cX8_isMade 12 = .ok (.aload_n 0, 1) := by decide +kernel
theorem dX8_isMade_13 : decode cX8_isMade 13 = .ok (.getfield 25, 3) := by decide +kernel
theorem dX8_isMade_16 : decode cX8_isMade 16 = .ok (.iload_n 1, 1) := by decide +kernel
theorem dX8_isMade_17 : decode cX8_isMade 17 = .ok (.iaload, 1) := by decide +kernel
theorem dX8_isMade_18 : decode cX8_isMade 18 = .ok (.iconst (-1), 1) := by decide +kernel
theorem dX8_isMade_19 : decode cX8_isMade 19 = .ok (.if_icmp .eq 7, 3) := by decide +kernel
theorem dX8_isMade_22 : decode cX8_isMade 22 = .ok (.iconst 1, 1) := by decide +kernel
theorem dX8_isMade_23 : decode cX8_isMade 23 = .ok (.goto 4, 3) := by decide +kernel
theorem dX8_isMade_26 : decode cX8_isMade 26 = .ok (.iconst 0, 1) := by decide +kernel
theorem dX8_isMade_27 : decode cX8_isMade 27 = .ok (.ireturn, 1) := by decide +kernel
theorem dX8_unmakeAll_0 : decode cX8_unmakeAll 0 = .ok (.aload_n 0, 1) := by decide +kernel
theorem dX8_unmakeAll_1 : decode cX8_unmakeAll 1 = .ok (.getfield 25, 3) := by decide +kernel
theorem dX8_unmakeAll_4 : decode cX8_unmakeAll 4 = .ok (.iconst (-1), 1) := by decide +kernel
theorem dX8_unmakeAll_5 : decode cX8_unmakeAll 5 = .ok (.invokestatic 29, 3) := by decide +kernel
theorem dX8_unmakeAll_8 : decode cX8_unmakeAll 8 = .ok (.return_, 1) := by decide +kernel
theorem dX8_clear_0 : decode cX8_clear 0 = .ok (.iload_n 1, 1) := by decide +kernel
theorem dX8_clear_1 : decode cX8_clear 1 = .ok (.ifCond .lt 11, 3) := by decide +kernel
theorem dX8_clear_4 : decode cX8_clear 4 = .ok (.iload_n 1, 1) := by decide +kernel
theorem dX8_clear_5 : decode cX8_clear 5 = .ok (.aload_n 0, 1) := by decide +kernel
theorem dX8_clear_6 : decode cX8_clear 6 = .ok (.getfield 15, 3) := by decide +kernel
theorem dX8_clear_9 : decode cX8_clear 9 = .ok (.if_icmp .lt 4, 3) := by decide +kernel
theorem dX8_clear_12 : decode cX8_clear 12 = .ok (.return_, 1) := by decide +kernel
theorem dX8_clear_13 : decode cX8_clear 13 = .ok (.iconst 0, 1) := by decide +kernel
theorem dX8_clear_14 : decode cX8_clear 14 = .ok (.istore_n 2, 1) := by decide +kernel
theorem dX8_clear_15 : decode cX8_clear 15 = .ok (.iload_n 2, 1) := by decide +kernel
theorem dX8_clear_16 : decode cX8_clear 16 = .ok (.iconst 5, 1) := by decide +kernel
theorem dX8_clear_17 : decode cX8_clear 17 = .ok (.if_icmp .ge 20, 3) := by decide +kernel
theorem dX8_clear_20 : decode cX8_clear 20 = .ok (.aload_n 0, 1) := by decide +kernel
theorem dX8_clear_21 : decode cX8_clear 21 = .ok (.getfield 21, 3) := by decide +kernel
theorem dX8_clear_24 : decode cX8_clear 24 = .ok (.iload_n 1, 1) := by decide +kernel
theorem dX8_clear_25 : decode cX8_clear 25 = .ok (.iconst 5, 1) := by decide +kernel
theorem dX8_clear_26 : decode cX8_clear 26 = .ok (.imul, 1) := by decide +kernel
theorem dX8_clear_27 : decode cX8_clear 27 = .ok (.iload_n 2, 1) := by decide +kernel
theorem dX8_clear_28 : decode cX8_clear 28 = .ok (.iadd, 1) := by decide +kernel
theorem dX8_clear_29 : decode cX8_clear 29 = .ok (.lconst 0, 1) := by decide +kernel
theorem dX8_clear_30 : decode cX8_clear 30 = .ok (.lastore, 1) := by decide +kernel
theorem dX8_clear_31 : decode cX8_clear 31 = .ok (.iinc 2 1, 3) := by decide +kernel
theorem dX8_clear_34 : decode cX8_clear 34 = .ok (.goto (-19), 3) := by decide +kernel
theorem dX8_clear_37 : decode cX8_clear 37 = .ok (.aload_n 0, 1) := by decide +kernel
theorem dX8_clear_38 : decode cX8_clear 38 = .ok (.getfield 25, 3) := by decide +kernel
theorem dX8_clear_41 : decode cX8_clear 41 = .ok (.iload_n 1, 1) := by decide +kernel
theorem dX8_clear_42 : decode cX8_clear 42 = .ok (.iconst 0, 1) := by decide +kernel
theorem dX8_clear_43 : decode cX8_clear 43 = .ok (.iastore, 1) := by decide +kernel
theorem dX8_clear_44 : decode cX8_clear 44 = .ok (.return_, 1) := by decide +kernel
theorem dX8_sizeOf_0 : decode cX8_sizeOf 0 = .ok (.aload_n 0, 1) := by decide +kernel
theorem dX8_sizeOf_1 : decode cX8_sizeOf 1 = .ok (.iload_n 1, 1) := by decide +kernel
theorem dX8_sizeOf_2 : decode cX8_sizeOf 2 = .ok (.invokevirtual 35, 3) := by decide +kernel
theorem dX8_sizeOf_5 : decode cX8_sizeOf 5 = .ok (.ifCond .eq 12, 3) := by decide +kernel
theorem dX8_sizeOf_8 : decode cX8_sizeOf 8 = .ok (.aload_n 0, 1) := by decide +kernel
theorem dX8_sizeOf_9 : decode cX8_sizeOf 9 = .ok (.getfield 25, 3) := by decide +kernel
theorem dX8_sizeOf_12 : decode cX8_sizeOf 12 = .ok (.iload_n 1, 1) := by decide +kernel
theorem dX8_sizeOf_13 : decode cX8_sizeOf 13 = .ok (.iaload, 1) := by decide +kernel
theorem dX8_sizeOf_14 : decode cX8_sizeOf 14 = .ok (.goto 4, 3) := by decide +kernel
theorem dX8_sizeOf_17 : decode cX8_sizeOf 17 = .ok (.iconst 0, 1) := by decide +kernel
theorem dX8_sizeOf_18 : decode cX8_sizeOf 18 = .ok (.ireturn, 1) := by decide +kernel
theorem dX8_put_0 : decode cX8_put 0 = .ok (.iload_n 1, 1) := by decide +kernel
theorem dX8_put_1 : decode cX8_put 1 = .ok (.ifCond .lt 72, 3) := by decide +kernel
theorem dX8_put_4 : decode cX8_put 4 = .ok (.iload_n 1, 1) := by decide +kernel
theorem dX8_put_5 : decode cX8_put 5 = .ok (.aload_n 0, 1) := by decide +kernel
theorem dX8_put_6 : decode cX8_put 6 = .ok (.getfield 15, 3) := by decide +kernel
theorem dX8_put_9 : decode cX8_put 9 = .ok (.if_icmp .ge 64, 3) := by decide +kernel
theorem dX8_put_12 : decode cX8_put 12 = .ok (.aload_n 0, 1) := by decide +kernel
theorem dX8_put_13 : decode cX8_put 13 = .ok (.getfield 25, 3) := by decide +kernel
theorem dX8_put_16 : decode cX8_put 16 = .ok (.iload_n 1, 1) := by decide +kernel
theorem dX8_put_17 : decode cX8_put 17 = .ok (.iaload, 1) := by decide +kernel
theorem dX8_put_18 : decode cX8_put 18 = .ok (.ifCond .lt 55, 3) := by decide +kernel
theorem dX8_put_21 : decode cX8_put 21 = .ok (.aload_n 0, 1) := by decide +kernel
theorem dX8_put_22 : decode cX8_put 22 = .ok (.getfield 25, 3) := by decide +kernel
theorem dX8_put_25 : decode cX8_put 25 = .ok (.iload_n 1, 1) := by decide +kernel
theorem dX8_put_26 : decode cX8_put 26 = .ok (.iaload, 1) := by decide +kernel
theorem dX8_put_27 : decode cX8_put 27 = .ok (.bipush 40, 2) := by decide +kernel
theorem dX8_put_29 : decode cX8_put 29 = .ok (.if_icmp .ge 44, 3) := by decide +kernel
theorem dX8_put_32 : decode cX8_put 32 = .ok (.aload_n 0, 1) := by decide +kernel
theorem dX8_put_33 : decode cX8_put 33 = .ok (.getfield 25, 3) := by decide +kernel
theorem dX8_put_36 : decode cX8_put 36 = .ok (.iload_n 1, 1) := by decide +kernel
theorem dX8_put_37 : decode cX8_put 37 = .ok (.iaload, 1) := by decide +kernel
theorem dX8_put_38 : decode cX8_put 38 = .ok (.istore_n 3, 1) := by decide +kernel
theorem dX8_put_39 : decode cX8_put 39 = .ok (.aload_n 0, 1) := by decide +kernel
theorem dX8_put_40 : decode cX8_put 40 = .ok (.getfield 21, 3) := by decide +kernel
theorem dX8_put_43 : decode cX8_put 43 = .ok (.iload_n 1, 1) := by decide +kernel
theorem dX8_put_44 : decode cX8_put 44 = .ok (.iconst 5, 1) := by decide +kernel
theorem dX8_put_45 : decode cX8_put 45 = .ok (.imul, 1) := by decide +kernel
theorem dX8_put_46 : decode cX8_put 46 = .ok (.iload_n 3, 1) := by decide +kernel
theorem dX8_put_47 : decode cX8_put 47 = .ok (.iconst 3, 1) := by decide +kernel
theorem dX8_put_48 : decode cX8_put 48 = .ok (.ishr, 1) := by decide +kernel
theorem dX8_put_49 : decode cX8_put 49 = .ok (.iadd, 1) := by decide +kernel
theorem dX8_put_50 : decode cX8_put 50 = .ok (.dup2, 1) := by decide +kernel
theorem dX8_put_51 : decode cX8_put 51 = .ok (.laload, 1) := by decide +kernel
theorem dX8_put_52 : decode cX8_put 52 = .ok (.iload_n 2, 1) := by decide +kernel
theorem dX8_put_53 : decode cX8_put 53 = .ok (.i2l, 1) := by decide +kernel
theorem dX8_put_54 : decode cX8_put 54 = .ok (.bipush 8, 2) := by decide +kernel
theorem dX8_put_56 : decode cX8_put 56 = .ok (.iload_n 3, 1) := by decide +kernel
theorem dX8_put_57 : decode cX8_put 57 = .ok (.bipush 7, 2) := by decide +kernel
theorem dX8_put_59 : decode cX8_put 59 = .ok (.iand, 1) := by decide +kernel
theorem dX8_put_60 : decode cX8_put 60 = .ok (.imul, 1) := by decide +kernel
theorem dX8_put_61 : decode cX8_put 61 = .ok (.lshl, 1) := by decide +kernel
theorem dX8_put_62 : decode cX8_put 62 = .ok (.lor, 1) := by decide +kernel
theorem dX8_put_63 : decode cX8_put 63 = .ok (.lastore, 1) := by decide +kernel
theorem dX8_put_64 : decode cX8_put 64 = .ok (.aload_n 0, 1) := by decide +kernel
theorem dX8_put_65 : decode cX8_put 65 = .ok (.getfield 25, 3) := by decide +kernel
theorem dX8_put_68 : decode cX8_put 68 = .ok (.iload_n 1, 1) := by decide +kernel
theorem dX8_put_69 : decode cX8_put 69 = .ok (.iload_n 3, 1) := by decide +kernel
theorem dX8_put_70 : decode cX8_put 70 = .ok (.iconst 1, 1) := by decide +kernel
theorem dX8_put_71 : decode cX8_put 71 = .ok (.iadd, 1) := by decide +kernel
theorem dX8_put_72 : decode cX8_put 72 = .ok (.iastore, 1) := by decide +kernel
theorem dX8_put_73 : decode cX8_put 73 = .ok (.return_, 1) := by decide +kernel
theorem dX8_wordAt_0 : decode cX8_wordAt 0 = .ok (.aload_n 0, 1) := by decide +kernel
theorem dX8_wordAt_1 : decode cX8_wordAt 1 = .ok (.iload_n 1, 1) := by decide +kernel
theorem dX8_wordAt_2 : decode cX8_wordAt 2 = .ok (.invokevirtual 35, 3) := by decide +kernel
theorem dX8_wordAt_5 : decode cX8_wordAt 5 = .ok (.ifCond .eq 17, 3) := by decide +kernel
theorem dX8_wordAt_8 : decode cX8_wordAt 8 = .ok (.iload_n 2, 1) := by decide +kernel
theorem dX8_wordAt_9 : decode cX8_wordAt 9 = .ok (.ifCond .lt 13, 3) := by decide +kernel
theorem dX8_wordAt_12 : decode cX8_wordAt 12 = .ok (.iload_n 2, 1) := by decide +kernel
theorem dX8_wordAt_13 : decode cX8_wordAt 13 = .ok (.aload_n 0, 1) := by decide +kernel
theorem dX8_wordAt_14 : decode cX8_wordAt 14 = .ok (.getfield 25, 3) := by decide +kernel
theorem dX8_wordAt_17 : decode cX8_wordAt 17 = .ok (.iload_n 1, 1) := by decide +kernel
theorem dX8_wordAt_18 : decode cX8_wordAt 18 = .ok (.iaload, 1) := by decide +kernel
theorem dX8_wordAt_19 : decode cX8_wordAt 19 = .ok (.if_icmp .lt 5, 3) := by decide +kernel
theorem dX8_wordAt_22 : decode cX8_wordAt 22 = .ok (.iconst (-1), 1) := by decide +kernel
theorem dX8_wordAt_23 : decode cX8_wordAt 23 = .ok (.ireturn, 1) := by decide +kernel
theorem dX8_wordAt_24 : decode cX8_wordAt 24 = .ok (.aload_n 0, 1) := by decide +kernel
theorem dX8_wordAt_25 : decode cX8_wordAt 25 = .ok (.getfield 21, 3) := by decide +kernel
theorem dX8_wordAt_28 : decode cX8_wordAt 28 = .ok (.iload_n 1, 1) := by decide +kernel
theorem dX8_wordAt_29 : decode cX8_wordAt 29 = .ok (.iconst 5, 1) := by decide +kernel
theorem dX8_wordAt_30 : decode cX8_wordAt 30 = .ok (.imul, 1) := by decide +kernel
theorem dX8_wordAt_31 : decode cX8_wordAt 31 = .ok (.iload_n 2, 1) := by decide +kernel
theorem dX8_wordAt_32 : decode cX8_wordAt 32 = .ok (.iconst 3, 1) := by decide +kernel
theorem dX8_wordAt_33 : decode cX8_wordAt 33 = .ok (.ishr, 1) := by decide +kernel
theorem dX8_wordAt_34 : decode cX8_wordAt 34 = .ok (.iadd, 1) := by decide +kernel
theorem dX8_wordAt_35 : decode cX8_wordAt 35 = .ok (.laload, 1) := by decide +kernel
theorem dX8_wordAt_36 : decode cX8_wordAt 36 = .ok (.bipush 8, 2) := by decide +kernel
theorem dX8_wordAt_38 : decode cX8_wordAt 38 = .ok (.iload_n 2, 1) := by decide +kernel
theorem dX8_wordAt_39 : decode cX8_wordAt 39 = .ok (.bipush 7, 2) := by decide +kernel
theorem dX8_wordAt_41 : decode cX8_wordAt 41 = .ok (.iand, 1) := by decide +kernel
theorem dX8_wordAt_42 : decode cX8_wordAt 42 = .ok (.imul, 1) := by decide +kernel
theorem dX8_wordAt_43 : decode cX8_wordAt 43 = .ok (.lushr, 1) := by decide +kernel
theorem dX8_wordAt_44 : decode cX8_wordAt 44 = .ok (.l2i, 1) := by decide +kernel
theorem dX8_wordAt_45 : decode cX8_wordAt 45 = .ok (.sipush 255, 3) := by decide +kernel
theorem dX8_wordAt_48 : decode cX8_wordAt 48 = .ok (.iand, 1) := by decide +kernel
theorem dX8_wordAt_49 : decode cX8_wordAt 49 = .ok (.ireturn, 1) := by decide +kernel
theorem dX8_isAlike_0 : decode cX8_isAlike 0 = .ok (.aload_n 0, 1) := by decide +kernel
theorem dX8_isAlike_1 : decode cX8_isAlike 1 = .ok (.iload_n 1, 1) := by decide +kernel
theorem dX8_isAlike_2 : decode cX8_isAlike 2 = .ok (.invokevirtual 35, 3) := by decide +kernel
theorem dX8_isAlike_5 : decode cX8_isAlike 5 = .ok (.ifCond .eq 26, 3) := by decide +kernel
theorem dX8_isAlike_8 : decode cX8_isAlike 8 = .ok (.aload_n 2, 1) := by decide +kernel
theorem dX8_isAlike_9 : decode cX8_isAlike 9 = .ok (.iload_n 3, 1) := by decide +kernel
theorem dX8_isAlike_10 : decode cX8_isAlike 10 = .ok (.invokevirtual 35, 3) := by decide +kernel
theorem dX8_isAlike_13 : decode cX8_isAlike 13 = .ok (.ifCond .eq 18, 3) := by decide +kernel
theorem dX8_isAlike_16 : decode cX8_isAlike 16 = .ok (.aload_n 0, 1) := by decide +kernel
theorem dX8_isAlike_17 : decode cX8_isAlike 17 = .ok (.getfield 25, 3) := by decide +kernel
theorem dX8_isAlike_20 : decode cX8_isAlike 20 = .ok (.iload_n 1, 1) := by decide +kernel
theorem dX8_isAlike_21 : decode cX8_isAlike 21 = .ok (.iaload, 1) := by decide +kernel
theorem dX8_isAlike_22 : decode cX8_isAlike 22 = .ok (.aload_n 2, 1) := by decide +kernel
theorem dX8_isAlike_23 : decode cX8_isAlike 23 = .ok (.getfield 25, 3) := by decide +kernel
theorem dX8_isAlike_26 : decode cX8_isAlike 26 = .ok (.iload_n 3, 1) := by decide +kernel
theorem dX8_isAlike_27 : decode cX8_isAlike 27 = .ok (.iaload, 1) := by decide +kernel
theorem dX8_isAlike_28 : decode cX8_isAlike 28 = .ok (.if_icmp .eq 5, 3) := by decide +kernel
theorem dX8_isAlike_31 : decode cX8_isAlike 31 = .ok (.iconst 0, 1) := by decide +kernel
theorem dX8_isAlike_32 : decode cX8_isAlike 32 = .ok (.ireturn, 1) := by decide +kernel
theorem dX8_isAlike_33 : decode cX8_isAlike 33 = .ok (.iconst 0, 1) := by decide +kernel
theorem dX8_isAlike_34 : decode cX8_isAlike 34 = .ok (.istore 4, 2) := by decide +kernel
theorem dX8_isAlike_36 : decode cX8_isAlike 36 = .ok (.iload 4, 2) := by decide +kernel
theorem dX8_isAlike_38 : decode cX8_isAlike 38 = .ok (.iconst 5, 1) := by decide +kernel
theorem dX8_isAlike_39 : decode cX8_isAlike 39 = .ok (.if_icmp .ge 37, 3) := by decide +kernel
theorem dX8_isAlike_42 : decode cX8_isAlike 42 = .ok (.aload_n 0, 1) := by decide +kernel
theorem dX8_isAlike_43 : decode cX8_isAlike 43 = .ok (.getfield 21, 3) := by decide +kernel
theorem dX8_isAlike_46 : decode cX8_isAlike 46 = .ok (.iload_n 1, 1) := by decide +kernel
theorem dX8_isAlike_47 : decode cX8_isAlike 47 = .ok (.iconst 5, 1) := by decide +kernel
theorem dX8_isAlike_48 : decode cX8_isAlike 48 = .ok (.imul, 1) := by decide +kernel
theorem dX8_isAlike_49 : decode cX8_isAlike 49 = .ok (.iload 4, 2) := by decide +kernel
theorem dX8_isAlike_51 : decode cX8_isAlike 51 = .ok (.iadd, 1) := by decide +kernel
theorem dX8_isAlike_52 : decode cX8_isAlike 52 = .ok (.laload, 1) := by decide +kernel
theorem dX8_isAlike_53 : decode cX8_isAlike 53 = .ok (.aload_n 2, 1) := by decide +kernel
theorem dX8_isAlike_54 : decode cX8_isAlike 54 = .ok (.getfield 21, 3) := by decide +kernel
theorem dX8_isAlike_57 : decode cX8_isAlike 57 = .ok (.iload_n 3, 1) := by decide +kernel
theorem dX8_isAlike_58 : decode cX8_isAlike 58 = .ok (.iconst 5, 1) := by decide +kernel
theorem dX8_isAlike_59 : decode cX8_isAlike 59 = .ok (.imul, 1) := by decide +kernel
theorem dX8_isAlike_60 : decode cX8_isAlike 60 = .ok (.iload 4, 2) := by decide +kernel
theorem dX8_isAlike_62 : decode cX8_isAlike 62 = .ok (.iadd, 1) := by decide +kernel
theorem dX8_isAlike_63 : decode cX8_isAlike 63 = .ok (.laload, 1) := by decide +kernel
theorem dX8_isAlike_64 : decode cX8_isAlike 64 = .ok (.lcmp, 1) := by decide +kernel
theorem dX8_isAlike_65 : decode cX8_isAlike 65 = .ok (.ifCond .eq 5, 3) := by decide +kernel
theorem dX8_isAlike_68 : decode cX8_isAlike 68 = .ok (.iconst 0, 1) := by decide +kernel
theorem dX8_isAlike_69 : decode cX8_isAlike 69 = .ok (.ireturn, 1) := by decide +kernel
theorem dX8_isAlike_70 : decode cX8_isAlike 70 = .ok (.iinc 4 1, 3) := by decide +kernel
theorem dX8_isAlike_73 : decode cX8_isAlike 73 = .ok (.goto (-37), 3) := by decide +kernel
theorem dX8_isAlike_76 : decode cX8_isAlike 76 = .ok (.iconst 1, 1) := by decide +kernel
theorem dX8_isAlike_77 : decode cX8_isAlike 77 = .ok (.ireturn, 1) := by decide +kernel
theorem dX8_take_0 : decode cX8_take 0 = .ok (.iload_n 1, 1) := by decide +kernel
theorem dX8_take_1 : decode cX8_take 1 = .ok (.ifCond .lt 49, 3) := by decide +kernel
theorem dX8_take_4 : decode cX8_take 4 = .ok (.iload_n 1, 1) := by decide +kernel
theorem dX8_take_5 : decode cX8_take 5 = .ok (.aload_n 0, 1) := by decide +kernel
theorem dX8_take_6 : decode cX8_take 6 = .ok (.getfield 15, 3) := by decide +kernel
theorem dX8_take_9 : decode cX8_take 9 = .ok (.if_icmp .ge 41, 3) := by decide +kernel
theorem dX8_take_12 : decode cX8_take 12 = .ok (.aload_n 2, 1) := by decide +kernel
theorem dX8_take_13 : decode cX8_take 13 = .ok (.iload_n 3, 1) := by decide +kernel
theorem dX8_take_14 : decode cX8_take 14 = .ok (.invokevirtual 35, 3) := by decide +kernel
theorem dX8_take_17 : decode cX8_take 17 = .ok (.ifCond .eq 33, 3) := by decide +kernel
theorem dX8_take_20 : decode cX8_take 20 = .ok (.aload_n 2, 1) := by decide +kernel
theorem dX8_take_21 : decode cX8_take 21 = .ok (.getfield 21, 3) := by decide +kernel
theorem dX8_take_24 : decode cX8_take 24 = .ok (.iload_n 3, 1) := by decide +kernel
theorem dX8_take_25 : decode cX8_take 25 = .ok (.iconst 5, 1) := by decide +kernel
theorem dX8_take_26 : decode cX8_take 26 = .ok (.imul, 1) := by decide +kernel
theorem dX8_take_27 : decode cX8_take 27 = .ok (.aload_n 0, 1) := by decide +kernel
theorem dX8_take_28 : decode cX8_take 28 = .ok (.getfield 21, 3) := by decide +kernel
theorem dX8_take_31 : decode cX8_take 31 = .ok (.iload_n 1, 1) := by decide +kernel
theorem dX8_take_32 : decode cX8_take 32 = .ok (.iconst 5, 1) := by decide +kernel
theorem dX8_take_33 : decode cX8_take 33 = .ok (.imul, 1) := by decide +kernel
theorem dX8_take_34 : decode cX8_take 34 = .ok (.iconst 5, 1) := by decide +kernel
theorem dX8_take_35 : decode cX8_take 35 = .ok (.invokestatic 39, 3) := by decide +kernel
theorem dX8_take_38 : decode cX8_take 38 = .ok (.aload_n 0, 1) := by decide +kernel
theorem dX8_take_39 : decode cX8_take 39 = .ok (.getfield 25, 3) := by decide +kernel
theorem dX8_take_42 : decode cX8_take 42 = .ok (.iload_n 1, 1) := by decide +kernel
theorem dX8_take_43 : decode cX8_take 43 = .ok (.aload_n 2, 1) := by decide +kernel
theorem dX8_take_44 : decode cX8_take 44 = .ok (.getfield 25, 3) := by decide +kernel
theorem dX8_take_47 : decode cX8_take 47 = .ok (.iload_n 3, 1) := by decide +kernel
theorem dX8_take_48 : decode cX8_take 48 = .ok (.iaload, 1) := by decide +kernel
theorem dX8_take_49 : decode cX8_take 49 = .ok (.iastore, 1) := by decide +kernel
theorem dX8_take_50 : decode cX8_take 50 = .ok (.return_, 1) := by decide +kernel
theorem dX8_scatter_0 : decode cX8_scatter 0 = .ok (.aload_n 0, 1) := by decide +kernel
theorem dX8_scatter_1 : decode cX8_scatter 1 = .ok (.iload_n 1, 1) := by decide +kernel
theorem dX8_scatter_2 : decode cX8_scatter 2 = .ok (.invokevirtual 35, 3) := by decide +kernel
theorem dX8_scatter_5 : decode cX8_scatter 5 = .ok (.ifCond .eq 8, 3) := by decide +kernel
theorem dX8_scatter_8 : decode cX8_scatter 8 = .ok (.iload_n 2, 1) := by decide +kernel
theorem dX8_scatter_9 : decode cX8_scatter 9 = .ok (.iconst 1, 1) := by decide +kernel
theorem dX8_scatter_10 : decode cX8_scatter 10 = .ok (.if_icmp .ge 5, 3) := by decide +kernel
theorem dX8_scatter_13 : decode cX8_scatter 13 = .ok (.iconst 0, 1) := by decide +kernel
theorem dX8_scatter_14 : decode cX8_scatter 14 = .ok (.ireturn, 1) := by decide +kernel
theorem dX8_scatter_15 : decode cX8_scatter 15 = .ok (.aload_n 0, 1) := by decide +kernel
theorem dX8_scatter_16 : decode cX8_scatter 16 = .ok (.getfield 25, 3) := by decide +kernel
theorem dX8_scatter_19 : decode cX8_scatter 19 = .ok (.iload_n 1, 1) := by decide +kernel
theorem dX8_scatter_20 : decode cX8_scatter 20 = .ok (.iaload, 1) := by decide +kernel
theorem dX8_scatter_21 : decode cX8_scatter 21 = .ok (.i2l, 1) := by decide +kernel
theorem dX8_scatter_22 : decode cX8_scatter 22 = .ok (.lstore_n 3, 1) := by decide +kernel
theorem dX8_scatter_23 : decode cX8_scatter 23 = .ok (.iconst 0, 1) := by decide +kernel
theorem dX8_scatter_24 : decode cX8_scatter 24 = .ok (.istore 5, 2) := by decide +kernel
theorem dX8_scatter_26 : decode cX8_scatter 26 = .ok (.iload 5, 2) := by decide +kernel
theorem dX8_scatter_28 : decode cX8_scatter 28 = .ok (.iconst 5, 1) := by decide +kernel
theorem dX8_scatter_29 : decode cX8_scatter 29 = .ok (.if_icmp .ge 34, 3) := by decide +kernel
theorem dX8_scatter_32 : decode cX8_scatter 32 = .ok (.lload_n 3, 1) := by decide +kernel
theorem dX8_scatter_33 : decode cX8_scatter 33 = .ok (.aload_n 0, 1) := by decide +kernel
theorem dX8_scatter_34 : decode cX8_scatter 34 = .ok (.getfield 21, 3) := by decide +kernel
theorem dX8_scatter_37 : decode cX8_scatter 37 = .ok (.iload_n 1, 1) := by decide +kernel
theorem dX8_scatter_38 : decode cX8_scatter 38 = .ok (.iconst 5, 1) := by decide +kernel
theorem dX8_scatter_39 : decode cX8_scatter 39 = .ok (.imul, 1) := by decide +kernel
theorem dX8_scatter_40 : decode cX8_scatter 40 = .ok (.iload 5, 2) := by decide +kernel
theorem dX8_scatter_42 : decode cX8_scatter 42 = .ok (.iadd, 1) := by decide +kernel
theorem dX8_scatter_43 : decode cX8_scatter 43 = .ok (.laload, 1) := by decide +kernel
theorem dX8_scatter_44 : decode cX8_scatter 44 = .ok (.lxor, 1) := by decide +kernel
theorem dX8_scatter_45 : decode cX8_scatter 45 = .ok (.ldc2_w 45, 3) := by decide +kernel
theorem dX8_scatter_48 : decode cX8_scatter 48 = .ok (.lmul, 1) := by decide +kernel
theorem dX8_scatter_49 : decode cX8_scatter 49 = .ok (.lstore_n 3, 1) := by decide +kernel
theorem dX8_scatter_50 : decode cX8_scatter 50 = .ok (.lload_n 3, 1) := by decide +kernel
theorem dX8_scatter_51 : decode cX8_scatter 51 = .ok (.lload_n 3, 1) := by decide +kernel
theorem dX8_scatter_52 : decode cX8_scatter 52 = .ok (.bipush 29, 2) := by decide +kernel
theorem dX8_scatter_54 : decode cX8_scatter 54 = .ok (.lushr, 1) := by decide +kernel
theorem dX8_scatter_55 : decode cX8_scatter 55 = .ok (.lxor, 1) := by decide +kernel
theorem dX8_scatter_56 : decode cX8_scatter 56 = .ok (.lstore_n 3, 1) := by decide +kernel
theorem dX8_scatter_57 : decode cX8_scatter 57 = .ok (.iinc 5 1, 3) := by decide +kernel
theorem dX8_scatter_60 : decode cX8_scatter 60 = .ok (.goto (-34), 3) := by decide +kernel
theorem dX8_scatter_63 : decode cX8_scatter 63 = .ok (.lload_n 3, 1) := by decide +kernel
theorem dX8_scatter_64 : decode cX8_scatter 64 = .ok (.iload_n 2, 1) := by decide +kernel
theorem dX8_scatter_65 : decode cX8_scatter 65 = .ok (.i2l, 1) := by decide +kernel
theorem dX8_scatter_66 : decode cX8_scatter 66 = .ok (.invokestatic 47, 3) := by decide +kernel
theorem dX8_scatter_69 : decode cX8_scatter 69 = .ok (.l2i, 1) := by decide +kernel
theorem dX8_scatter_70 : decode cX8_scatter 70 = .ok (.ireturn, 1) := by decide +kernel
