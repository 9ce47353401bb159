theorem dX4_init_0 : decode cX4_init 0 = .ok (.aload_n 0, 1) := by decide +kernel
theorem dX4_init_1 : decode cX4_init 1 = .ok (.invokespecial 3, 3) := by decide +kernel
theorem dX4_init_4 : decode cX4_init 4 = .ok (.aload_n 0, 1) := by decide +kernel
theorem dX4_init_5 : decode cX4_init 5 = .ok (.sipush 1024, 3) := by decide +kernel
theorem dX4_init_8 : decode cX4_init 8 = .ok (.newarray .long, 2) := by decide +kernel
theorem dX4_init_10 : decode cX4_init 10 = .ok (.putfield 9, 3) := by decide +kernel
theorem dX4_init_13 : decode cX4_init 13 = .ok (.aload_n 0, 1) := by decide +kernel
theorem dX4_init_14 : decode cX4_init 14 = .ok (.iconst (-1), 1) := by decide +kernel
theorem dX4_init_15 : decode cX4_init 15 = .ok (.putfield 15, 3) := by decide +kernel
theorem dX4_init_18 : decode cX4_init 18 = .ok (.aload_n 0, 1) := by decide +kernel
theorem dX4_init_19 : decode cX4_init 19 = .ok (.aload_n 1, 1) := by decide +kernel
theorem dX4_init_20 : decode cX4_init 20 = .ok (.putfield 19, 3) := by decide +kernel
theorem dX4_init_23 : decode cX4_init 23 = .ok (.aload_n 0, 1) := by decide +kernel
theorem dX4_init_24 : decode cX4_init 24 = .ok (.aload_n 2, 1) := by decide +kernel
theorem dX4_init_25 : decode cX4_init 25 = .ok (.putfield 23, 3) := by decide +kernel
theorem dX4_init_28 : decode cX4_init 28 = .ok (.aload_n 0, 1) := by decide +kernel
theorem dX4_init_29 : decode cX4_init 29 = .ok (.aload_n 3, 1) := by decide +kernel
theorem dX4_init_30 : decode cX4_init 30 = .ok (.putfield 27, 3) := by decide +kernel
theorem dX4_init_33 : decode cX4_init 33 = .ok (.aload_n 0, 1) := by decide +kernel
theorem dX4_init_34 : decode cX4_init 34 = .ok (.aload 4, 2) := by decide +kernel
theorem dX4_init_36 : decode cX4_init 36 = .ok (.putfield 31, 3) := by decide +kernel
theorem dX4_init_39 : decode cX4_init 39 = .ok (.return_, 1) := by decide +kernel
theorem dX4_number_0 : decode cX4_number 0 = .ok (.aload_n 0, 1) := by decide +kernel
theorem dX4_number_1 : decode cX4_number 1 = .ok (.getfield 15, 3) := by decide +kernel
theorem dX4_number_4 : decode cX4_number 4 = .ok (.aload_n 0, 1) := by decide +kernel
theorem dX4_number_5 : decode cX4_number 5 = .ok (.getfield 19, 3) := by decide +kernel
theorem dX4_number_8 : decode cX4_number 8 = .ok (.getfield 34, 3) := by decide +kernel
theorem dX4_number_11 : decode cX4_number 11 = .ok (.if_icmp .eq 30, 3) := by decide +kernel
theorem dX4_number_14 : decode cX4_number 14 = .ok (.aload_n 0, 1) := by decide +kernel
theorem dX4_number_15 : decode cX4_number 15 = .ok (.aload_n 0, 1) := by decide +kernel
theorem dX4_number_16 : decode cX4_number 16 = .ok (.getfield 19, 3) := by decide +kernel
theorem dX4_number_19 : decode cX4_number 19 = .ok (.getfield 34, 3) := by decide +kernel
theorem dX4_number_22 : decode cX4_number 22 = .ok (.putfield 15, 3) := by decide +kernel
theorem dX4_number_25 : decode cX4_number 25 = .ok (.aload_n 0, 1) := by decide +kernel
theorem dX4_number_26 : decode cX4_number 26 = .ok (.getfield 9, 3) := by decide +kernel
theorem dX4_number_29 : decode cX4_number 29 = .ok (.lconst 1, 1) := by decide +kernel
theorem dX4_number_30 : decode cX4_number 30 = .ok (.invokestatic 39, 3) := by decide +kernel
theorem dX4_number_33 : decode cX4_number 33 = .ok (.aload_n 0, 1) := by decide +kernel
theorem dX4_number_34 : decode cX4_number 34 = .ok (.aload_n 0, 1) := by decide +kernel
theorem dX4_number_35 : decode cX4_number 35 = .ok (.getfield 9, 3) := by decide +kernel
theorem dX4_number_38 : decode cX4_number 38 = .ok (.invokevirtual 45, 3) := by decide +kernel
theorem dX4_number_41 : decode cX4_number 41 = .ok (.aload_n 0, 1) := by decide +kernel
theorem dX4_number_42 : decode cX4_number 42 = .ok (.getfield 9, 3) := by decide +kernel
theorem dX4_number_45 : decode cX4_number 45 = .ok (.iconst 0, 1) := by decide +kernel
theorem dX4_number_46 : decode cX4_number 46 = .ok (.laload, 1) := by decide +kernel
theorem dX4_number_47 : decode cX4_number 47 = .ok (.lreturn, 1) := by decide +kernel
theorem dX4_markAt_0 : decode cX4_markAt 0 = .ok (.lload_n 1, 1) := by decide +kernel
theorem dX4_markAt_1 : decode cX4_markAt 1 = .ok (.aload_n 0, 1) := by decide +kernel
theorem dX4_markAt_2 : decode cX4_markAt 2 = .ok (.invokevirtual 49, 3) := by decide +kernel
theorem dX4_markAt_5 : decode cX4_markAt 5 = .ok (.lcmp, 1) := by decide +kernel
theorem dX4_markAt_6 : decode cX4_markAt 6 = .ok (.ifCond .ge 14, 3) := by decide +kernel
theorem dX4_markAt_9 : decode cX4_markAt 9 = .ok (.aload_n 0, 1) := by decide +kernel
theorem dX4_markAt_10 : decode cX4_markAt 10 = .ok (.getfield 19, 3) := by decide +kernel
theorem dX4_markAt_13 : decode cX4_markAt 13 = .ok (.iload_n 3, 1) := by decide +kernel
theorem dX4_markAt_14 : decode cX4_markAt 14 = .ok (.invokevirtual 53, 3) := by decide +kernel
theorem dX4_markAt_17 : decode cX4_markAt 17 = .ok (.ifCond .ne 5, 3) := by decide +kernel
theorem dX4_markAt_20 : decode cX4_markAt 20 = .ok (.iconst (-1), 1) := by decide +kernel
theorem dX4_markAt_21 : decode cX4_markAt 21 = .ok (.ireturn, 1) := by decide +kernel
theorem dX4_markAt_22 : decode cX4_markAt 22 = .ok (.lload_n 1, 1) := by decide +kernel
theorem dX4_markAt_23 : decode cX4_markAt 23 = .ok (.lstore 4, 2) := by decide +kernel
theorem dX4_markAt_25 : decode cX4_markAt 25 = .ok (.iconst 0, 1) := by decide +kernel
theorem dX4_markAt_26 : decode cX4_markAt 26 = .ok (.istore 6, 2) := by decide +kernel
theorem dX4_markAt_28 : decode cX4_markAt 28 = .ok (.iconst (-1), 1) := by decide +kernel
theorem dX4_markAt_29 : decode cX4_markAt 29 = .ok (.istore 7, 2) := by decide +kernel
theorem dX4_markAt_31 : decode cX4_markAt 31 = .ok (.iconst 0, 1) := by decide +kernel
theorem dX4_markAt_32 : decode cX4_markAt 32 = .ok (.istore 8, 2) := by decide +kernel
theorem dX4_markAt_34 : decode cX4_markAt 34 = .ok (.iload 8, 2) := by decide +kernel
theorem dX4_markAt_36 : decode cX4_markAt 36 = .ok (.iload_n 3, 1) := by decide +kernel
theorem dX4_markAt_37 : decode cX4_markAt 37 = .ok (.if_icmp .gt 104, 3) := by decide +kernel
theorem dX4_markAt_40 : decode cX4_markAt 40 = .ok (.aload_n 0, 1) := by decide +kernel
theorem dX4_markAt_41 : decode cX4_markAt 41 = .ok (.getfield 19, 3) := by decide +kernel
theorem dX4_markAt_44 : decode cX4_markAt 44 = .ok (.iload 6, 2) := by decide +kernel
theorem dX4_markAt_46 : decode cX4_markAt 46 = .ok (.invokevirtual 57, 3) := by decide +kernel
theorem dX4_markAt_49 : decode cX4_markAt 49 = .ok (.istore 9, 2) := by decide +kernel
theorem dX4_markAt_51 : decode cX4_markAt 51 = .ok (.iconst 0, 1) := by decide +kernel
theorem dX4_markAt_52 : decode cX4_markAt 52 = .ok (.istore 7, 2) := by decide +kernel
theorem dX4_markAt_54 : decode cX4_markAt 54 = .ok (.iload 7, 2) := by decide +kernel
theorem dX4_markAt_56 : decode cX4_markAt 56 = .ok (.bipush 9, 2) := by decide +kernel
theorem dX4_markAt_58 : decode cX4_markAt 58 = .ok (.if_icmp .ge 68, 3) := by decide +kernel
theorem dX4_markAt_61 : decode cX4_markAt 61 = .ok (.iload 9, 2) := by decide +kernel
theorem dX4_markAt_63 : decode cX4_markAt 63 = .ok (.iload 7, 2) := by decide +kernel
theorem dX4_markAt_65 : decode cX4_markAt 65 = .ok (.ishr, 1) := by decide +kernel
theorem dX4_markAt_66 : decode cX4_markAt 66 = .ok (.iconst 1, 1) := by decide +kernel
theorem dX4_markAt_67 : decode cX4_markAt 67 = .ok (.iand, 1) := by decide +kernel
theorem dX4_markAt_68 : decode cX4_markAt 68 = .ok (.ifCond .eq 21, 3) := by decide +kernel
theorem dX4_markAt_71 : decode cX4_markAt 71 = .ok (.lload 4, 2) := by decide +kernel
theorem dX4_markAt_73 : decode cX4_markAt 73 = .ok (.aload_n 0, 1) := by decide +kernel
theorem dX4_markAt_74 : decode cX4_markAt 74 = .ok (.getfield 9, 3) := by decide +kernel
theorem dX4_markAt_77 : decode cX4_markAt 77 = .ok (.iload 6, 2) := by decide +kernel
theorem dX4_markAt_79 : decode cX4_markAt 79 = .ok (.iconst 1, 1) := by decide +kernel
theorem dX4_markAt_80 : decode cX4_markAt 80 = .ok (.iload 7, 2) := by decide +kernel
theorem dX4_markAt_82 : decode cX4_markAt 82 = .ok (.ishl, 1) := by decide +kernel
theorem dX4_markAt_83 : decode cX4_markAt 83 = .ok (.ior, 1) := by decide +kernel
theorem dX4_markAt_84 : decode cX4_markAt 84 = .ok (.laload, 1) := by decide +kernel
theorem dX4_markAt_85 : decode cX4_markAt 85 = .ok (.lcmp, 1) := by decide +kernel
theorem dX4_markAt_86 : decode cX4_markAt 86 = .ok (.ifCond .lt 40, 3) := by decide +kernel
theorem dX4_markAt_89 : decode cX4_markAt 89 = .ok (.lload 4, 2) := by decide +kernel
theorem dX4_markAt_91 : decode cX4_markAt 91 = .ok (.iload 9, 2) := by decide +kernel
theorem dX4_markAt_93 : decode cX4_markAt 93 = .ok (.iload 7, 2) := by decide +kernel
theorem dX4_markAt_95 : decode cX4_markAt 95 = .ok (.ishr, 1) := by decide +kernel
theorem dX4_markAt_96 : decode cX4_markAt 96 = .ok (.iconst 1, 1) := by decide +kernel
theorem dX4_markAt_97 : decode cX4_markAt 97 = .ok (.iand, 1) := by decide +kernel
theorem dX4_markAt_98 : decode cX4_markAt 98 = .ok (.ifCond .ne 7, 3) := by decide +kernel
theorem dX4_markAt_101 : decode cX4_markAt 101 = .ok (.lconst 0, 1) := by decide +kernel
theorem dX4_markAt_102 : decode cX4_markAt 102 = .ok (.goto 15, 3) := by decide +kernel
theorem dX4_markAt_105 : decode cX4_markAt 105 = .ok (.aload_n 0, 1) := by decide +kernel
theorem dX4_markAt_106 : decode cX4_markAt 106 = .ok (.getfield 9, 3) := by decide +kernel
theorem dX4_markAt_109 : decode cX4_markAt 109 = .ok (.iload 6, 2) := by decide +kernel
theorem dX4_markAt_111 : decode cX4_markAt 111 = .ok (.iconst 1, 1) := by decide +kernel
theorem dX4_markAt_112 : decode cX4_markAt 112 = .ok (.iload 7, 2) := by decide +kernel
theorem dX4_markAt_114 : decode cX4_markAt 114 = .ok (.ishl, 1) := by decide +kernel
theorem dX4_markAt_115 : decode cX4_markAt 115 = .ok (.ior, 1) := by decide +kernel
theorem dX4_markAt_116 : decode cX4_markAt 116 = .ok (.laload, 1) := by decide +kernel
theorem dX4_markAt_117 : decode cX4_markAt 117 = .ok (.lsub, 1) := by decide +kernel
theorem dX4_markAt_118 : decode cX4_markAt 118 = .ok (.lstore 4, 2) := by decide +kernel
theorem dX4_markAt_120 : decode cX4_markAt 120 = .ok (.iinc 7 1, 3) := by decide +kernel
theorem dX4_markAt_123 : decode cX4_markAt 123 = .ok (.goto (-69), 3) := by decide +kernel
theorem dX4_markAt_126 : decode cX4_markAt 126 = .ok (.iload 6, 2) := by decide +kernel
theorem dX4_markAt_128 : decode cX4_markAt 128 = .ok (.iconst 1, 1) := by decide +kernel
theorem dX4_markAt_129 : decode cX4_markAt 129 = .ok (.iload 7, 2) := by decide +kernel
theorem dX4_markAt_131 : decode cX4_markAt 131 = .ok (.ishl, 1) := by decide +kernel
theorem dX4_markAt_132 : decode cX4_markAt 132 = .ok (.ior, 1) := by decide +kernel
theorem dX4_markAt_133 : decode cX4_markAt 133 = .ok (.istore 6, 2) := by decide +kernel
theorem dX4_markAt_135 : decode cX4_markAt 135 = .ok (.iinc 8 1, 3) := by decide +kernel
theorem dX4_markAt_138 : decode cX4_markAt 138 = .ok (.goto (-104), 3) := by decide +kernel
theorem dX4_markAt_141 : decode cX4_markAt 141 = .ok (.iload 7, 2) := by decide +kernel
theorem dX4_markAt_143 : decode cX4_markAt 143 = .ok (.ireturn, 1) := by decide +kernel
theorem dX4_numberWith_0 : decode cX4_numberWith 0 = .ok (.iconst 0, 1) := by decide +kernel
theorem dX4_numberWith_1 : decode cX4_numberWith 1 = .ok (.istore_n 3, 1) := by decide +kernel
theorem dX4_numberWith_2 : decode cX4_numberWith 2 = .ok (.iload_n 3, 1) := by decide +kernel
theorem dX4_numberWith_3 : decode cX4_numberWith 3 = .ok (.aload_n 0, 1) := by decide +kernel
theorem dX4_numberWith_4 : decode cX4_numberWith 4 = .ok (.getfield 19, 3) := by decide +kernel
theorem dX4_numberWith_7 : decode cX4_numberWith 7 = .ok (.invokevirtual 61, 3) := by decide +kernel
theorem dX4_numberWith_10 : decode cX4_numberWith 10 = .ok (.if_icmp .ge 49, 3) := by decide +kernel
theorem dX4_numberWith_13 : decode cX4_numberWith 13 = .ok (.aload_n 0, 1) := by decide +kernel
theorem dX4_numberWith_14 : decode cX4_numberWith 14 = .ok (.getfield 19, 3) := by decide +kernel
theorem dX4_numberWith_17 : decode cX4_numberWith 17 = .ok (.iload_n 3, 1) := by decide +kernel
theorem dX4_numberWith_18 : decode cX4_numberWith 18 = .ok (.invokevirtual 65, 3) := by decide +kernel
theorem dX4_numberWith_21 : decode cX4_numberWith 21 = .ok (.istore 4, 2) := by decide +kernel
theorem dX4_numberWith_23 : decode cX4_numberWith 23 = .ok (.aload_n 0, 1) := by decide +kernel
theorem dX4_numberWith_24 : decode cX4_numberWith 24 = .ok (.getfield 31, 3) := by decide +kernel
theorem dX4_numberWith_27 : decode cX4_numberWith 27 = .ok (.iload 4, 2) := by decide +kernel
theorem dX4_numberWith_29 : decode cX4_numberWith 29 = .ok (.iload 4, 2) := by decide +kernel
theorem dX4_numberWith_31 : decode cX4_numberWith 31 = .ok (.iload_n 2, 1) := by decide +kernel
theorem dX4_numberWith_32 : decode cX4_numberWith 32 = .ok (.ishr, 1) := by decide +kernel
theorem dX4_numberWith_33 : decode cX4_numberWith 33 = .ok (.iconst 1, 1) := by decide +kernel
theorem dX4_numberWith_34 : decode cX4_numberWith 34 = .ok (.iand, 1) := by decide +kernel
theorem dX4_numberWith_35 : decode cX4_numberWith 35 = .ok (.ifCond .eq 16, 3) := by decide +kernel
theorem dX4_numberWith_38 : decode cX4_numberWith 38 = .ok (.iload 4, 2) := by decide +kernel
theorem dX4_numberWith_40 : decode cX4_numberWith 40 = .ok (.iload_n 1, 1) := by decide +kernel
theorem dX4_numberWith_41 : decode cX4_numberWith 41 = .ok (.ishr, 1) := by decide +kernel
theorem dX4_numberWith_42 : decode cX4_numberWith 42 = .ok (.iconst 1, 1) := by decide +kernel
theorem dX4_numberWith_43 : decode cX4_numberWith 43 = .ok (.iand, 1) := by decide +kernel
theorem dX4_numberWith_44 : decode cX4_numberWith 44 = .ok (.ifCond .ne 7, 3) := by decide +kernel
theorem dX4_numberWith_47 : decode cX4_numberWith 47 = .ok (.lconst 0, 1) := by decide +kernel
theorem dX4_numberWith_48 : decode cX4_numberWith 48 = .ok (.goto 4, 3) := by decide +kernel
theorem dX4_numberWith_51 : decode cX4_numberWith 51 = .ok (.lconst 1, 1) := by decide +kernel
theorem dX4_numberWith_52 : decode cX4_numberWith 52 = .ok (.lastore, 1) := by decide +kernel
theorem dX4_numberWith_53 : decode cX4_numberWith 53 = .ok (.iinc 3 1, 3) := by decide +kernel
theorem dX4_numberWith_56 : decode cX4_numberWith 56 = .ok (.goto (-54), 3) := by decide +kernel
theorem dX4_numberWith_59 : decode cX4_numberWith 59 = .ok (.aload_n 0, 1) := by decide +kernel
theorem dX4_numberWith_60 : decode cX4_numberWith 60 = .ok (.aload_n 0, 1) := by decide +kernel
theorem dX4_numberWith_61 : decode cX4_numberWith 61 = .ok (.getfield 31, 3) := by decide +kernel
theorem dX4_numberWith_64 : decode cX4_numberWith 64 = .ok (.invokevirtual 45, 3) := by decide +kernel
theorem dX4_numberWith_67 : decode cX4_numberWith 67 = .ok (.aload_n 0, 1) := by decide +kernel
theorem dX4_numberWith_68 : decode cX4_numberWith 68 = .ok (.getfield 31, 3) := by decide +kernel
theorem dX4_numberWith_71 : decode cX4_numberWith 71 = .ok (.iconst 0, 1) := by decide +kernel
theorem dX4_numberWith_72 : decode cX4_numberWith 72 = .ok (.laload, 1) := by decide +kernel
theorem dX4_numberWith_73 : decode cX4_numberWith 73 = .ok (.lreturn, 1) := by decide +kernel
theorem dX4_numberClean_0 : decode cX4_numberClean 0 = .ok (.iconst 0, 1) := by decide +kernel
theorem dX4_numberClean_1 : decode cX4_numberClean 1 = .ok (.istore_n 1, 1) := by decide +kernel
theorem dX4_numberClean_2 : decode cX4_numberClean 2 = .ok (.iload_n 1, 1) := by decide +kernel
theorem dX4_numberClean_3 : decode cX4_numberClean 3 = .ok (.aload_n 0, 1) := by decide +kernel
theorem dX4_numberClean_4 : decode cX4_numberClean 4 = .ok (.getfield 19, 3) := by decide +kernel
theorem dX4_numberClean_7 : decode cX4_numberClean 7 = .ok (.invokevirtual 61, 3) := by decide +kernel
theorem dX4_numberClean_10 : decode cX4_numberClean 10 = .ok (.if_icmp .ge 48, 3) := by decide +kernel
theorem dX4_numberClean_13 : decode cX4_numberClean 13 = .ok (.aload_n 0, 1) := by decide +kernel
theorem dX4_numberClean_14 : decode cX4_numberClean 14 = .ok (.getfield 19, 3) := by decide +kernel
theorem dX4_numberClean_17 : decode cX4_numberClean 17 = .ok (.iload_n 1, 1) := by decide +kernel
theorem dX4_numberClean_18 : decode cX4_numberClean 18 = .ok (.invokevirtual 65, 3) := by decide +kernel
theorem dX4_numberClean_21 : decode cX4_numberClean 21 = .ok (.istore_n 2, 1) := by decide +kernel
theorem dX4_numberClean_22 : decode cX4_numberClean 22 = .ok (.aload_n 0, 1) := by decide +kernel
theorem dX4_numberClean_23 : decode cX4_numberClean 23 = .ok (.getfield 31, 3) := by decide +kernel
theorem dX4_numberClean_26 : decode cX4_numberClean 26 = .ok (.iload_n 2, 1) := by decide +kernel
theorem dX4_numberClean_27 : decode cX4_numberClean 27 = .ok (.aload_n 0, 1) := by decide +kernel
theorem dX4_numberClean_28 : decode cX4_numberClean 28 = .ok (.getfield 27, 3) := by decide +kernel
theorem dX4_numberClean_31 : decode cX4_numberClean 31 = .ok (.aload_n 0, 1) := by decide +kernel
theorem dX4_numberClean_32 : decode cX4_numberClean 32 = .ok (.getfield 23, 3) := by decide +kernel
theorem dX4_numberClean_35 : decode cX4_numberClean 35 = .ok (.iload_n 2, 1) := by decide +kernel
theorem dX4_numberClean_36 : decode cX4_numberClean 36 = .ok (.invokevirtual 68, 3) := by decide +kernel
theorem dX4_numberClean_39 : decode cX4_numberClean 39 = .ok (.iload_n 2, 1) := by decide +kernel
theorem dX4_numberClean_40 : decode cX4_numberClean 40 = .ok (.invokevirtual 74, 3) := by decide +kernel
theorem dX4_numberClean_43 : decode cX4_numberClean 43 = .ok (.ifCond .le 7, 3) := by decide +kernel
theorem dX4_numberClean_46 : decode cX4_numberClean 46 = .ok (.lconst 0, 1) := by decide +kernel
theorem dX4_numberClean_47 : decode cX4_numberClean 47 = .ok (.goto 4, 3) := by decide +kernel
theorem dX4_numberClean_50 : decode cX4_numberClean 50 = .ok (.lconst 1, 1) := by decide +kernel
theorem dX4_numberClean_51 : decode cX4_numberClean 51 = .ok (.lastore, 1) := by decide +kernel
theorem dX4_numberClean_52 : decode cX4_numberClean 52 = .ok (.iinc 1 1, 3) := by decide +kernel
theorem dX4_numberClean_55 : decode cX4_numberClean 55 = .ok (.goto (-53), 3) := by decide +kernel
theorem dX4_numberClean_58 : decode cX4_numberClean 58 = .ok (.aload_n 0, 1) := by decide +kernel
theorem dX4_numberClean_59 : decode cX4_numberClean 59 = .ok (.aload_n 0, 1) := by decide +kernel
theorem dX4_numberClean_60 : decode cX4_numberClean 60 = .ok (.getfield 31, 3) := by decide +kernel
theorem dX4_numberClean_63 : decode cX4_numberClean 63 = .ok (.invokevirtual 45, 3) := by decide +kernel
theorem dX4_numberClean_66 : decode cX4_numberClean 66 = .ok (.aload_n 0, 1) := by decide +kernel
theorem dX4_numberClean_67 : decode cX4_numberClean 67 = .ok (.getfield 31, 3) := by decide +kernel
theorem dX4_numberClean_70 : decode cX4_numberClean 70 = .ok (.iconst 0, 1) := by decide +kernel
theorem dX4_numberClean_71 : decode cX4_numberClean 71 = .ok (.laload, 1) := by decide +kernel
theorem dX4_numberClean_72 : decode cX4_numberClean 72 = .ok (.lreturn, 1) := by decide +kernel
theorem dX4_countWays_0 : decode cX4_countWays 0 = .ok (.aload_n 0, 1) := by decide +kernel
theorem dX4_countWays_1 : decode cX4_countWays 1 = .ok (.getfield 19, 3) := by decide +kernel
theorem dX4_countWays_4 : decode cX4_countWays 4 = .ok (.invokevirtual 61, 3) := by decide +kernel
theorem dX4_countWays_7 : decode cX4_countWays 7 = .ok (.iconst 2, 1) := by decide +kernel
theorem dX4_countWays_8 : decode cX4_countWays 8 = .ok (.isub, 1) := by decide +kernel
theorem dX4_countWays_9 : decode cX4_countWays 9 = .ok (.istore_n 2, 1) := by decide +kernel
theorem dX4_countWays_10 : decode cX4_countWays 10 = .ok (.iload_n 2, 1) := by decide +kernel
theorem dX4_countWays_11 : decode cX4_countWays 11 = .ok (.ifCond .lt 35, 3) := by decide +kernel
theorem dX4_countWays_14 : decode cX4_countWays 14 = .ok (.aload_n 0, 1) := by decide +kernel
theorem dX4_countWays_15 : decode cX4_countWays 15 = .ok (.getfield 19, 3) := by decide +kernel
theorem dX4_countWays_18 : decode cX4_countWays 18 = .ok (.iload_n 2, 1) := by decide +kernel
theorem dX4_countWays_19 : decode cX4_countWays 19 = .ok (.invokevirtual 65, 3) := by decide +kernel
theorem dX4_countWays_22 : decode cX4_countWays 22 = .ok (.istore_n 3, 1) := by decide +kernel
theorem dX4_countWays_23 : decode cX4_countWays 23 = .ok (.aload_n 1, 1) := by decide +kernel
theorem dX4_countWays_24 : decode cX4_countWays 24 = .ok (.iload_n 3, 1) := by decide +kernel
theorem dX4_countWays_25 : decode cX4_countWays 25 = .ok (.laload, 1) := by decide +kernel
theorem dX4_countWays_26 : decode cX4_countWays 26 = .ok (.lconst 0, 1) := by decide +kernel
theorem dX4_countWays_27 : decode cX4_countWays 27 = .ok (.lcmp, 1) := by decide +kernel
theorem dX4_countWays_28 : decode cX4_countWays 28 = .ok (.ifCond .eq 12, 3) := by decide +kernel
theorem dX4_countWays_31 : decode cX4_countWays 31 = .ok (.aload_n 1, 1) := by decide +kernel
theorem dX4_countWays_32 : decode cX4_countWays 32 = .ok (.iload_n 3, 1) := by decide +kernel
theorem dX4_countWays_33 : decode cX4_countWays 33 = .ok (.aload_n 0, 1) := by decide +kernel
theorem dX4_countWays_34 : decode cX4_countWays 34 = .ok (.iload_n 3, 1) := by decide +kernel
theorem dX4_countWays_35 : decode cX4_countWays 35 = .ok (.aload_n 1, 1) := by decide +kernel
theorem dX4_countWays_36 : decode cX4_countWays 36 = .ok (.invokevirtual 80, 3) := by decide +kernel
theorem dX4_countWays_39 : decode cX4_countWays 39 = .ok (.lastore, 1) := by decide +kernel
theorem dX4_countWays_40 : decode cX4_countWays 40 = .ok (.iinc 2 (-1), 3) := by decide +kernel
theorem dX4_countWays_43 : decode cX4_countWays 43 = .ok (.goto (-33), 3) := by decide +kernel
theorem dX4_countWays_46 : decode cX4_countWays 46 = .ok (.return_, 1) := by decide +kernel
theorem dX4_waysOn_0 : decode cX4_waysOn 0 = .ok (.lconst 0, 1) := by decide +kernel
theorem dX4_waysOn_1 : decode cX4_waysOn 1 = .ok (.lstore_n 3, 1) := by decide +kernel
theorem dX4_waysOn_2 : decode cX4_waysOn 2 = .ok (.aload_n 0, 1) := by decide +kernel
theorem dX4_waysOn_3 : decode cX4_waysOn 3 = .ok (.getfield 19, 3) := by decide +kernel
theorem dX4_waysOn_6 : decode cX4_waysOn 6 = .ok (.iload_n 1, 1) := by decide +kernel
theorem dX4_waysOn_7 : decode cX4_waysOn 7 = .ok (.invokevirtual 57, 3) := by decide +kernel
theorem dX4_waysOn_10 : decode cX4_waysOn 10 = .ok (.istore 5, 2) := by decide +kernel
theorem dX4_waysOn_12 : decode cX4_waysOn 12 = .ok (.iconst 0, 1) := by decide +kernel
theorem dX4_waysOn_13 : decode cX4_waysOn 13 = .ok (.istore 6, 2) := by decide +kernel
theorem dX4_waysOn_15 : decode cX4_waysOn 15 = .ok (.iload 6, 2) := by decide +kernel
theorem dX4_waysOn_17 : decode cX4_waysOn 17 = .ok (.bipush 10, 2) := by decide +kernel
theorem dX4_waysOn_19 : decode cX4_waysOn 19 = .ok (.if_icmp .ge 30, 3) := by decide +kernel
theorem dX4_waysOn_22 : decode cX4_waysOn 22 = .ok (.iload 5, 2) := by decide +kernel
theorem dX4_waysOn_24 : decode cX4_waysOn 24 = .ok (.iload 6, 2) := by decide +kernel
theorem dX4_waysOn_26 : decode cX4_waysOn 26 = .ok (.ishr, 1) := by decide +kernel
theorem dX4_waysOn_27 : decode cX4_waysOn 27 = .ok (.iconst 1, 1) := by decide +kernel
theorem dX4_waysOn_28 : decode cX4_waysOn 28 = .ok (.iand, 1) := by decide +kernel
theorem dX4_waysOn_29 : decode cX4_waysOn 29 = .ok (.ifCond .eq 14, 3) := by decide +kernel
theorem dX4_waysOn_32 : decode cX4_waysOn 32 = .ok (.lload_n 3, 1) := by decide +kernel
theorem dX4_waysOn_33 : decode cX4_waysOn 33 = .ok (.aload_n 2, 1) := by decide +kernel
theorem dX4_waysOn_34 : decode cX4_waysOn 34 = .ok (.iload_n 1, 1) := by decide +kernel
theorem dX4_waysOn_35 : decode cX4_waysOn 35 = .ok (.iconst 1, 1) := by decide +kernel
theorem dX4_waysOn_36 : decode cX4_waysOn 36 = .ok (.iload 6, 2) := by decide +kernel
theorem dX4_waysOn_38 : decode cX4_waysOn 38 = .ok (.ishl, 1) := by decide +kernel
theorem dX4_waysOn_39 : decode cX4_waysOn 39 = .ok (.ior, 1) := by decide +kernel
theorem dX4_waysOn_40 : decode cX4_waysOn 40 = .ok (.laload, 1) := by decide +kernel
theorem dX4_waysOn_41 : decode cX4_waysOn 41 = .ok (.ladd, 1) := by decide +kernel
theorem dX4_waysOn_42 : decode cX4_waysOn 42 = .ok (.lstore_n 3, 1) := by decide +kernel
theorem dX4_waysOn_43 : decode cX4_waysOn 43 = .ok (.iinc 6 1, 3) := by decide +kernel
theorem dX4_waysOn_46 : decode cX4_waysOn 46 = .ok (.goto (-31), 3) := by decide +kernel
theorem dX4_waysOn_49 : decode cX4_waysOn 49 = .ok (.lload_n 3, 1) := by decide +kernel
theorem dX4_waysOn_50 : decode cX4_waysOn 50 = .ok (.lreturn, 1) := by decide +kernel
theorem dX5_init_0 : decode cX5_init 0 = .ok (.aload_n 0, 1) := by decide +kernel
theorem dX5_init_1 : decode cX5_init 1 = .ok (.invokespecial 3, 3) := by decide +kernel
theorem dX5_init_4 : decode cX5_init 4 = .ok (.aload_n 0, 1) := by decide +kernel
theorem dX5_init_5 : decode cX5_init 5 = .ok (.sipush 400, 3) := by decide +kernel
theorem dX5_init_8 : decode cX5_init 8 = .ok (.newarray .byte, 2) := by decide +kernel
theorem dX5_init_10 : decode cX5_init 10 = .ok (.putfield 9, 3) := by decide +kernel
theorem dX5_init_13 : decode cX5_init 13 = .ok (.aload_n 0, 1) := by decide +kernel
theorem dX5_init_14 : decode cX5_init 14 = .ok (.iconst (-1), 1) := by decide +kernel
theorem dX5_init_15 : decode cX5_init 15 = .ok (.putfield 15, 3) := by decide +kernel
theorem dX5_init_18 : decode cX5_init 18 = .ok (.aload_n 0, 1) := by decide +kernel
theorem dX5_init_19 : decode cX5_init 19 = .ok (.bipush 8, 2) := by decide +kernel
theorem dX5_init_21 : decode cX5_init 21 = .ok (.newarray .int, 2) := by decide +kernel
theorem dX5_init_23 : decode cX5_init 23 = .ok (.putfield 19, 3) := by decide +kernel
theorem dX5_init_26 : decode cX5_init 26 = .ok (.aload_n 0, 1) := by decide +kernel
theorem dX5_init_27 : decode cX5_init 27 = .ok (.bipush 10, 2) := by decide +kernel
theorem dX5_init_29 : decode cX5_init 29 = .ok (.newarray .int, 2) := by decide +kernel
theorem dX5_init_31 : decode cX5_init 31 = .ok (.putfield 23, 3) := by decide +kernel
theorem dX5_init_34 : decode cX5_init 34 = .ok (.aload_n 0, 1) := by decide +kernel
theorem dX5_init_35 : decode cX5_init 35 = .ok (.bipush 10, 2) := by decide +kernel
theorem dX5_init_37 : decode cX5_init 37 = .ok (.newarray .int, 2) := by decide +kernel
theorem dX5_init_39 : decode cX5_init 39 = .ok (.putfield 26, 3) := by decide +kernel
theorem dX5_init_42 : decode cX5_init 42 = .ok (.aload_n 0, 1) := by decide +kernel
theorem dX5_init_43 : decode cX5_init 43 = .ok (.aload_n 1, 1) := by decide +kernel
theorem dX5_init_44 : decode cX5_init 44 = .ok (.putfield 29, 3) := by decide +kernel
theorem dX5_init_47 : decode cX5_init 47 = .ok (.return_, 1) := by decide +kernel
theorem dX5_hear_0 : decode cX5_hear 0 = .ok (.aload_n 0, 1) := by decide +kernel
theorem dX5_hear_1 : decode cX5_hear 1 = .ok (.getfield 33, 3) := by decide +kernel
theorem dX5_hear_4 : decode cX5_hear 4 = .ok (.sipush 400, 3) := by decide +kernel
theorem dX5_hear_7 : decode cX5_hear 7 = .ok (.if_icmp .ge 24, 3) := by decide +kernel
theorem dX5_hear_10 : decode cX5_hear 10 = .ok (.aload_n 0, 1) := by decide +kernel
theorem dX5_hear_11 : decode cX5_hear 11 = .ok (.getfield 9, 3) := by decide +kernel
theorem dX5_hear_14 : decode cX5_hear 14 = .ok (.aload_n 0, 1) := by decide +kernel
theorem dX5_hear_15 : decode cX5_hear 15 = .ok (.getfield 33, 3) := by decide +kernel
theorem dX5_hear_18 : decode cX5_hear 18 = .ok (.iload_n 1, 1) := by decide +kernel
theorem dX5_hear_19 : decode cX5_hear 19 = .ok (.i2b, 1) := by decide +kernel
theorem dX5_hear_20 : decode cX5_hear 20 = .ok (.bastore, 1) := by decide +kernel
theorem dX5_hear_21 : decode cX5_hear 21 = .ok (.aload_n 0, 1) := by decide +kernel
theorem dX5_hear_22 : decode cX5_hear 22 = .ok (.dup, 1) := by decide +kernel
theorem dX5_hear_23 : decode cX5_hear 23 = .ok (.getfield 33, 3) := by decide +kernel
theorem dX5_hear_26 : decode cX5_hear 26 = .ok (.iconst 1, 1) := by decide +kernel
theorem dX5_hear_27 : decode cX5_hear 27 = .ok (.iadd, 1) := by decide +kernel
theorem dX5_hear_28 : decode cX5_hear 28 = .ok (.putfield 33, 3) := by decide +kernel
theorem dX5_hear_31 : decode cX5_hear 31 = .ok (.return_, 1) := by decide +kernel
theorem dX5_readInto_0 : decode cX5_readInto 0 = .ok (.aload_n 0, 1) := by decide +kernel
theorem dX5_readInto_1 : decode cX5_readInto 1 = .ok (.aload_n 1, 1) := by decide +kernel
theorem dX5_readInto_2 : decode cX5_readInto 2 = .ok (.invokevirtual 36, 3) := by decide +kernel
theorem dX5_readInto_5 : decode cX5_readInto 5 = .ok (.iconst 0, 1) := by decide +kernel
theorem dX5_readInto_6 : decode cX5_readInto 6 = .ok (.istore_n 2, 1) := by decide +kernel
theorem dX5_readInto_7 : decode cX5_readInto 7 = .ok (.iconst 0, 1) := by decide +kernel
theorem dX5_readInto_8 : decode cX5_readInto 8 = .ok (.istore_n 3, 1) := by decide +kernel
theorem dX5_readInto_9 : decode cX5_readInto 9 = .ok (.iconst 0, 1) := by decide +kernel
theorem dX5_readInto_10 : decode cX5_readInto 10 = .ok (.istore 4, 2) := by decide +kernel
theorem dX5_readInto_12 : decode cX5_readInto 12 = .ok (.iload 4, 2) := by decide +kernel
theorem dX5_readInto_14 : decode cX5_readInto 14 = .ok (.sipush 400, 3) := by decide +kernel
theorem dX5_readInto_17 : decode cX5_readInto 17 = .ok (.if_icmp .ge 47, 3) := by decide +kernel
theorem dX5_readInto_20 : decode cX5_readInto 20 = .ok (.iload_n 2, 1) := by decide +kernel
theorem dX5_readInto_21 : decode cX5_readInto 21 = .ok (.aload_n 0, 1) := by decide +kernel
theorem dX5_readInto_22 : decode cX5_readInto 22 = .ok (.getfield 33, 3) := by decide +kernel
theorem dX5_readInto_25 : decode cX5_readInto 25 = .ok (.if_icmp .ge 39, 3) := by decide +kernel
theorem dX5_readInto_28 : decode cX5_readInto 28 = .ok (.iload_n 3, 1) := by decide +kernel
theorem dX5_readInto_29 : decode cX5_readInto 29 = .ok (.ifCond .ne 35, 3) := by decide +kernel
theorem dX5_readInto_32 : decode cX5_readInto 32 = .ok (.aload_n 0, 1) := by decide +kernel
theorem dX5_readInto_33 : decode cX5_readInto 33 = .ok (.iload_n 2, 1) := by decide +kernel
theorem dX5_readInto_34 : decode cX5_readInto 34 = .ok (.invokevirtual 40, 3) := by decide +kernel
theorem dX5_readInto_37 : decode cX5_readInto 37 = .ok (.istore 5, 2) := by decide +kernel
theorem dX5_readInto_39 : decode cX5_readInto 39 = .ok (.aload_n 0, 1) := by decide +kernel
theorem dX5_readInto_40 : decode cX5_readInto 40 = .ok (.iload_n 2, 1) := by decide +kernel
theorem dX5_readInto_41 : decode cX5_readInto 41 = .ok (.iload 5, 2) := by decide +kernel
theorem dX5_readInto_43 : decode cX5_readInto 43 = .ok (.invokevirtual 44, 3) := by decide +kernel
theorem dX5_readInto_46 : decode cX5_readInto 46 = .ok (.istore_n 3, 1) := by decide +kernel
theorem dX5_readInto_47 : decode cX5_readInto 47 = .ok (.iload_n 3, 1) := by decide +kernel
theorem dX5_readInto_48 : decode cX5_readInto 48 = .ok (.ifCond .ne 8, 3) := by decide +kernel
theorem dX5_readInto_51 : decode cX5_readInto 51 = .ok (.iload 5, 2) := by decide +kernel
theorem dX5_readInto_53 : decode cX5_readInto 53 = .ok (.goto 4, 3) := by decide +kernel
theorem dX5_readInto_56 : decode cX5_readInto 56 = .ok (.iload_n 2, 1) := by decide +kernel
theorem dX5_readInto_57 : decode cX5_readInto 57 = .ok (.istore_n 2, 1) := by decide +kernel
theorem dX5_readInto_58 : decode cX5_readInto 58 = .ok (.iinc 4 1, 3) := by decide +kernel
theorem dX5_readInto_61 : decode cX5_readInto 61 = .ok (.goto (-49), 3) := by decide +kernel
theorem dX5_readInto_64 : decode cX5_readInto 64 = .ok (.iload_n 3, 1) := by decide +kernel
theorem dX5_readInto_65 : decode cX5_readInto 65 = .ok (.ifCond .ne 19, 3) := by decide +kernel
theorem dX5_readInto_68 : decode cX5_readInto 68 = .ok (.aload_n 0, 1) := by decide +kernel
theorem dX5_readInto_69 : decode cX5_readInto 69 = .ok (.getfield 48, 3) := by decide +kernel
theorem dX5_readInto_72 : decode cX5_readInto 72 = .ok (.ifCond .ne 10, 3) := by decide +kernel
theorem dX5_readInto_75 : decode cX5_readInto 75 = .ok (.aload_n 0, 1) := by decide +kernel
theorem dX5_readInto_76 : decode cX5_readInto 76 = .ok (.getfield 51, 3) := by decide +kernel
theorem dX5_readInto_79 : decode cX5_readInto 79 = .ok (.ifCond .le 5, 3) := by decide +kernel
theorem dX5_readInto_82 : decode cX5_readInto 82 = .ok (.iconst 1, 1) := by decide +kernel
theorem dX5_readInto_83 : decode cX5_readInto 83 = .ok (.istore_n 3, 1) := by decide +kernel
theorem dX5_readInto_84 : decode cX5_readInto 84 = .ok (.aload_n 0, 1) := by decide +kernel
theorem dX5_readInto_85 : decode cX5_readInto 85 = .ok (.invokevirtual 54, 3) := by decide +kernel
theorem dX5_readInto_88 : decode cX5_readInto 88 = .ok (.istore 4, 2) := by decide +kernel
theorem dX5_readInto_90 : decode cX5_readInto 90 = .ok (.iload_n 3, 1) := by decide +kernel
theorem dX5_readInto_91 : decode cX5_readInto 91 = .ok (.ifCond .ne 15, 3) := by decide +kernel
theorem dX5_readInto_94 : decode cX5_readInto 94 = .ok (.iload 4, 2) := by decide +kernel
theorem dX5_readInto_96 : decode cX5_readInto 96 = .ok (.iconst (-1), 1) := by decide +kernel
theorem dX5_readInto_97 : decode cX5_readInto 97 = .ok (.if_icmp .eq 9, 3) := by decide +kernel
theorem dX5_readInto_100 : decode cX5_readInto 100 = .ok (.bipush 6, 2) := by decide +kernel
theorem dX5_readInto_102 : decode cX5_readInto 102 = .ok (.istore_n 3, 1) := by decide +kernel
theorem dX5_readInto_103 : decode cX5_readInto 103 = .ok (.iload 4, 2) := by decide +kernel
theorem dX5_readInto_105 : decode cX5_readInto 105 = .ok (.istore_n 2, 1) := by decide +kernel
theorem dX5_readInto_106 : decode cX5_readInto 106 = .ok (.iload_n 3, 1) := by decide +kernel
theorem dX5_readInto_107 : decode cX5_readInto 107 = .ok (.ifCond .ne 20, 3) := by decide +kernel
theorem dX5_readInto_110 : decode cX5_readInto 110 = .ok (.aload_n 0, 1) := by decide +kernel
theorem dX5_readInto_111 : decode cX5_readInto 111 = .ok (.getfield 58, 3) := by decide +kernel
theorem dX5_readInto_114 : decode cX5_readInto 114 = .ok (.aload_n 0, 1) := by decide +kernel
theorem dX5_readInto_115 : decode cX5_readInto 115 = .ok (.getfield 58, 3) := by decide +kernel
theorem dX5_readInto_118 : decode cX5_readInto 118 = .ok (.iconst 1, 1) := by decide +kernel
theorem dX5_readInto_119 : decode cX5_readInto 119 = .ok (.iadd, 1) := by decide +kernel
theorem dX5_readInto_120 : decode cX5_readInto 120 = .ok (.iand, 1) := by decide +kernel
theorem dX5_readInto_121 : decode cX5_readInto 121 = .ok (.ifCond .eq 6, 3) := by decide +kernel
theorem dX5_readInto_124 : decode cX5_readInto 124 = .ok (.bipush 7, 2) := by decide +kernel
theorem dX5_readInto_126 : decode cX5_readInto 126 = .ok (.istore_n 3, 1) := by decide +kernel
theorem dX5_readInto_127 : decode cX5_readInto 127 = .ok (.aload_n 0, 1) := by decide +kernel
theorem dX5_readInto_128 : decode cX5_readInto 128 = .ok (.iload_n 3, 1) := by decide +kernel
theorem dX5_readInto_129 : decode cX5_readInto 129 = .ok (.ifCond .ne 7, 3) := by decide +kernel
theorem dX5_readInto_132 : decode cX5_readInto 132 = .ok (.iconst (-1), 1) := by decide +kernel
theorem dX5_readInto_133 : decode cX5_readInto 133 = .ok (.goto 4, 3) := by decide +kernel
theorem dX5_readInto_136 : decode cX5_readInto 136 = .ok (.iload_n 2, 1) := by decide +kernel
theorem dX5_readInto_137 : decode cX5_readInto 137 = .ok (.putfield 15, 3) := by decide +kernel
theorem dX5_readInto_140 : decode cX5_readInto 140 = .ok (.aload_n 1, 1) := by decide +kernel
theorem dX5_readInto_141 : decode cX5_readInto 141 = .ok (.aload_n 0, 1) := by decide +kernel
theorem dX5_readInto_142 : decode cX5_readInto 142 = .ok (.getfield 58, 3) := by decide +kernel
theorem dX5_readInto_145 : decode cX5_readInto 145 = .ok (.invokestatic 61, 3) := by decide +kernel
theorem dX5_readInto_148 : decode cX5_readInto 148 = .ok (.putfield 66, 3) := by decide +kernel
theorem dX5_readInto_151 : decode cX5_readInto 151 = .ok (.aload_n 0, 1) := by decide +kernel
theorem dX5_readInto_152 : decode cX5_readInto 152 = .ok (.iconst 0, 1) := by decide +kernel
theorem dX5_readInto_153 : decode cX5_readInto 153 = .ok (.putfield 33, 3) := by decide +kernel
theorem dX5_readInto_156 : decode cX5_readInto 156 = .ok (.iload_n 3, 1) := by decide +kernel
theorem dX5_readInto_157 : decode cX5_readInto 157 = .ok (.ireturn, 1) := by decide +kernel
theorem dX5_start_0 : decode cX5_start 0 = .ok (.aload_n 1, 1) := by decide +kernel
theorem dX5_start_1 : decode cX5_start 1 = .ok (.invokevirtual 71, 3) := by decide +kernel
theorem dX5_start_4 : decode cX5_start 4 = .ok (.aload_n 0, 1) := by decide +kernel
theorem dX5_start_5 : decode cX5_start 5 = .ok (.aload_n 1, 1) := by decide +kernel
theorem dX5_start_6 : decode cX5_start 6 = .ok (.putfield 29, 3) := by decide +kernel
theorem dX5_start_9 : decode cX5_start 9 = .ok (.aload_n 0, 1) := by decide +kernel
theorem dX5_start_10 : decode cX5_start 10 = .ok (.iconst 0, 1) := by decide +kernel
theorem dX5_start_11 : decode cX5_start 11 = .ok (.putfield 48, 3) := by decide +kernel
theorem dX5_start_14 : decode cX5_start 14 = .ok (.aload_n 0, 1) := by decide +kernel
theorem dX5_start_15 : decode cX5_start 15 = .ok (.iconst 0, 1) := by decide +kernel
theorem dX5_start_16 : decode cX5_start 16 = .ok (.putfield 51, 3) := by decide +kernel
theorem dX5_start_19 : decode cX5_start 19 = .ok (.aload_n 0, 1) := by decide +kernel
theorem dX5_start_20 : decode cX5_start 20 = .ok (.iconst 0, 1) := by decide +kernel
theorem dX5_start_21 : decode cX5_start 21 = .ok (.putfield 58, 3) := by decide +kernel
theorem dX5_start_24 : decode cX5_start 24 = .ok (.aload_n 0, 1) := by decide +kernel
theorem dX5_start_25 : decode cX5_start 25 = .ok (.iconst (-1), 1) := by decide +kernel
theorem dX5_start_26 : decode cX5_start 26 = .ok (.putfield 74, 3) := by decide +kernel
theorem dX5_start_29 : decode cX5_start 29 = .ok (.aload_n 0, 1) := by decide +kernel
theorem dX5_start_30 : decode cX5_start 30 = .ok (.iconst (-1), 1) := by decide +kernel
theorem dX5_start_31 : decode cX5_start 31 = .ok (.putfield 77, 3) := by decide +kernel
theorem dX5_start_34 : decode cX5_start 34 = .ok (.aload_n 0, 1) := by decide +kernel
theorem dX5_start_35 : decode cX5_start 35 = .ok (.getfield 23, 3) := by decide +kernel
theorem dX5_start_38 : decode cX5_start 38 = .ok (.iconst (-1), 1) := by decide +kernel
theorem dX5_start_39 : decode cX5_start 39 = .ok (.invokestatic 80, 3) := by decide +kernel
theorem dX5_start_42 : decode cX5_start 42 = .ok (.aload_n 0, 1) := by decide +kernel
theorem dX5_start_43 : decode cX5_start 43 = .ok (.getfield 26, 3) := by decide +kernel
theorem dX5_start_46 : decode cX5_start 46 = .ok (.iconst (-1), 1) := by decide +kernel
theorem dX5_start_47 : decode cX5_start 47 = .ok (.invokestatic 80, 3) := by decide +kernel
theorem dX5_start_50 : decode cX5_start 50 = .ok (.return_, 1) := by decide +kernel
theorem dX5_byteAt_0 : decode cX5_byteAt 0 = .ok (.iload_n 1, 1) := by decide +kernel
theorem dX5_byteAt_1 : decode cX5_byteAt 1 = .ok (.ifCond .lt 31, 3) := by decide +kernel
theorem dX5_byteAt_4 : decode cX5_byteAt 4 = .ok (.iload_n 1, 1) := by decide +kernel
theorem dX5_byteAt_5 : decode cX5_byteAt 5 = .ok (.aload_n 0, 1) := by decide +kernel
theorem dX5_byteAt_6 : decode cX5_byteAt 6 = .ok (.getfield 33, 3) := by decide +kernel
theorem dX5_byteAt_9 : decode cX5_byteAt 9 = .ok (.if_icmp .ge 23, 3) := by decide +kernel
theorem dX5_byteAt_12 : decode cX5_byteAt 12 = .ok (.iload_n 1, 1) := by decide +kernel
theorem dX5_byteAt_13 : decode cX5_byteAt 13 = .ok (.sipush 400, 3) := by decide +kernel
theorem dX5_byteAt_16 : decode cX5_byteAt 16 = .ok (.if_icmp .ge 16, 3) := by decide +kernel
theorem dX5_byteAt_19 : decode cX5_byteAt 19 = .ok (.aload_n 0, 1) := by decide +kernel
theorem dX5_byteAt_20 : decode cX5_byteAt 20 = .ok (.getfield 9, 3) := by decide +kernel
theorem dX5_byteAt_23 : decode cX5_byteAt 23 = .ok (.iload_n 1, 1) := by decide +kernel
theorem dX5_byteAt_24 : decode cX5_byteAt 24 = .ok (.baload, 1) := by decide +kernel
theorem dX5_byteAt_25 : decode cX5_byteAt 25 = .ok (.sipush 255, 3) := by decide +kernel
theorem dX5_byteAt_28 : decode cX5_byteAt 28 = .ok (.iand, 1) := by decide +kernel
theorem dX5_byteAt_29 : decode cX5_byteAt 29 = .ok (.goto 4, 3) := by decide +kernel
theorem dX5_byteAt_32 : decode cX5_byteAt 32 = .ok (.iconst 0, 1) := by decide +kernel
theorem dX5_byteAt_33 : decode cX5_byteAt 33 = .ok (.ireturn, 1) := by decide +kernel
theorem dX5_isFigure_0 : decode cX5_isFigure 0 = .ok (.aload_n 0, 1) := by decide +kernel
theorem dX5_isFigure_1 : decode cX5_isFigure 1 = .ok (.iload_n 1, 1) := by decide +kernel
theorem dX5_isFigure_2 : decode cX5_isFigure 2 = .ok (.invokevirtual 86, 3) := by decide +kernel
theorem dX5_isFigure_5 : decode cX5_isFigure 5 = .ok (.bipush 48, 2) := by decide +kernel
theorem dX5_isFigure_7 : decode cX5_isFigure 7 = .ok (.if_icmp .lt 17, 3) := by decide +kernel
theorem dX5_isFigure_10 : decode cX5_isFigure 10 = .ok (.aload_n 0, 1) := by decide +kernel
theorem dX5_isFigure_11 : decode cX5_isFigure 11 = .ok (.iload_n 1, 1) := by decide +kernel
theorem dX5_isFigure_12 : decode cX5_isFigure 12 = .ok (.invokevirtual 86, 3) := by decide +kernel
theorem dX5_isFigure_15 : decode cX5_isFigure 15 = .ok (.bipush 57, 2) := by decide +kernel
theorem dX5_isFigure_17 : decode cX5_isFigure 17 = .ok (.if_icmp .gt 7, 3) := by decide +kernel
theorem dX5_isFigure_20 : decode cX5_isFigure 20 = .ok (.iconst 1, 1) := by decide +kernel
theorem dX5_isFigure_21 : decode cX5_isFigure 21 = .ok (.goto 4, 3) := by decide +kernel
theorem dX5_isFigure_24 : decode cX5_isFigure 24 = .ok (.iconst 0, 1) := by decide +kernel
theorem dX5_isFigure_25 : decode cX5_isFigure 25 = .ok (.ireturn, 1) := by decide +kernel
theorem dX5_endOfToken_0 : decode cX5_endOfToken 0 = .ok (.iload_n 1, 1) := by decide +kernel
theorem dX5_endOfToken_1 : decode cX5_endOfToken 1 = .ok (.iconst 1, 1) := by decide +kernel
theorem dX5_endOfToken_2 : decode cX5_endOfToken 2 = .ok (.iadd, 1) := by decide +kernel
theorem dX5_endOfToken_3 : decode cX5_endOfToken 3 = .ok (.istore_n 2, 1) := by decide +kernel
theorem dX5_endOfToken_4 : decode cX5_endOfToken 4 = .ok (.aload_n 0, 1) := by decide +kernel
theorem dX5_endOfToken_5 : decode cX5_endOfToken 5 = .ok (.iload_n 1, 1) := by decide +kernel
theorem dX5_endOfToken_6 : decode cX5_endOfToken 6 = .ok (.invokevirtual 89, 3) := by decide +kernel
theorem dX5_endOfToken_9 : decode cX5_endOfToken 9 = .ok (.ifCond .eq 25, 3) := by decide +kernel
theorem dX5_endOfToken_12 : decode cX5_endOfToken 12 = .ok (.iload_n 2, 1) := by decide +kernel
theorem dX5_endOfToken_13 : decode cX5_endOfToken 13 = .ok (.aload_n 0, 1) := by decide +kernel
theorem dX5_endOfToken_14 : decode cX5_endOfToken 14 = .ok (.getfield 33, 3) := by decide +kernel
theorem dX5_endOfToken_17 : decode cX5_endOfToken 17 = .ok (.if_icmp .ge 17, 3) := by decide +kernel
theorem dX5_endOfToken_20 : decode cX5_endOfToken 20 = .ok (.aload_n 0, 1) := by decide +kernel
theorem dX5_endOfToken_21 : decode cX5_endOfToken 21 = .ok (.iload_n 2, 1) := by decide +kernel
theorem dX5_endOfToken_22 : decode cX5_endOfToken 22 = .ok (.invokevirtual 89, 3) := by decide +kernel
theorem dX5_endOfToken_25 : decode cX5_endOfToken 25 = .ok (.ifCond .eq 9, 3) := by decide +kernel
theorem dX5_endOfToken_28 : decode cX5_endOfToken 28 = .ok (.iinc 2 1, 3) := by decide +kernel
theorem dX5_endOfToken_31 : decode cX5_endOfToken 31 = .ok (.goto (-19), 3) := by decide +kernel
theorem dX5_endOfToken_34 : decode cX5_endOfToken 34 = .ok (.iload_n 2, 1) := by decide +kernel
theorem dX5_endOfToken_35 : decode cX5_endOfToken 35 = .ok (.ireturn, 1) := by decide +kernel
theorem dX5_takeToken_0 : decode cX5_takeToken 0 = .ok (.aload_n 0, 1) := by decide +kernel
theorem dX5_takeToken_1 : decode cX5_takeToken 1 = .ok (.iload_n 1, 1) := by decide +kernel
theorem dX5_takeToken_2 : decode cX5_takeToken 2 = .ok (.invokevirtual 86, 3) := by decide +kernel
theorem dX5_takeToken_5 : decode cX5_takeToken 5 = .ok (.bipush 32, 2) := by decide +kernel
theorem dX5_takeToken_7 : decode cX5_takeToken 7 = .ok (.if_icmp .ne 5, 3) := by decide +kernel
theorem dX5_takeToken_10 : decode cX5_takeToken 10 = .ok (.iconst 0, 1) := by decide +kernel
theorem dX5_takeToken_11 : decode cX5_takeToken 11 = .ok (.ireturn, 1) := by decide +kernel
theorem dX5_takeToken_12 : decode cX5_takeToken 12 = .ok (.aload_n 0, 1) := by decide +kernel
theorem dX5_takeToken_13 : decode cX5_takeToken 13 = .ok (.iload_n 1, 1) := by decide +kernel
theorem dX5_takeToken_14 : decode cX5_takeToken 14 = .ok (.invokevirtual 89, 3) := by decide +kernel
theorem dX5_takeToken_17 : decode cX5_takeToken 17 = .ok (.ifCond .eq 12, 3) := by decide +kernel
theorem dX5_takeToken_20 : decode cX5_takeToken 20 = .ok (.aload_n 0, 1) := by decide +kernel
theorem dX5_takeToken_21 : decode cX5_takeToken 21 = .ok (.iload_n 1, 1) := by decide +kernel
theorem dX5_takeToken_22 : decode cX5_takeToken 22 = .ok (.iload_n 2, 1) := by decide +kernel
theorem dX5_takeToken_23 : decode cX5_takeToken 23 = .ok (.invokevirtual 93, 3) := by decide +kernel
theorem dX5_takeToken_26 : decode cX5_takeToken 26 = .ok (.goto 8, 3) := by decide +kernel
theorem dX5_takeToken_29 : decode cX5_takeToken 29 = .ok (.aload_n 0, 1) := by decide +kernel
theorem dX5_takeToken_30 : decode cX5_takeToken 30 = .ok (.iload_n 1, 1) := by decide +kernel
theorem dX5_takeToken_31 : decode cX5_takeToken 31 = .ok (.invokevirtual 96, 3) := by decide +kernel
theorem dX5_takeToken_34 : decode cX5_takeToken 34 = .ok (.ireturn, 1) := by decide +kernel
theorem dX5_takeNumber_0 : decode cX5_takeNumber 0 = .ok (.aload_n 0, 1) := by decide +kernel
theorem dX5_takeNumber_1 : decode cX5_takeNumber 1 = .ok (.getfield 48, 3) := by decide +kernel
theorem dX5_takeNumber_4 : decode cX5_takeNumber 4 = .ok (.iconst 5, 1) := by decide +kernel
theorem dX5_takeNumber_5 : decode cX5_takeNumber 5 = .ok (.if_icmp .lt 16, 3) := by decide +kernel
theorem dX5_takeNumber_8 : decode cX5_takeNumber 8 = .ok (.aload_n 0, 1) := by decide +kernel
theorem dX5_takeNumber_9 : decode cX5_takeNumber 9 = .ok (.getfield 48, 3) := by decide +kernel
theorem dX5_takeNumber_12 : decode cX5_takeNumber 12 = .ok (.bipush 8, 2) := by decide +kernel
theorem dX5_takeNumber_14 : decode cX5_takeNumber 14 = .ok (.if_icmp .gt 7, 3) := by decide +kernel
theorem dX5_takeNumber_17 : decode cX5_takeNumber 17 = .ok (.iconst 1, 1) := by decide +kernel
theorem dX5_takeNumber_18 : decode cX5_takeNumber 18 = .ok (.goto 4, 3) := by decide +kernel
theorem dX5_takeNumber_21 : decode cX5_takeNumber 21 = .ok (.iconst 0, 1) := by decide +kernel
theorem dX5_takeNumber_22 : decode cX5_takeNumber 22 = .ok (.istore_n 3, 1) := by decide +kernel
theorem dX5_takeNumber_23 : decode cX5_takeNumber 23 = .ok (.aload_n 0, 1) := by decide +kernel
theorem dX5_takeNumber_24 : decode cX5_takeNumber 24 = .ok (.getfield 48, 3) := by decide +kernel
theorem dX5_takeNumber_27 : decode cX5_takeNumber 27 = .ok (.ifCond .eq 21, 3) := by decide +kernel
theorem dX5_takeNumber_30 : decode cX5_takeNumber 30 = .ok (.aload_n 0, 1) := by decide +kernel
theorem dX5_takeNumber_31 : decode cX5_takeNumber 31 = .ok (.getfield 48, 3) := by decide +kernel
theorem dX5_takeNumber_34 : decode cX5_takeNumber 34 = .ok (.bipush 9, 2) := by decide +kernel
theorem dX5_takeNumber_36 : decode cX5_takeNumber 36 = .ok (.if_icmp .eq 12, 3) := by decide +kernel
theorem dX5_takeNumber_39 : decode cX5_takeNumber 39 = .ok (.aload_n 0, 1) := by decide +kernel
theorem dX5_takeNumber_40 : decode cX5_takeNumber 40 = .ok (.getfield 48, 3) := by decide +kernel
theorem dX5_takeNumber_43 : decode cX5_takeNumber 43 = .ok (.bipush 10, 2) := by decide +kernel
theorem dX5_takeNumber_45 : decode cX5_takeNumber 45 = .ok (.if_icmp .ne 7, 3) := by decide +kernel
theorem dX5_takeNumber_48 : decode cX5_takeNumber 48 = .ok (.iconst 1, 1) := by decide +kernel
theorem dX5_takeNumber_49 : decode cX5_takeNumber 49 = .ok (.goto 4, 3) := by decide +kernel
theorem dX5_takeNumber_52 : decode cX5_takeNumber 52 = .ok (.iconst 0, 1) := by decide +kernel
theorem dX5_takeNumber_53 : decode cX5_takeNumber 53 = .ok (.istore 4, 2) := by decide +kernel
theorem dX5_takeNumber_55 : decode cX5_takeNumber 55 = .ok (.iload_n 3, 1) := by decide +kernel
theorem dX5_takeNumber_56 : decode cX5_takeNumber 56 = .ok (.ifCond .ne 10, 3) := by decide +kernel
theorem dX5_takeNumber_59 : decode cX5_takeNumber 59 = .ok (.iload 4, 2) := by decide +kernel
theorem dX5_takeNumber_61 : decode cX5_takeNumber 61 = .ok (.ifCond .ne 5, 3) := by decide +kernel
theorem dX5_takeNumber_64 : decode cX5_takeNumber 64 = .ok (.iconst 1, 1) := by decide +kernel
theorem dX5_takeNumber_65 : decode cX5_takeNumber 65 = .ok (.ireturn, 1) := by decide +kernel
theorem dX5_takeNumber_66 : decode cX5_takeNumber 66 = .ok (.iload_n 2, 1) := by decide +kernel
theorem dX5_takeNumber_67 : decode cX5_takeNumber 67 = .ok (.iload_n 1, 1) := by decide +kernel
theorem dX5_takeNumber_68 : decode cX5_takeNumber 68 = .ok (.isub, 1) := by decide +kernel
theorem dX5_takeNumber_69 : decode cX5_takeNumber 69 = .ok (.iconst 2, 1) := by decide +kernel
theorem dX5_takeNumber_70 : decode cX5_takeNumber 70 = .ok (.if_icmp .le 5, 3) := by decide +kernel
theorem dX5_takeNumber_73 : decode cX5_takeNumber 73 = .ok (.iconst 2, 1) := by decide +kernel
theorem dX5_takeNumber_74 : decode cX5_takeNumber 74 = .ok (.ireturn, 1) := by decide +kernel
theorem dX5_takeNumber_75 : decode cX5_takeNumber 75 = .ok (.aload_n 0, 1) := by decide +kernel
theorem dX5_takeNumber_76 : decode cX5_takeNumber 76 = .ok (.iload_n 1, 1) := by decide +kernel
theorem dX5_takeNumber_77 : decode cX5_takeNumber 77 = .ok (.invokevirtual 86, 3) := by decide +kernel
theorem dX5_takeNumber_80 : decode cX5_takeNumber 80 = .ok (.bipush 48, 2) := by decide +kernel
theorem dX5_takeNumber_82 : decode cX5_takeNumber 82 = .ok (.isub, 1) := by decide +kernel
theorem dX5_takeNumber_83 : decode cX5_takeNumber 83 = .ok (.istore 5, 2) := by decide +kernel
theorem dX5_takeNumber_85 : decode cX5_takeNumber 85 = .ok (.iload_n 2, 1) := by decide +kernel
theorem dX5_takeNumber_86 : decode cX5_takeNumber 86 = .ok (.iload_n 1, 1) := by decide +kernel
theorem dX5_takeNumber_87 : decode cX5_takeNumber 87 = .ok (.isub, 1) := by decide +kernel
theorem dX5_takeNumber_88 : decode cX5_takeNumber 88 = .ok (.iconst 2, 1) := by decide +kernel
theorem dX5_takeNumber_89 : decode cX5_takeNumber 89 = .ok (.if_icmp .ne 21, 3) := by decide +kernel
theorem dX5_takeNumber_92 : decode cX5_takeNumber 92 = .ok (.bipush 10, 2) := by decide +kernel
theorem dX5_takeNumber_94 : decode cX5_takeNumber 94 = .ok (.iload 5, 2) := by decide +kernel
theorem dX5_takeNumber_96 : decode cX5_takeNumber 96 = .ok (.imul, 1) := by decide +kernel
theorem dX5_takeNumber_97 : decode cX5_takeNumber 97 = .ok (.aload_n 0, 1) := by decide +kernel
theorem dX5_takeNumber_98 : decode cX5_takeNumber 98 = .ok (.iload_n 1, 1) := by decide +kernel
theorem dX5_takeNumber_99 : decode cX5_takeNumber 99 = .ok (.iconst 1, 1) := by decide +kernel
theorem dX5_takeNumber_100 : decode cX5_takeNumber 100 = .ok (.iadd, 1) := by decide +kernel
theorem dX5_takeNumber_101 : decode cX5_takeNumber 101 = .ok (.invokevirtual 86, 3) := by decide +kernel
theorem dX5_takeNumber_104 : decode cX5_takeNumber 104 = .ok (.iadd, 1) := by decide +kernel
theorem dX5_takeNumber_105 : decode cX5_takeNumber 105 = .ok (.bipush 48, 2) := by decide +kernel
theorem dX5_takeNumber_107 : decode cX5_takeNumber 107 = .ok (.isub, 1) := by decide +kernel
theorem dX5_takeNumber_108 : decode cX5_takeNumber 108 = .ok (.istore 5, 2) := by decide +kernel
theorem dX5_takeNumber_110 : decode cX5_takeNumber 110 = .ok (.iload_n 3, 1) := by decide +kernel
theorem dX5_takeNumber_111 : decode cX5_takeNumber 111 = .ok (.ifCond .eq 12, 3) := by decide +kernel
theorem dX5_takeNumber_114 : decode cX5_takeNumber 114 = .ok (.iload 5, 2) := by decide +kernel
theorem dX5_takeNumber_116 : decode cX5_takeNumber 116 = .ok (.bipush 10, 2) := by decide +kernel
theorem dX5_takeNumber_118 : decode cX5_takeNumber 118 = .ok (.if_icmp .lt 5, 3) := by decide +kernel
theorem dX5_takeNumber_121 : decode cX5_takeNumber 121 = .ok (.iconst 2, 1) := by decide +kernel
theorem dX5_takeNumber_122 : decode cX5_takeNumber 122 = .ok (.ireturn, 1) := by decide +kernel
theorem dX5_takeNumber_123 : decode cX5_takeNumber 123 = .ok (.iload_n 3, 1) := by decide +kernel
theorem dX5_takeNumber_124 : decode cX5_takeNumber 124 = .ok (.ifCond .eq 14, 3) := by decide +kernel
theorem dX5_takeNumber_127 : decode cX5_takeNumber 127 = .ok (.aload_n 0, 1) := by decide +kernel
theorem dX5_takeNumber_128 : decode cX5_takeNumber 128 = .ok (.iload 5, 2) := by decide +kernel
theorem dX5_takeNumber_130 : decode cX5_takeNumber 130 = .ok (.invokevirtual 99, 3) := by decide +kernel
theorem dX5_takeNumber_133 : decode cX5_takeNumber 133 = .ok (.ifCond .eq 5, 3) := by decide +kernel
theorem dX5_takeNumber_136 : decode cX5_takeNumber 136 = .ok (.iconst 3, 1) := by decide +kernel
theorem dX5_takeNumber_137 : decode cX5_takeNumber 137 = .ok (.ireturn, 1) := by decide +kernel
theorem dX5_takeNumber_138 : decode cX5_takeNumber 138 = .ok (.iload 4, 2) := by decide +kernel
theorem dX5_takeNumber_140 : decode cX5_takeNumber 140 = .ok (.ifCond .eq 17, 3) := by decide +kernel
theorem dX5_takeNumber_143 : decode cX5_takeNumber 143 = .ok (.aload_n 0, 1) := by decide +kernel
theorem dX5_takeNumber_144 : decode cX5_takeNumber 144 = .ok (.getfield 29, 3) := by decide +kernel
theorem dX5_takeNumber_147 : decode cX5_takeNumber 147 = .ok (.getfield 102, 3) := by decide +kernel
theorem dX5_takeNumber_150 : decode cX5_takeNumber 150 = .ok (.bipush 40, 2) := by decide +kernel
theorem dX5_takeNumber_152 : decode cX5_takeNumber 152 = .ok (.if_icmp .lt 5, 3) := by decide +kernel
theorem dX5_takeNumber_155 : decode cX5_takeNumber 155 = .ok (.iconst 4, 1) := by decide +kernel
theorem dX5_takeNumber_156 : decode cX5_takeNumber 156 = .ok (.ireturn, 1) := by decide +kernel
theorem dX5_takeNumber_157 : decode cX5_takeNumber 157 = .ok (.aload_n 0, 1) := by decide +kernel
theorem dX5_takeNumber_158 : decode cX5_takeNumber 158 = .ok (.getfield 29, 3) := by decide +kernel
theorem dX5_takeNumber_161 : decode cX5_takeNumber 161 = .ok (.iload 5, 2) := by decide +kernel
theorem dX5_takeNumber_163 : decode cX5_takeNumber 163 = .ok (.invokevirtual 105, 3) := by decide +kernel
theorem dX5_takeNumber_166 : decode cX5_takeNumber 166 = .ok (.iload_n 3, 1) := by decide +kernel
theorem dX5_takeNumber_167 : decode cX5_takeNumber 167 = .ok (.ifCond .eq 12, 3) := by decide +kernel
theorem dX5_takeNumber_170 : decode cX5_takeNumber 170 = .ok (.aload_n 0, 1) := by decide +kernel
theorem dX5_takeNumber_171 : decode cX5_takeNumber 171 = .ok (.iload 5, 2) := by decide +kernel
theorem dX5_takeNumber_173 : decode cX5_takeNumber 173 = .ok (.invokevirtual 109, 3) := by decide +kernel
theorem dX5_takeNumber_176 : decode cX5_takeNumber 176 = .ok (.goto 9, 3) := by decide +kernel
theorem dX5_takeNumber_179 : decode cX5_takeNumber 179 = .ok (.aload_n 0, 1) := by decide +kernel
theorem dX5_takeNumber_180 : decode cX5_takeNumber 180 = .ok (.iload 5, 2) := by decide +kernel
theorem dX5_takeNumber_182 : decode cX5_takeNumber 182 = .ok (.invokevirtual 112, 3) := by decide +kernel
theorem dX5_takeNumber_185 : decode cX5_takeNumber 185 = .ok (.iconst 0, 1) := by decide +kernel
theorem dX5_takeNumber_186 : decode cX5_takeNumber 186 = .ok (.ireturn, 1) := by decide +kernel
theorem dX5_isToldAlready_0 : decode cX5_isToldAlready 0 = .ok (.aload_n 0, 1) := by decide +kernel
theorem dX5_isToldAlready_1 : decode cX5_isToldAlready 1 = .ok (.getfield 48, 3) := by decide +kernel
theorem dX5_isToldAlready_4 : decode cX5_isToldAlready 4 = .ok (.bipush 7, 2) := by decide +kernel
theorem dX5_isToldAlready_6 : decode cX5_isToldAlready 6 = .ok (.if_icmp .ne 21, 3) := by decide +kernel
theorem dX5_isToldAlready_9 : decode cX5_isToldAlready 9 = .ok (.aload_n 0, 1) := by decide +kernel
theorem dX5_isToldAlready_10 : decode cX5_isToldAlready 10 = .ok (.getfield 23, 3) := by decide +kernel
theorem dX5_isToldAlready_13 : decode cX5_isToldAlready 13 = .ok (.iload_n 1, 1) := by decide +kernel
theorem dX5_isToldAlready_14 : decode cX5_isToldAlready 14 = .ok (.iaload, 1) := by decide +kernel
theorem dX5_isToldAlready_15 : decode cX5_isToldAlready 15 = .ok (.iconst (-1), 1) := by decide +kernel
theorem dX5_isToldAlready_16 : decode cX5_isToldAlready 16 = .ok (.if_icmp .eq 7, 3) := by decide +kernel
theorem dX5_isToldAlready_19 : decode cX5_isToldAlready 19 = .ok (.iconst 1, 1) := by decide +kernel
theorem dX5_isToldAlready_20 : decode cX5_isToldAlready 20 = .ok (.goto 23, 3) := by decide +kernel
theorem dX5_isToldAlready_23 : decode cX5_isToldAlready 23 = .ok (.iconst 0, 1) := by decide +kernel
theorem dX5_isToldAlready_24 : decode cX5_isToldAlready 24 = .ok (.goto 19, 3) := by decide +kernel
theorem dX5_isToldAlready_27 : decode cX5_isToldAlready 27 = .ok (.aload_n 0, 1) := by decide +kernel
theorem dX5_isToldAlready_28 : decode cX5_isToldAlready 28 = .ok (.getfield 58, 3) := by decide +kernel
theorem dX5_isToldAlready_31 : decode cX5_isToldAlready 31 = .ok (.iload_n 1, 1) := by decide +kernel
theorem dX5_isToldAlready_32 : decode cX5_isToldAlready 32 = .ok (.ishr, 1) := by decide +kernel
theorem dX5_isToldAlready_33 : decode cX5_isToldAlready 33 = .ok (.iconst 1, 1) := by decide +kernel
theorem dX5_isToldAlready_34 : decode cX5_isToldAlready 34 = .ok (.iand, 1) := by decide +kernel
theorem dX5_isToldAlready_35 : decode cX5_isToldAlready 35 = .ok (.ifCond .eq 7, 3) := by decide +kernel
theorem dX5_isToldAlready_38 : decode cX5_isToldAlready 38 = .ok (.iconst 1, 1) := by decide +kernel
theorem dX5_isToldAlready_39 : decode cX5_isToldAlready 39 = .ok (.goto 4, 3) := by decide +kernel
theorem dX5_isToldAlready_42 : decode cX5_isToldAlready 42 = .ok (.iconst 0, 1) := by decide +kernel
theorem dX5_isToldAlready_43 : decode cX5_isToldAlready 43 = .ok (.ireturn, 1) := by decide +kernel
theorem dX5_takeMark_0 : decode cX5_takeMark 0 = .ok (.aload_n 0, 1) := by decide +kernel
theorem dX5_takeMark_1 : decode cX5_takeMark 1 = .ok (.getfield 48, 3) := by decide +kernel
theorem dX5_takeMark_4 : decode cX5_takeMark 4 = .ok (.tableswitch 52 5 7 #[28, 36, 44], 28) := by decide +kernel
theorem dX5_takeMark_32 : decode cX5_takeMark 32 = .ok (.aload_n 0, 1) := by decide +kernel
theorem dX5_takeMark_33 : decode cX5_takeMark 33 = .ok (.iload_n 1, 1) := by decide +kernel
theorem dX5_takeMark_34 : decode cX5_takeMark 34 = .ok (.invokevirtual 115, 3) := by decide +kernel
theorem dX5_takeMark_37 : decode cX5_takeMark 37 = .ok (.goto 24, 3) := by decide +kernel
theorem dX5_takeMark_40 : decode cX5_takeMark 40 = .ok (.aload_n 0, 1) := by decide +kernel
theorem dX5_takeMark_41 : decode cX5_takeMark 41 = .ok (.iload_n 1, 1) := by decide +kernel
theorem dX5_takeMark_42 : decode cX5_takeMark 42 = .ok (.invokevirtual 118, 3) := by decide +kernel
theorem dX5_takeMark_45 : decode cX5_takeMark 45 = .ok (.goto 16, 3) := by decide +kernel
theorem dX5_takeMark_48 : decode cX5_takeMark 48 = .ok (.aload_n 0, 1) := by decide +kernel
theorem dX5_takeMark_49 : decode cX5_takeMark 49 = .ok (.iload_n 1, 1) := by decide +kernel
theorem dX5_takeMark_50 : decode cX5_takeMark 50 = .ok (.invokevirtual 121, 3) := by decide +kernel
theorem dX5_takeMark_53 : decode cX5_takeMark 53 = .ok (.goto 8, 3) := by decide +kernel
theorem dX5_takeMark_56 : decode cX5_takeMark 56 = .ok (.aload_n 0, 1) := by decide +kernel
theorem dX5_takeMark_57 : decode cX5_takeMark 57 = .ok (.iload_n 1, 1) := by decide +kernel
theorem dX5_takeMark_58 : decode cX5_takeMark 58 = .ok (.invokevirtual 124, 3) := by decide +kernel
theorem dX5_takeMark_61 : decode cX5_takeMark 61 = .ok (.return_, 1) := by decide +kernel
theorem dX5_takeBracketMark_0 : decode cX5_takeBracketMark 0 = .ok (.aload_n 0, 1) := by decide +kernel
theorem dX5_takeBracketMark_1 : decode cX5_takeBracketMark 1 = .ok (.invokevirtual 127, 3) := by decide +kernel
theorem dX5_takeBracketMark_4 : decode cX5_takeBracketMark 4 = .ok (.istore_n 2, 1) := by decide +kernel
theorem dX5_takeBracketMark_5 : decode cX5_takeBracketMark 5 = .ok (.aload_n 0, 1) := by decide +kernel
theorem dX5_takeBracketMark_6 : decode cX5_takeBracketMark 6 = .ok (.getfield 29, 3) := by decide +kernel
theorem dX5_takeBracketMark_9 : decode cX5_takeBracketMark 9 = .ok (.getfield 130, 3) := by decide +kernel
theorem dX5_takeBracketMark_12 : decode cX5_takeBracketMark 12 = .ok (.iload_n 2, 1) := by decide +kernel
theorem dX5_takeBracketMark_13 : decode cX5_takeBracketMark 13 = .ok (.iaload, 1) := by decide +kernel
theorem dX5_takeBracketMark_14 : decode cX5_takeBracketMark 14 = .ok (.istore_n 3, 1) := by decide +kernel
theorem dX5_takeBracketMark_15 : decode cX5_takeBracketMark 15 = .ok (.aload_n 0, 1) := by decide +kernel
theorem dX5_takeBracketMark_16 : decode cX5_takeBracketMark 16 = .ok (.getfield 29, 3) := by decide +kernel
theorem dX5_takeBracketMark_19 : decode cX5_takeBracketMark 19 = .ok (.getfield 133, 3) := by decide +kernel
theorem dX5_takeBracketMark_22 : decode cX5_takeBracketMark 22 = .ok (.iload_n 2, 1) := by decide +kernel
theorem dX5_takeBracketMark_23 : decode cX5_takeBracketMark 23 = .ok (.iload_n 1, 1) := by decide +kernel
theorem dX5_takeBracketMark_24 : decode cX5_takeBracketMark 24 = .ok (.iastore, 1) := by decide +kernel
theorem dX5_takeBracketMark_25 : decode cX5_takeBracketMark 25 = .ok (.aload_n 0, 1) := by decide +kernel
theorem dX5_takeBracketMark_26 : decode cX5_takeBracketMark 26 = .ok (.getfield 29, 3) := by decide +kernel
theorem dX5_takeBracketMark_29 : decode cX5_takeBracketMark 29 = .ok (.getfield 136, 3) := by decide +kernel
theorem dX5_takeBracketMark_32 : decode cX5_takeBracketMark 32 = .ok (.iload_n 1, 1) := by decide +kernel
theorem dX5_takeBracketMark_33 : decode cX5_takeBracketMark 33 = .ok (.iload_n 2, 1) := by decide +kernel
theorem dX5_takeBracketMark_34 : decode cX5_takeBracketMark 34 = .ok (.iastore, 1) := by decide +kernel
theorem dX5_takeBracketMark_35 : decode cX5_takeBracketMark 35 = .ok (.iload_n 3, 1) := by decide +kernel
theorem dX5_takeBracketMark_36 : decode cX5_takeBracketMark 36 = .ok (.bipush 123, 2) := by decide +kernel
theorem dX5_takeBracketMark_38 : decode cX5_takeBracketMark 38 = .ok (.if_icmp .ne 7, 3) := by decide +kernel
theorem dX5_takeBracketMark_41 : decode cX5_takeBracketMark 41 = .ok (.iconst 0, 1) := by decide +kernel
theorem dX5_takeBracketMark_42 : decode cX5_takeBracketMark 42 = .ok (.goto 14, 3) := by decide +kernel
theorem dX5_takeBracketMark_45 : decode cX5_takeBracketMark 45 = .ok (.iload_n 3, 1) := by decide +kernel
theorem dX5_takeBracketMark_46 : decode cX5_takeBracketMark 46 = .ok (.bipush 91, 2) := by decide +kernel
theorem dX5_takeBracketMark_48 : decode cX5_takeBracketMark 48 = .ok (.if_icmp .ne 7, 3) := by decide +kernel
theorem dX5_takeBracketMark_51 : decode cX5_takeBracketMark 51 = .ok (.iconst 1, 1) := by decide +kernel
theorem dX5_takeBracketMark_52 : decode cX5_takeBracketMark 52 = .ok (.goto 4, 3) := by decide +kernel
theorem dX5_takeBracketMark_55 : decode cX5_takeBracketMark 55 = .ok (.iconst 3, 1) := by decide +kernel
theorem dX5_takeBracketMark_56 : decode cX5_takeBracketMark 56 = .ok (.istore 4, 2) := by decide +kernel
theorem dX5_takeBracketMark_58 : decode cX5_takeBracketMark 58 = .ok (.aload_n 0, 1) := by decide +kernel
theorem dX5_takeBracketMark_59 : decode cX5_takeBracketMark 59 = .ok (.getfield 29, 3) := by decide +kernel
theorem dX5_takeBracketMark_62 : decode cX5_takeBracketMark 62 = .ok (.iload_n 1, 1) := by decide +kernel
theorem dX5_takeBracketMark_63 : decode cX5_takeBracketMark 63 = .ok (.iload 4, 2) := by decide +kernel
theorem dX5_takeBracketMark_65 : decode cX5_takeBracketMark 65 = .ok (.aload_n 0, 1) := by decide +kernel
theorem dX5_takeBracketMark_66 : decode cX5_takeBracketMark 66 = .ok (.getfield 51, 3) := by decide +kernel
theorem dX5_takeBracketMark_69 : decode cX5_takeBracketMark 69 = .ok (.iconst 1, 1) := by decide +kernel
theorem dX5_takeBracketMark_70 : decode cX5_takeBracketMark 70 = .ok (.isub, 1) := by decide +kernel
theorem dX5_takeBracketMark_71 : decode cX5_takeBracketMark 71 = .ok (.aload_n 0, 1) := by decide +kernel
theorem dX5_takeBracketMark_72 : decode cX5_takeBracketMark 72 = .ok (.aload_n 0, 1) := by decide +kernel
theorem dX5_takeBracketMark_73 : decode cX5_takeBracketMark 73 = .ok (.getfield 51, 3) := by decide +kernel
theorem dX5_takeBracketMark_76 : decode cX5_takeBracketMark 76 = .ok (.iconst 1, 1) := by decide +kernel
theorem dX5_takeBracketMark_77 : decode cX5_takeBracketMark 77 = .ok (.isub, 1) := by decide +kernel
theorem dX5_takeBracketMark_78 : decode cX5_takeBracketMark 78 = .ok (.invokevirtual 139, 3) := by decide +kernel
theorem dX5_takeBracketMark_81 : decode cX5_takeBracketMark 81 = .ok (.invokevirtual 142, 3) := by decide +kernel
theorem dX5_takeBracketMark_84 : decode cX5_takeBracketMark 84 = .ok (.iload_n 3, 1) := by decide +kernel
theorem dX5_takeBracketMark_85 : decode cX5_takeBracketMark 85 = .ok (.bipush 60, 2) := by decide +kernel
theorem dX5_takeBracketMark_87 : decode cX5_takeBracketMark 87 = .ok (.if_icmp .ne 13, 3) := by decide +kernel
theorem dX5_takeBracketMark_90 : decode cX5_takeBracketMark 90 = .ok (.aload_n 0, 1) := by decide +kernel
theorem dX5_takeBracketMark_91 : decode cX5_takeBracketMark 91 = .ok (.getfield 26, 3) := by decide +kernel
theorem dX5_takeBracketMark_94 : decode cX5_takeBracketMark 94 = .ok (.iload_n 1, 1) := by decide +kernel
theorem dX5_takeBracketMark_95 : decode cX5_takeBracketMark 95 = .ok (.aload_n 0, 1) := by decide +kernel
theorem dX5_takeBracketMark_96 : decode cX5_takeBracketMark 96 = .ok (.getfield 77, 3) := by decide +kernel
theorem dX5_takeBracketMark_99 : decode cX5_takeBracketMark 99 = .ok (.iastore, 1) := by decide +kernel
theorem dX5_takeBracketMark_100 : decode cX5_takeBracketMark 100 = .ok (.aload_n 0, 1) := by decide +kernel
theorem dX5_takeBracketMark_101 : decode cX5_takeBracketMark 101 = .ok (.dup, 1) := by decide +kernel
theorem dX5_takeBracketMark_102 : decode cX5_takeBracketMark 102 = .ok (.getfield 58, 3) := by decide +kernel
theorem dX5_takeBracketMark_105 : decode cX5_takeBracketMark 105 = .ok (.iconst 1, 1) := by decide +kernel
theorem dX5_takeBracketMark_106 : decode cX5_takeBracketMark 106 = .ok (.iload_n 1, 1) := by decide +kernel
theorem dX5_takeBracketMark_107 : decode cX5_takeBracketMark 107 = .ok (.ishl, 1) := by decide +kernel
theorem dX5_takeBracketMark_108 : decode cX5_takeBracketMark 108 = .ok (.ior, 1) := by decide +kernel
theorem dX5_takeBracketMark_109 : decode cX5_takeBracketMark 109 = .ok (.putfield 58, 3) := by decide +kernel
theorem dX5_takeBracketMark_112 : decode cX5_takeBracketMark 112 = .ok (.aload_n 0, 1) := by decide +kernel
theorem dX5_takeBracketMark_113 : decode cX5_takeBracketMark 113 = .ok (.iload_n 3, 1) := by decide +kernel
theorem dX5_takeBracketMark_114 : decode cX5_takeBracketMark 114 = .ok (.bipush 91, 2) := by decide +kernel
theorem dX5_takeBracketMark_116 : decode cX5_takeBracketMark 116 = .ok (.if_icmp .ne 7, 3) := by decide +kernel
theorem dX5_takeBracketMark_119 : decode cX5_takeBracketMark 119 = .ok (.iconst 2, 1) := by decide +kernel
theorem dX5_takeBracketMark_120 : decode cX5_takeBracketMark 120 = .ok (.goto 4, 3) := by decide +kernel
theorem dX5_takeBracketMark_123 : decode cX5_takeBracketMark 123 = .ok (.iconst 1, 1) := by decide +kernel
theorem dX5_takeBracketMark_124 : decode cX5_takeBracketMark 124 = .ok (.putfield 48, 3) := by decide +kernel
theorem dX5_takeBracketMark_127 : decode cX5_takeBracketMark 127 = .ok (.return_, 1) := by decide +kernel
theorem dX5_takeStandMark_0 : decode cX5_takeStandMark 0 = .ok (.aload_n 0, 1) := by decide +kernel
theorem dX5_takeStandMark_1 : decode cX5_takeStandMark 1 = .ok (.getfield 29, 3) := by decide +kernel
theorem dX5_takeStandMark_4 : decode cX5_takeStandMark 4 = .ok (.getfield 133, 3) := by decide +kernel
theorem dX5_takeStandMark_7 : decode cX5_takeStandMark 7 = .ok (.aload_n 0, 1) := by decide +kernel
theorem dX5_takeStandMark_8 : decode cX5_takeStandMark 8 = .ok (.invokevirtual 127, 3) := by decide +kernel
theorem dX5_takeStandMark_11 : decode cX5_takeStandMark 11 = .ok (.iaload, 1) := by decide +kernel
theorem dX5_takeStandMark_12 : decode cX5_takeStandMark 12 = .ok (.istore_n 2, 1) := by decide +kernel
theorem dX5_takeStandMark_13 : decode cX5_takeStandMark 13 = .ok (.iload_n 2, 1) := by decide +kernel
theorem dX5_takeStandMark_14 : decode cX5_takeStandMark 14 = .ok (.ifCond .lt 42, 3) := by decide +kernel
theorem dX5_takeStandMark_17 : decode cX5_takeStandMark 17 = .ok (.aload_n 0, 1) := by decide +kernel
theorem dX5_takeStandMark_18 : decode cX5_takeStandMark 18 = .ok (.getfield 29, 3) := by decide +kernel
theorem dX5_takeStandMark_21 : decode cX5_takeStandMark 21 = .ok (.getfield 146, 3) := by decide +kernel
theorem dX5_takeStandMark_24 : decode cX5_takeStandMark 24 = .ok (.iload_n 2, 1) := by decide +kernel
theorem dX5_takeStandMark_25 : decode cX5_takeStandMark 25 = .ok (.iload_n 1, 1) := by decide +kernel
theorem dX5_takeStandMark_26 : decode cX5_takeStandMark 26 = .ok (.iastore, 1) := by decide +kernel
theorem dX5_takeStandMark_27 : decode cX5_takeStandMark 27 = .ok (.aload_n 0, 1) := by decide +kernel
theorem dX5_takeStandMark_28 : decode cX5_takeStandMark 28 = .ok (.getfield 29, 3) := by decide +kernel
theorem dX5_takeStandMark_31 : decode cX5_takeStandMark 31 = .ok (.iload_n 1, 1) := by decide +kernel
theorem dX5_takeStandMark_32 : decode cX5_takeStandMark 32 = .ok (.iconst 2, 1) := by decide +kernel
theorem dX5_takeStandMark_33 : decode cX5_takeStandMark 33 = .ok (.aload_n 0, 1) := by decide +kernel
theorem dX5_takeStandMark_34 : decode cX5_takeStandMark 34 = .ok (.getfield 51, 3) := by decide +kernel
theorem dX5_takeStandMark_37 : decode cX5_takeStandMark 37 = .ok (.iconst 1, 1) := by decide +kernel
theorem dX5_takeStandMark_38 : decode cX5_takeStandMark 38 = .ok (.isub, 1) := by decide +kernel
theorem dX5_takeStandMark_39 : decode cX5_takeStandMark 39 = .ok (.aload_n 0, 1) := by decide +kernel
theorem dX5_takeStandMark_40 : decode cX5_takeStandMark 40 = .ok (.aload_n 0, 1) := by decide +kernel
theorem dX5_takeStandMark_41 : decode cX5_takeStandMark 41 = .ok (.getfield 51, 3) := by decide +kernel
theorem dX5_takeStandMark_44 : decode cX5_takeStandMark 44 = .ok (.iconst 1, 1) := by decide +kernel
theorem dX5_takeStandMark_45 : decode cX5_takeStandMark 45 = .ok (.isub, 1) := by decide +kernel
theorem dX5_takeStandMark_46 : decode cX5_takeStandMark 46 = .ok (.invokevirtual 139, 3) := by decide +kernel
theorem dX5_takeStandMark_49 : decode cX5_takeStandMark 49 = .ok (.iconst 1, 1) := by decide +kernel
theorem dX5_takeStandMark_50 : decode cX5_takeStandMark 50 = .ok (.iload_n 2, 1) := by decide +kernel
theorem dX5_takeStandMark_51 : decode cX5_takeStandMark 51 = .ok (.ishl, 1) := by decide +kernel
theorem dX5_takeStandMark_52 : decode cX5_takeStandMark 52 = .ok (.ior, 1) := by decide +kernel
theorem dX5_takeStandMark_53 : decode cX5_takeStandMark 53 = .ok (.invokevirtual 142, 3) := by decide +kernel
theorem dX5_takeStandMark_56 : decode cX5_takeStandMark 56 = .ok (.aload_n 0, 1) := by decide +kernel
theorem dX5_takeStandMark_57 : decode cX5_takeStandMark 57 = .ok (.dup, 1) := by decide +kernel
theorem dX5_takeStandMark_58 : decode cX5_takeStandMark 58 = .ok (.getfield 58, 3) := by decide +kernel
theorem dX5_takeStandMark_61 : decode cX5_takeStandMark 61 = .ok (.iconst 1, 1) := by decide +kernel
theorem dX5_takeStandMark_62 : decode cX5_takeStandMark 62 = .ok (.iload_n 1, 1) := by decide +kernel
theorem dX5_takeStandMark_63 : decode cX5_takeStandMark 63 = .ok (.ishl, 1) := by decide +kernel
theorem dX5_takeStandMark_64 : decode cX5_takeStandMark 64 = .ok (.ior, 1) := by decide +kernel
theorem dX5_takeStandMark_65 : decode cX5_takeStandMark 65 = .ok (.putfield 58, 3) := by decide +kernel
theorem dX5_takeStandMark_68 : decode cX5_takeStandMark 68 = .ok (.aload_n 0, 1) := by decide +kernel
theorem dX5_takeStandMark_69 : decode cX5_takeStandMark 69 = .ok (.iconst 1, 1) := by decide +kernel
theorem dX5_takeStandMark_70 : decode cX5_takeStandMark 70 = .ok (.putfield 48, 3) := by decide +kernel
theorem dX5_takeStandMark_73 : decode cX5_takeStandMark 73 = .ok (.return_, 1) := by decide +kernel
theorem dX5_takeStarMark_0 : decode cX5_takeStarMark 0 = .ok (.iconst 0, 1) := by decide +kernel
theorem dX5_takeStarMark_1 : decode cX5_takeStarMark 1 = .ok (.aload_n 0, 1) := by decide +kernel
theorem dX5_takeStarMark_2 : decode cX5_takeStarMark 2 = .ok (.getfield 29, 3) := by decide +kernel
theorem dX5_takeStarMark_5 : decode cX5_takeStarMark 5 = .ok (.getfield 149, 3) := by decide +kernel
theorem dX5_takeStarMark_8 : decode cX5_takeStarMark 8 = .ok (.iconst 1, 1) := by decide +kernel
theorem dX5_takeStarMark_9 : decode cX5_takeStarMark 9 = .ok (.isub, 1) := by decide +kernel
theorem dX5_takeStarMark_10 : decode cX5_takeStarMark 10 = .ok (.invokestatic 152, 3) := by decide +kernel
theorem dX5_takeStarMark_13 : decode cX5_takeStarMark 13 = .ok (.istore_n 2, 1) := by decide +kernel
theorem dX5_takeStarMark_14 : decode cX5_takeStarMark 14 = .ok (.aload_n 0, 1) := by decide +kernel
theorem dX5_takeStarMark_15 : decode cX5_takeStarMark 15 = .ok (.getfield 29, 3) := by decide +kernel
theorem dX5_takeStarMark_18 : decode cX5_takeStarMark 18 = .ok (.getfield 133, 3) := by decide +kernel
theorem dX5_takeStarMark_21 : decode cX5_takeStarMark 21 = .ok (.iload_n 2, 1) := by decide +kernel
theorem dX5_takeStarMark_22 : decode cX5_takeStarMark 22 = .ok (.iload_n 1, 1) := by decide +kernel
theorem dX5_takeStarMark_23 : decode cX5_takeStarMark 23 = .ok (.iastore, 1) := by decide +kernel
theorem dX5_takeStarMark_24 : decode cX5_takeStarMark 24 = .ok (.aload_n 0, 1) := by decide +kernel
theorem dX5_takeStarMark_25 : decode cX5_takeStarMark 25 = .ok (.getfield 29, 3) := by decide +kernel
theorem dX5_takeStarMark_28 : decode cX5_takeStarMark 28 = .ok (.getfield 157, 3) := by decide +kernel
theorem dX5_takeStarMark_31 : decode cX5_takeStarMark 31 = .ok (.iload_n 1, 1) := by decide +kernel
theorem dX5_takeStarMark_32 : decode cX5_takeStarMark 32 = .ok (.iload_n 2, 1) := by decide +kernel
theorem dX5_takeStarMark_33 : decode cX5_takeStarMark 33 = .ok (.iastore, 1) := by decide +kernel
theorem dX5_takeStarMark_34 : decode cX5_takeStarMark 34 = .ok (.aload_n 0, 1) := by decide +kernel
theorem dX5_takeStarMark_35 : decode cX5_takeStarMark 35 = .ok (.getfield 29, 3) := by decide +kernel
theorem dX5_takeStarMark_38 : decode cX5_takeStarMark 38 = .ok (.getfield 160, 3) := by decide +kernel
theorem dX5_takeStarMark_41 : decode cX5_takeStarMark 41 = .ok (.iload_n 1, 1) := by decide +kernel
theorem dX5_takeStarMark_42 : decode cX5_takeStarMark 42 = .ok (.dup2, 1) := by decide +kernel
theorem dX5_takeStarMark_43 : decode cX5_takeStarMark 43 = .ok (.iaload, 1) := by decide +kernel
theorem dX5_takeStarMark_44 : decode cX5_takeStarMark 44 = .ok (.aload_n 0, 1) := by decide +kernel
theorem dX5_takeStarMark_45 : decode cX5_takeStarMark 45 = .ok (.aload_n 0, 1) := by decide +kernel
theorem dX5_takeStarMark_46 : decode cX5_takeStarMark 46 = .ok (.getfield 51, 3) := by decide +kernel
theorem dX5_takeStarMark_49 : decode cX5_takeStarMark 49 = .ok (.invokevirtual 139, 3) := by decide +kernel
theorem dX5_takeStarMark_52 : decode cX5_takeStarMark 52 = .ok (.ior, 1) := by decide +kernel
theorem dX5_takeStarMark_53 : decode cX5_takeStarMark 53 = .ok (.iastore, 1) := by decide +kernel
theorem dX5_takeStarMark_54 : decode cX5_takeStarMark 54 = .ok (.aload_n 0, 1) := by decide +kernel
theorem dX5_takeStarMark_55 : decode cX5_takeStarMark 55 = .ok (.getfield 23, 3) := by decide +kernel
theorem dX5_takeStarMark_58 : decode cX5_takeStarMark 58 = .ok (.iload_n 1, 1) := by decide +kernel
theorem dX5_takeStarMark_59 : decode cX5_takeStarMark 59 = .ok (.aload_n 0, 1) := by decide +kernel
theorem dX5_takeStarMark_60 : decode cX5_takeStarMark 60 = .ok (.getfield 77, 3) := by decide +kernel
theorem dX5_takeStarMark_63 : decode cX5_takeStarMark 63 = .ok (.iastore, 1) := by decide +kernel
theorem dX5_takeStarMark_64 : decode cX5_takeStarMark 64 = .ok (.aload_n 0, 1) := by decide +kernel
theorem dX5_takeStarMark_65 : decode cX5_takeStarMark 65 = .ok (.iconst 0, 1) := by decide +kernel
theorem dX5_takeStarMark_66 : decode cX5_takeStarMark 66 = .ok (.putfield 48, 3) := by decide +kernel
theorem dX5_takeStarMark_69 : decode cX5_takeStarMark 69 = .ok (.return_, 1) := by decide +kernel
theorem dX5_takeOverMark_0 : decode cX5_takeOverMark 0 = .ok (.aload_n 0, 1) := by decide +kernel
theorem dX5_takeOverMark_1 : decode cX5_takeOverMark 1 = .ok (.getfield 29, 3) := by decide +kernel
theorem dX5_takeOverMark_4 : decode cX5_takeOverMark 4 = .ok (.getfield 133, 3) := by decide +kernel
theorem dX5_takeOverMark_7 : decode cX5_takeOverMark 7 = .ok (.iconst 0, 1) := by decide +kernel
theorem dX5_takeOverMark_8 : decode cX5_takeOverMark 8 = .ok (.aload_n 0, 1) := by decide +kernel
theorem dX5_takeOverMark_9 : decode cX5_takeOverMark 9 = .ok (.getfield 29, 3) := by decide +kernel
theorem dX5_takeOverMark_12 : decode cX5_takeOverMark 12 = .ok (.getfield 149, 3) := by decide +kernel
theorem dX5_takeOverMark_15 : decode cX5_takeOverMark 15 = .ok (.iconst 1, 1) := by decide +kernel
theorem dX5_takeOverMark_16 : decode cX5_takeOverMark 16 = .ok (.isub, 1) := by decide +kernel
theorem dX5_takeOverMark_17 : decode cX5_takeOverMark 17 = .ok (.invokestatic 152, 3) := by decide +kernel
theorem dX5_takeOverMark_20 : decode cX5_takeOverMark 20 = .ok (.iload_n 1, 1) := by decide +kernel
theorem dX5_takeOverMark_21 : decode cX5_takeOverMark 21 = .ok (.iastore, 1) := by decide +kernel
theorem dX5_takeOverMark_22 : decode cX5_takeOverMark 22 = .ok (.aload_n 0, 1) := by decide +kernel
theorem dX5_takeOverMark_23 : decode cX5_takeOverMark 23 = .ok (.getfield 29, 3) := by decide +kernel
theorem dX5_takeOverMark_26 : decode cX5_takeOverMark 26 = .ok (.iload_n 1, 1) := by decide +kernel
theorem dX5_takeOverMark_27 : decode cX5_takeOverMark 27 = .ok (.iconst 4, 1) := by decide +kernel
theorem dX5_takeOverMark_28 : decode cX5_takeOverMark 28 = .ok (.aload_n 0, 1) := by decide +kernel
theorem dX5_takeOverMark_29 : decode cX5_takeOverMark 29 = .ok (.getfield 51, 3) := by decide +kernel
theorem dX5_takeOverMark_32 : decode cX5_takeOverMark 32 = .ok (.aload_n 0, 1) := by decide +kernel
theorem dX5_takeOverMark_33 : decode cX5_takeOverMark 33 = .ok (.aload_n 0, 1) := by decide +kernel
theorem dX5_takeOverMark_34 : decode cX5_takeOverMark 34 = .ok (.getfield 51, 3) := by decide +kernel
theorem dX5_takeOverMark_37 : decode cX5_takeOverMark 37 = .ok (.invokevirtual 139, 3) := by decide +kernel
theorem dX5_takeOverMark_40 : decode cX5_takeOverMark 40 = .ok (.aload_n 0, 1) := by decide +kernel
theorem dX5_takeOverMark_41 : decode cX5_takeOverMark 41 = .ok (.getfield 74, 3) := by decide +kernel
theorem dX5_takeOverMark_44 : decode cX5_takeOverMark 44 = .ok (.ifCond .ge 7, 3) := by decide +kernel
theorem dX5_takeOverMark_47 : decode cX5_takeOverMark 47 = .ok (.iconst 0, 1) := by decide +kernel
theorem dX5_takeOverMark_48 : decode cX5_takeOverMark 48 = .ok (.goto 9, 3) := by decide +kernel
theorem dX5_takeOverMark_51 : decode cX5_takeOverMark 51 = .ok (.iconst 1, 1) := by decide +kernel
theorem dX5_takeOverMark_52 : decode cX5_takeOverMark 52 = .ok (.aload_n 0, 1) := by decide +kernel
theorem dX5_takeOverMark_53 : decode cX5_takeOverMark 53 = .ok (.getfield 74, 3) := by decide +kernel
theorem dX5_takeOverMark_56 : decode cX5_takeOverMark 56 = .ok (.ishl, 1) := by decide +kernel
theorem dX5_takeOverMark_57 : decode cX5_takeOverMark 57 = .ok (.ior, 1) := by decide +kernel
theorem dX5_takeOverMark_58 : decode cX5_takeOverMark 58 = .ok (.invokevirtual 142, 3) := by decide +kernel
theorem dX5_takeOverMark_61 : decode cX5_takeOverMark 61 = .ok (.aload_n 0, 1) := by decide +kernel
theorem dX5_takeOverMark_62 : decode cX5_takeOverMark 62 = .ok (.getfield 29, 3) := by decide +kernel
theorem dX5_takeOverMark_65 : decode cX5_takeOverMark 65 = .ok (.getfield 163, 3) := by decide +kernel
theorem dX5_takeOverMark_68 : decode cX5_takeOverMark 68 = .ok (.iload_n 1, 1) := by decide +kernel
theorem dX5_takeOverMark_69 : decode cX5_takeOverMark 69 = .ok (.iconst 1, 1) := by decide +kernel
theorem dX5_takeOverMark_70 : decode cX5_takeOverMark 70 = .ok (.iastore, 1) := by decide +kernel
theorem dX5_takeOverMark_71 : decode cX5_takeOverMark 71 = .ok (.aload_n 0, 1) := by decide +kernel
theorem dX5_takeOverMark_72 : decode cX5_takeOverMark 72 = .ok (.iload_n 1, 1) := by decide +kernel
theorem dX5_takeOverMark_73 : decode cX5_takeOverMark 73 = .ok (.putfield 74, 3) := by decide +kernel
theorem dX5_takeOverMark_76 : decode cX5_takeOverMark 76 = .ok (.aload_n 0, 1) := by decide +kernel
theorem dX5_takeOverMark_77 : decode cX5_takeOverMark 77 = .ok (.dup, 1) := by decide +kernel
theorem dX5_takeOverMark_78 : decode cX5_takeOverMark 78 = .ok (.getfield 58, 3) := by decide +kernel
theorem dX5_takeOverMark_81 : decode cX5_takeOverMark 81 = .ok (.iconst 1, 1) := by decide +kernel
theorem dX5_takeOverMark_82 : decode cX5_takeOverMark 82 = .ok (.iload_n 1, 1) := by decide +kernel
theorem dX5_takeOverMark_83 : decode cX5_takeOverMark 83 = .ok (.ishl, 1) := by decide +kernel
theorem dX5_takeOverMark_84 : decode cX5_takeOverMark 84 = .ok (.ior, 1) := by decide +kernel
theorem dX5_takeOverMark_85 : decode cX5_takeOverMark 85 = .ok (.putfield 58, 3) := by decide +kernel
theorem dX5_takeOverMark_88 : decode cX5_takeOverMark 88 = .ok (.aload_n 0, 1) := by decide +kernel
theorem dX5_takeOverMark_89 : decode cX5_takeOverMark 89 = .ok (.bipush 10, 2) := by decide +kernel
theorem dX5_takeOverMark_91 : decode cX5_takeOverMark 91 = .ok (.putfield 48, 3) := by decide +kernel
theorem dX5_takeOverMark_94 : decode cX5_takeOverMark 94 = .ok (.return_, 1) := by decide +kernel
theorem dX5_takeWord_0 : decode cX5_takeWord 0 = .ok (.aload_n 0, 1) := by decide +kernel
theorem dX5_takeWord_1 : decode cX5_takeWord 1 = .ok (.getfield 29, 3) := by decide +kernel
theorem dX5_takeWord_4 : decode cX5_takeWord 4 = .ok (.dup, 1) := by decide +kernel
theorem dX5_takeWord_5 : decode cX5_takeWord 5 = .ok (.getfield 102, 3) := by decide +kernel
theorem dX5_takeWord_8 : decode cX5_takeWord 8 = .ok (.iconst 1, 1) := by decide +kernel
theorem dX5_takeWord_9 : decode cX5_takeWord 9 = .ok (.iadd, 1) := by decide +kernel
theorem dX5_takeWord_10 : decode cX5_takeWord 10 = .ok (.putfield 102, 3) := by decide +kernel
theorem dX5_takeWord_13 : decode cX5_takeWord 13 = .ok (.iconst 0, 1) := by decide +kernel
theorem dX5_takeWord_14 : decode cX5_takeWord 14 = .ok (.istore_n 2, 1) := by decide +kernel
theorem dX5_takeWord_15 : decode cX5_takeWord 15 = .ok (.iload_n 2, 1) := by decide +kernel
theorem dX5_takeWord_16 : decode cX5_takeWord 16 = .ok (.aload_n 0, 1) := by decide +kernel
theorem dX5_takeWord_17 : decode cX5_takeWord 17 = .ok (.getfield 51, 3) := by decide +kernel
theorem dX5_takeWord_20 : decode cX5_takeWord 20 = .ok (.if_icmp .ge 33, 3) := by decide +kernel
theorem dX5_takeWord_23 : decode cX5_takeWord 23 = .ok (.iload_n 2, 1) := by decide +kernel
theorem dX5_takeWord_24 : decode cX5_takeWord 24 = .ok (.bipush 8, 2) := by decide +kernel
theorem dX5_takeWord_26 : decode cX5_takeWord 26 = .ok (.if_icmp .ge 27, 3) := by decide +kernel
theorem dX5_takeWord_29 : decode cX5_takeWord 29 = .ok (.aload_n 0, 1) := by decide +kernel
theorem dX5_takeWord_30 : decode cX5_takeWord 30 = .ok (.aload_n 0, 1) := by decide +kernel
theorem dX5_takeWord_31 : decode cX5_takeWord 31 = .ok (.getfield 29, 3) := by decide +kernel
theorem dX5_takeWord_34 : decode cX5_takeWord 34 = .ok (.getfield 133, 3) := by decide +kernel
theorem dX5_takeWord_37 : decode cX5_takeWord 37 = .ok (.aload_n 0, 1) := by decide +kernel
theorem dX5_takeWord_38 : decode cX5_takeWord 38 = .ok (.getfield 19, 3) := by decide +kernel
theorem dX5_takeWord_41 : decode cX5_takeWord 41 = .ok (.iload_n 2, 1) := by decide +kernel
theorem dX5_takeWord_42 : decode cX5_takeWord 42 = .ok (.iaload, 1) := by decide +kernel
theorem dX5_takeWord_43 : decode cX5_takeWord 43 = .ok (.iaload, 1) := by decide +kernel
theorem dX5_takeWord_44 : decode cX5_takeWord 44 = .ok (.invokevirtual 166, 3) := by decide +kernel
theorem dX5_takeWord_47 : decode cX5_takeWord 47 = .ok (.iinc 2 1, 3) := by decide +kernel
theorem dX5_takeWord_50 : decode cX5_takeWord 50 = .ok (.goto (-35), 3) := by decide +kernel
theorem dX5_takeWord_53 : decode cX5_takeWord 53 = .ok (.aload_n 0, 1) := by decide +kernel
theorem dX5_takeWord_54 : decode cX5_takeWord 54 = .ok (.getfield 48, 3) := by decide +kernel
theorem dX5_takeWord_57 : decode cX5_takeWord 57 = .ok (.ifCond .ne 12, 3) := by decide +kernel
theorem dX5_takeWord_60 : decode cX5_takeWord 60 = .ok (.aload_n 0, 1) := by decide +kernel
theorem dX5_takeWord_61 : decode cX5_takeWord 61 = .ok (.getfield 29, 3) := by decide +kernel
theorem dX5_takeWord_64 : decode cX5_takeWord 64 = .ok (.bipush 119, 2) := by decide +kernel
theorem dX5_takeWord_66 : decode cX5_takeWord 66 = .ok (.invokevirtual 169, 3) := by decide +kernel
theorem dX5_takeWord_69 : decode cX5_takeWord 69 = .ok (.aload_n 0, 1) := by decide +kernel
theorem dX5_takeWord_70 : decode cX5_takeWord 70 = .ok (.getfield 29, 3) := by decide +kernel
theorem dX5_takeWord_73 : decode cX5_takeWord 73 = .ok (.getfield 172, 3) := by decide +kernel
theorem dX5_takeWord_76 : decode cX5_takeWord 76 = .ok (.iconst 0, 1) := by decide +kernel
theorem dX5_takeWord_77 : decode cX5_takeWord 77 = .ok (.aload_n 0, 1) := by decide +kernel
theorem dX5_takeWord_78 : decode cX5_takeWord 78 = .ok (.getfield 29, 3) := by decide +kernel
theorem dX5_takeWord_81 : decode cX5_takeWord 81 = .ok (.getfield 149, 3) := by decide +kernel
theorem dX5_takeWord_84 : decode cX5_takeWord 84 = .ok (.iconst 1, 1) := by decide +kernel
theorem dX5_takeWord_85 : decode cX5_takeWord 85 = .ok (.isub, 1) := by decide +kernel
theorem dX5_takeWord_86 : decode cX5_takeWord 86 = .ok (.invokestatic 152, 3) := by decide +kernel
theorem dX5_takeWord_89 : decode cX5_takeWord 89 = .ok (.iload_n 1, 1) := by decide +kernel
theorem dX5_takeWord_90 : decode cX5_takeWord 90 = .ok (.iastore, 1) := by decide +kernel
theorem dX5_takeWord_91 : decode cX5_takeWord 91 = .ok (.aload_n 0, 1) := by decide +kernel
theorem dX5_takeWord_92 : decode cX5_takeWord 92 = .ok (.getfield 48, 3) := by decide +kernel
theorem dX5_takeWord_95 : decode cX5_takeWord 95 = .ok (.ifCond .eq 21, 3) := by decide +kernel
theorem dX5_takeWord_98 : decode cX5_takeWord 98 = .ok (.aload_n 0, 1) := by decide +kernel
theorem dX5_takeWord_99 : decode cX5_takeWord 99 = .ok (.aload_n 0, 1) := by decide +kernel
theorem dX5_takeWord_100 : decode cX5_takeWord 100 = .ok (.getfield 48, 3) := by decide +kernel
theorem dX5_takeWord_103 : decode cX5_takeWord 103 = .ok (.bipush 9, 2) := by decide +kernel
theorem dX5_takeWord_105 : decode cX5_takeWord 105 = .ok (.if_icmp .ne 7, 3) := by decide +kernel
theorem dX5_takeWord_108 : decode cX5_takeWord 108 = .ok (.iconst 3, 1) := by decide +kernel
theorem dX5_takeWord_109 : decode cX5_takeWord 109 = .ok (.goto 4, 3) := by decide +kernel
theorem dX5_takeWord_112 : decode cX5_takeWord 112 = .ok (.iconst 4, 1) := by decide +kernel
theorem dX5_takeWord_113 : decode cX5_takeWord 113 = .ok (.putfield 48, 3) := by decide +kernel
theorem dX5_takeWord_116 : decode cX5_takeWord 116 = .ok (.return_, 1) := by decide +kernel
theorem dX5_countInside_0 : decode cX5_countInside 0 = .ok (.iload_n 1, 1) := by decide +kernel
theorem dX5_countInside_1 : decode cX5_countInside 1 = .ok (.ifCond .lt 49, 3) := by decide +kernel
theorem dX5_countInside_4 : decode cX5_countInside 4 = .ok (.aload_n 0, 1) := by decide +kernel
theorem dX5_countInside_5 : decode cX5_countInside 5 = .ok (.getfield 29, 3) := by decide +kernel
theorem dX5_countInside_8 : decode cX5_countInside 8 = .ok (.getfield 163, 3) := by decide +kernel
theorem dX5_countInside_11 : decode cX5_countInside 11 = .ok (.iload_n 1, 1) := by decide +kernel
theorem dX5_countInside_12 : decode cX5_countInside 12 = .ok (.dup2, 1) := by decide +kernel
theorem dX5_countInside_13 : decode cX5_countInside 13 = .ok (.iaload, 1) := by decide +kernel
theorem dX5_countInside_14 : decode cX5_countInside 14 = .ok (.iconst 1, 1) := by decide +kernel
theorem dX5_countInside_15 : decode cX5_countInside 15 = .ok (.iadd, 1) := by decide +kernel
theorem dX5_countInside_16 : decode cX5_countInside 16 = .ok (.iastore, 1) := by decide +kernel
theorem dX5_countInside_17 : decode cX5_countInside 17 = .ok (.aload_n 0, 1) := by decide +kernel
theorem dX5_countInside_18 : decode cX5_countInside 18 = .ok (.getfield 29, 3) := by decide +kernel
theorem dX5_countInside_21 : decode cX5_countInside 21 = .ok (.getfield 146, 3) := by decide +kernel
theorem dX5_countInside_24 : decode cX5_countInside 24 = .ok (.iload_n 1, 1) := by decide +kernel
theorem dX5_countInside_25 : decode cX5_countInside 25 = .ok (.iaload, 1) := by decide +kernel
theorem dX5_countInside_26 : decode cX5_countInside 26 = .ok (.ifCond .lt 24, 3) := by decide +kernel
theorem dX5_countInside_29 : decode cX5_countInside 29 = .ok (.aload_n 0, 1) := by decide +kernel
theorem dX5_countInside_30 : decode cX5_countInside 30 = .ok (.getfield 29, 3) := by decide +kernel
theorem dX5_countInside_33 : decode cX5_countInside 33 = .ok (.getfield 163, 3) := by decide +kernel
theorem dX5_countInside_36 : decode cX5_countInside 36 = .ok (.aload_n 0, 1) := by decide +kernel
theorem dX5_countInside_37 : decode cX5_countInside 37 = .ok (.getfield 29, 3) := by decide +kernel
theorem dX5_countInside_40 : decode cX5_countInside 40 = .ok (.getfield 146, 3) := by decide +kernel
theorem dX5_countInside_43 : decode cX5_countInside 43 = .ok (.iload_n 1, 1) := by decide +kernel
theorem dX5_countInside_44 : decode cX5_countInside 44 = .ok (.iaload, 1) := by decide +kernel
theorem dX5_countInside_45 : decode cX5_countInside 45 = .ok (.dup2, 1) := by decide +kernel
theorem dX5_countInside_46 : decode cX5_countInside 46 = .ok (.iaload, 1) := by decide +kernel
theorem dX5_countInside_47 : decode cX5_countInside 47 = .ok (.iconst 1, 1) := by decide +kernel
theorem dX5_countInside_48 : decode cX5_countInside 48 = .ok (.iadd, 1) := by decide +kernel
theorem dX5_countInside_49 : decode cX5_countInside 49 = .ok (.iastore, 1) := by decide +kernel
theorem dX5_countInside_50 : decode cX5_countInside 50 = .ok (.return_, 1) := by decide +kernel
theorem dX5_takeSign_0 : decode cX5_takeSign 0 = .ok (.aload_n 0, 1) := by decide +kernel
theorem dX5_takeSign_1 : decode cX5_takeSign 1 = .ok (.iload_n 1, 1) := by decide +kernel
theorem dX5_takeSign_2 : decode cX5_takeSign 2 = .ok (.invokevirtual 86, 3) := by decide +kernel
theorem dX5_takeSign_5 : decode cX5_takeSign 5 = .ok (.istore_n 2, 1) := by decide +kernel
theorem dX5_takeSign_6 : decode cX5_takeSign 6 = .ok (.iconst 1, 1) := by decide +kernel
theorem dX5_takeSign_7 : decode cX5_takeSign 7 = .ok (.istore_n 3, 1) := by decide +kernel
theorem dX5_takeSign_8 : decode cX5_takeSign 8 = .ok (.aload_n 0, 1) := by decide +kernel
theorem dX5_takeSign_9 : decode cX5_takeSign 9 = .ok (.getfield 48, 3) := by decide +kernel
theorem dX5_takeSign_12 : decode cX5_takeSign 12 = .ok (.ifCond .ne 13, 3) := by decide +kernel
theorem dX5_takeSign_15 : decode cX5_takeSign 15 = .ok (.aload_n 0, 1) := by decide +kernel
theorem dX5_takeSign_16 : decode cX5_takeSign 16 = .ok (.iload_n 2, 1) := by decide +kernel
theorem dX5_takeSign_17 : decode cX5_takeSign 17 = .ok (.iload_n 1, 1) := by decide +kernel
theorem dX5_takeSign_18 : decode cX5_takeSign 18 = .ok (.invokevirtual 175, 3) := by decide +kernel
theorem dX5_takeSign_21 : decode cX5_takeSign 21 = .ok (.istore_n 3, 1) := by decide +kernel
theorem dX5_takeSign_22 : decode cX5_takeSign 22 = .ok (.goto 126, 3) := by decide +kernel
theorem dX5_takeSign_25 : decode cX5_takeSign 25 = .ok (.iload_n 2, 1) := by decide +kernel
theorem dX5_takeSign_26 : decode cX5_takeSign 26 = .ok (.bipush 58, 2) := by decide +kernel
theorem dX5_takeSign_28 : decode cX5_takeSign 28 = .ok (.if_icmp .ne 28, 3) := by decide +kernel
theorem dX5_takeSign_31 : decode cX5_takeSign 31 = .ok (.aload_n 0, 1) := by decide +kernel
theorem dX5_takeSign_32 : decode cX5_takeSign 32 = .ok (.getfield 48, 3) := by decide +kernel
theorem dX5_takeSign_35 : decode cX5_takeSign 35 = .ok (.iconst 1, 1) := by decide +kernel
theorem dX5_takeSign_36 : decode cX5_takeSign 36 = .ok (.if_icmp .eq 11, 3) := by decide +kernel
theorem dX5_takeSign_39 : decode cX5_takeSign 39 = .ok (.aload_n 0, 1) := by decide +kernel
theorem dX5_takeSign_40 : decode cX5_takeSign 40 = .ok (.getfield 48, 3) := by decide +kernel
theorem dX5_takeSign_43 : decode cX5_takeSign 43 = .ok (.iconst 2, 1) := by decide +kernel
theorem dX5_takeSign_44 : decode cX5_takeSign 44 = .ok (.if_icmp .ne 12, 3) := by decide +kernel
theorem dX5_takeSign_47 : decode cX5_takeSign 47 = .ok (.aload_n 0, 1) := by decide +kernel
theorem dX5_takeSign_48 : decode cX5_takeSign 48 = .ok (.iconst 0, 1) := by decide +kernel
theorem dX5_takeSign_49 : decode cX5_takeSign 49 = .ok (.invokevirtual 178, 3) := by decide +kernel
theorem dX5_takeSign_52 : decode cX5_takeSign 52 = .ok (.istore_n 3, 1) := by decide +kernel
theorem dX5_takeSign_53 : decode cX5_takeSign 53 = .ok (.goto 95, 3) := by decide +kernel
theorem dX5_takeSign_56 : decode cX5_takeSign 56 = .ok (.iload_n 2, 1) := by decide +kernel
theorem dX5_takeSign_57 : decode cX5_takeSign 57 = .ok (.bipush 33, 2) := by decide +kernel
theorem dX5_takeSign_59 : decode cX5_takeSign 59 = .ok (.if_icmp .ne 21, 3) := by decide +kernel
theorem dX5_takeSign_62 : decode cX5_takeSign 62 = .ok (.aload_n 0, 1) := by decide +kernel
theorem dX5_takeSign_63 : decode cX5_takeSign 63 = .ok (.getfield 48, 3) := by decide +kernel
theorem dX5_takeSign_66 : decode cX5_takeSign 66 = .ok (.iconst 2, 1) := by decide +kernel
theorem dX5_takeSign_67 : decode cX5_takeSign 67 = .ok (.if_icmp .ne 13, 3) := by decide +kernel
theorem dX5_takeSign_70 : decode cX5_takeSign 70 = .ok (.aload_n 0, 1) := by decide +kernel
theorem dX5_takeSign_71 : decode cX5_takeSign 71 = .ok (.bipush 6, 2) := by decide +kernel
theorem dX5_takeSign_73 : decode cX5_takeSign 73 = .ok (.invokevirtual 178, 3) := by decide +kernel
theorem dX5_takeSign_76 : decode cX5_takeSign 76 = .ok (.istore_n 3, 1) := by decide +kernel
theorem dX5_takeSign_77 : decode cX5_takeSign 77 = .ok (.goto 71, 3) := by decide +kernel
theorem dX5_takeSign_80 : decode cX5_takeSign 80 = .ok (.iload_n 2, 1) := by decide +kernel
theorem dX5_takeSign_81 : decode cX5_takeSign 81 = .ok (.bipush 47, 2) := by decide +kernel
theorem dX5_takeSign_83 : decode cX5_takeSign 83 = .ok (.if_icmp .ne 37, 3) := by decide +kernel
theorem dX5_takeSign_86 : decode cX5_takeSign 86 = .ok (.aload_n 0, 1) := by decide +kernel
theorem dX5_takeSign_87 : decode cX5_takeSign 87 = .ok (.getfield 48, 3) := by decide +kernel
theorem dX5_takeSign_90 : decode cX5_takeSign 90 = .ok (.iconst 3, 1) := by decide +kernel
theorem dX5_takeSign_91 : decode cX5_takeSign 91 = .ok (.if_icmp .eq 11, 3) := by decide +kernel
theorem dX5_takeSign_94 : decode cX5_takeSign 94 = .ok (.aload_n 0, 1) := by decide +kernel
theorem dX5_takeSign_95 : decode cX5_takeSign 95 = .ok (.getfield 48, 3) := by decide +kernel
theorem dX5_takeSign_98 : decode cX5_takeSign 98 = .ok (.iconst 4, 1) := by decide +kernel
theorem dX5_takeSign_99 : decode cX5_takeSign 99 = .ok (.if_icmp .ne 21, 3) := by decide +kernel
theorem dX5_takeSign_102 : decode cX5_takeSign 102 = .ok (.aload_n 0, 1) := by decide +kernel
theorem dX5_takeSign_103 : decode cX5_takeSign 103 = .ok (.getfield 29, 3) := by decide +kernel
theorem dX5_takeSign_106 : decode cX5_takeSign 106 = .ok (.iload_n 2, 1) := by decide +kernel
theorem dX5_takeSign_107 : decode cX5_takeSign 107 = .ok (.invokevirtual 169, 3) := by decide +kernel
theorem dX5_takeSign_110 : decode cX5_takeSign 110 = .ok (.aload_n 0, 1) := by decide +kernel
theorem dX5_takeSign_111 : decode cX5_takeSign 111 = .ok (.bipush 8, 2) := by decide +kernel
theorem dX5_takeSign_113 : decode cX5_takeSign 113 = .ok (.invokevirtual 178, 3) := by decide +kernel
theorem dX5_takeSign_116 : decode cX5_takeSign 116 = .ok (.istore_n 3, 1) := by decide +kernel
theorem dX5_takeSign_117 : decode cX5_takeSign 117 = .ok (.goto 31, 3) := by decide +kernel
theorem dX5_takeSign_120 : decode cX5_takeSign 120 = .ok (.iload_n 2, 1) := by decide +kernel
theorem dX5_takeSign_121 : decode cX5_takeSign 121 = .ok (.bipush 41, 2) := by decide +kernel
theorem dX5_takeSign_123 : decode cX5_takeSign 123 = .ok (.if_icmp .ne 25, 3) := by decide +kernel
theorem dX5_takeSign_126 : decode cX5_takeSign 126 = .ok (.aload_n 0, 1) := by decide +kernel
theorem dX5_takeSign_127 : decode cX5_takeSign 127 = .ok (.getfield 48, 3) := by decide +kernel
theorem dX5_takeSign_130 : decode cX5_takeSign 130 = .ok (.iconst 4, 1) := by decide +kernel
theorem dX5_takeSign_131 : decode cX5_takeSign 131 = .ok (.if_icmp .ne 17, 3) := by decide +kernel
theorem dX5_takeSign_134 : decode cX5_takeSign 134 = .ok (.aload_n 0, 1) := by decide +kernel
theorem dX5_takeSign_135 : decode cX5_takeSign 135 = .ok (.getfield 29, 3) := by decide +kernel
theorem dX5_takeSign_138 : decode cX5_takeSign 138 = .ok (.iload_n 2, 1) := by decide +kernel
theorem dX5_takeSign_139 : decode cX5_takeSign 139 = .ok (.invokevirtual 169, 3) := by decide +kernel
theorem dX5_takeSign_142 : decode cX5_takeSign 142 = .ok (.aload_n 0, 1) := by decide +kernel
theorem dX5_takeSign_143 : decode cX5_takeSign 143 = .ok (.iconst 0, 1) := by decide +kernel
theorem dX5_takeSign_144 : decode cX5_takeSign 144 = .ok (.invokevirtual 178, 3) := by decide +kernel
theorem dX5_takeSign_147 : decode cX5_takeSign 147 = .ok (.istore_n 3, 1) := by decide +kernel
theorem dX5_takeSign_148 : decode cX5_takeSign 148 = .ok (.iload_n 3, 1) := by decide +kernel
theorem dX5_takeSign_149 : decode cX5_takeSign 149 = .ok (.ifCond .ne 11, 3) := by decide +kernel
theorem dX5_takeSign_152 : decode cX5_takeSign 152 = .ok (.aload_n 0, 1) := by decide +kernel
theorem dX5_takeSign_153 : decode cX5_takeSign 153 = .ok (.getfield 29, 3) := by decide +kernel
theorem dX5_takeSign_156 : decode cX5_takeSign 156 = .ok (.iload_n 2, 1) := by decide +kernel
theorem dX5_takeSign_157 : decode cX5_takeSign 157 = .ok (.invokevirtual 181, 3) := by decide +kernel
theorem dX5_takeSign_160 : decode cX5_takeSign 160 = .ok (.iload_n 3, 1) := by decide +kernel
theorem dX5_takeSign_161 : decode cX5_takeSign 161 = .ok (.ireturn, 1) := by decide +kernel
theorem dX5_go_0 : decode cX5_go 0 = .ok (.aload_n 0, 1) := by decide +kernel
theorem dX5_go_1 : decode cX5_go 1 = .ok (.iload_n 1, 1) := by decide +kernel
theorem dX5_go_2 : decode cX5_go 2 = .ok (.putfield 48, 3) := by decide +kernel
theorem dX5_go_5 : decode cX5_go 5 = .ok (.iconst 0, 1) := by decide +kernel
theorem dX5_go_6 : decode cX5_go 6 = .ok (.ireturn, 1) := by decide +kernel
theorem dX5_takeItemSign_0 : decode cX5_takeItemSign 0 = .ok (.aload_n 0, 1) := by decide +kernel
theorem dX5_takeItemSign_1 : decode cX5_takeItemSign 1 = .ok (.iload_n 2, 1) := by decide +kernel
theorem dX5_takeItemSign_2 : decode cX5_takeItemSign 2 = .ok (.putfield 77, 3) := by decide +kernel
theorem dX5_takeItemSign_5 : decode cX5_takeItemSign 5 = .ok (.iload_n 1, 1) := by decide +kernel
theorem dX5_takeItemSign_6 : decode cX5_takeItemSign 6 = .ok (.lookupswitch 130 #[(40, 110), (42, 86), (60, 74), (62, 80), (91, 74), (93, 80), (123, 74), (125, 80)], 74) := by decide +kernel
theorem dX5_takeItemSign_80 : decode cX5_takeItemSign 80 = .ok (.aload_n 0, 1) := by decide +kernel
theorem dX5_takeItemSign_81 : decode cX5_takeItemSign 81 = .ok (.iload_n 1, 1) := by decide +kernel
theorem dX5_takeItemSign_82 : decode cX5_takeItemSign 82 = .ok (.invokevirtual 184, 3) := by decide +kernel
theorem dX5_takeItemSign_85 : decode cX5_takeItemSign 85 = .ok (.ireturn, 1) := by decide +kernel
theorem dX5_takeItemSign_86 : decode cX5_takeItemSign 86 = .ok (.aload_n 0, 1) := by decide +kernel
theorem dX5_takeItemSign_87 : decode cX5_takeItemSign 87 = .ok (.iload_n 1, 1) := by decide +kernel
theorem dX5_takeItemSign_88 : decode cX5_takeItemSign 88 = .ok (.invokevirtual 187, 3) := by decide +kernel
theorem dX5_takeItemSign_91 : decode cX5_takeItemSign 91 = .ok (.ireturn, 1) := by decide +kernel
theorem dX5_takeItemSign_92 : decode cX5_takeItemSign 92 = .ok (.aload_n 0, 1) := by decide +kernel
theorem dX5_takeItemSign_93 : decode cX5_takeItemSign 93 = .ok (.invokevirtual 190, 3) := by decide +kernel
theorem dX5_takeItemSign_96 : decode cX5_takeItemSign 96 = .ok (.ifCond .eq 5, 3) := by decide +kernel
theorem dX5_takeItemSign_99 : decode cX5_takeItemSign 99 = .ok (.iconst 1, 1) := by decide +kernel
theorem dX5_takeItemSign_100 : decode cX5_takeItemSign 100 = .ok (.ireturn, 1) := by decide +kernel
theorem dX5_takeItemSign_101 : decode cX5_takeItemSign 101 = .ok (.aload_n 0, 1) := by decide +kernel
theorem dX5_takeItemSign_102 : decode cX5_takeItemSign 102 = .ok (.getfield 29, 3) := by decide +kernel
theorem dX5_takeItemSign_105 : decode cX5_takeItemSign 105 = .ok (.iload_n 1, 1) := by decide +kernel
theorem dX5_takeItemSign_106 : decode cX5_takeItemSign 106 = .ok (.invokevirtual 169, 3) := by decide +kernel
theorem dX5_takeItemSign_109 : decode cX5_takeItemSign 109 = .ok (.aload_n 0, 1) := by decide +kernel
theorem dX5_takeItemSign_110 : decode cX5_takeItemSign 110 = .ok (.bipush 7, 2) := by decide +kernel
theorem dX5_takeItemSign_112 : decode cX5_takeItemSign 112 = .ok (.invokevirtual 178, 3) := by decide +kernel
theorem dX5_takeItemSign_115 : decode cX5_takeItemSign 115 = .ok (.ireturn, 1) := by decide +kernel
theorem dX5_takeItemSign_116 : decode cX5_takeItemSign 116 = .ok (.aload_n 0, 1) := by decide +kernel
theorem dX5_takeItemSign_117 : decode cX5_takeItemSign 117 = .ok (.getfield 29, 3) := by decide +kernel
theorem dX5_takeItemSign_120 : decode cX5_takeItemSign 120 = .ok (.iload_n 1, 1) := by decide +kernel
theorem dX5_takeItemSign_121 : decode cX5_takeItemSign 121 = .ok (.invokevirtual 169, 3) := by decide +kernel
theorem dX5_takeItemSign_124 : decode cX5_takeItemSign 124 = .ok (.aload_n 0, 1) := by decide +kernel
theorem dX5_takeItemSign_125 : decode cX5_takeItemSign 125 = .ok (.iconst (-1), 1) := by decide +kernel
theorem dX5_takeItemSign_126 : decode cX5_takeItemSign 126 = .ok (.putfield 74, 3) := by decide +kernel
theorem dX5_takeItemSign_129 : decode cX5_takeItemSign 129 = .ok (.aload_n 0, 1) := by decide +kernel
theorem dX5_takeItemSign_130 : decode cX5_takeItemSign 130 = .ok (.bipush 9, 2) := by decide +kernel
theorem dX5_takeItemSign_132 : decode cX5_takeItemSign 132 = .ok (.invokevirtual 178, 3) := by decide +kernel
theorem dX5_takeItemSign_135 : decode cX5_takeItemSign 135 = .ok (.ireturn, 1) := by decide +kernel
theorem dX5_takeItemSign_136 : decode cX5_takeItemSign 136 = .ok (.iconst 1, 1) := by decide +kernel
theorem dX5_takeItemSign_137 : decode cX5_takeItemSign 137 = .ok (.ireturn, 1) := by decide +kernel
theorem dX5_openBracket_0 : decode cX5_openBracket 0 = .ok (.aload_n 0, 1) := by decide +kernel
theorem dX5_openBracket_1 : decode cX5_openBracket 1 = .ok (.getfield 51, 3) := by decide +kernel
theorem dX5_openBracket_4 : decode cX5_openBracket 4 = .ok (.bipush 8, 2) := by decide +kernel
theorem dX5_openBracket_6 : decode cX5_openBracket 6 = .ok (.if_icmp .lt 5, 3) := by decide +kernel
theorem dX5_openBracket_9 : decode cX5_openBracket 9 = .ok (.iconst 5, 1) := by decide +kernel
theorem dX5_openBracket_10 : decode cX5_openBracket 10 = .ok (.ireturn, 1) := by decide +kernel
theorem dX5_openBracket_11 : decode cX5_openBracket 11 = .ok (.aload_n 0, 1) := by decide +kernel
theorem dX5_openBracket_12 : decode cX5_openBracket 12 = .ok (.getfield 19, 3) := by decide +kernel
theorem dX5_openBracket_15 : decode cX5_openBracket 15 = .ok (.aload_n 0, 1) := by decide +kernel
theorem dX5_openBracket_16 : decode cX5_openBracket 16 = .ok (.getfield 51, 3) := by decide +kernel
theorem dX5_openBracket_19 : decode cX5_openBracket 19 = .ok (.aload_n 0, 1) := by decide +kernel
theorem dX5_openBracket_20 : decode cX5_openBracket 20 = .ok (.getfield 29, 3) := by decide +kernel
theorem dX5_openBracket_23 : decode cX5_openBracket 23 = .ok (.getfield 149, 3) := by decide +kernel
theorem dX5_openBracket_26 : decode cX5_openBracket 26 = .ok (.iastore, 1) := by decide +kernel
theorem dX5_openBracket_27 : decode cX5_openBracket 27 = .ok (.aload_n 0, 1) := by decide +kernel
theorem dX5_openBracket_28 : decode cX5_openBracket 28 = .ok (.dup, 1) := by decide +kernel
theorem dX5_openBracket_29 : decode cX5_openBracket 29 = .ok (.getfield 51, 3) := by decide +kernel
theorem dX5_openBracket_32 : decode cX5_openBracket 32 = .ok (.iconst 1, 1) := by decide +kernel
theorem dX5_openBracket_33 : decode cX5_openBracket 33 = .ok (.iadd, 1) := by decide +kernel
theorem dX5_openBracket_34 : decode cX5_openBracket 34 = .ok (.putfield 51, 3) := by decide +kernel
theorem dX5_openBracket_37 : decode cX5_openBracket 37 = .ok (.aload_n 0, 1) := by decide +kernel
theorem dX5_openBracket_38 : decode cX5_openBracket 38 = .ok (.getfield 29, 3) := by decide +kernel
theorem dX5_openBracket_41 : decode cX5_openBracket 41 = .ok (.iload_n 1, 1) := by decide +kernel
theorem dX5_openBracket_42 : decode cX5_openBracket 42 = .ok (.invokevirtual 169, 3) := by decide +kernel
theorem dX5_openBracket_45 : decode cX5_openBracket 45 = .ok (.aload_n 0, 1) := by decide +kernel
theorem dX5_openBracket_46 : decode cX5_openBracket 46 = .ok (.iconst 5, 1) := by decide +kernel
theorem dX5_openBracket_47 : decode cX5_openBracket 47 = .ok (.invokevirtual 178, 3) := by decide +kernel
theorem dX5_openBracket_50 : decode cX5_openBracket 50 = .ok (.ireturn, 1) := by decide +kernel
theorem dX5_closeBracket_0 : decode cX5_closeBracket 0 = .ok (.aload_n 0, 1) := by decide +kernel
theorem dX5_closeBracket_1 : decode cX5_closeBracket 1 = .ok (.invokevirtual 127, 3) := by decide +kernel
theorem dX5_closeBracket_4 : decode cX5_closeBracket 4 = .ok (.istore_n 2, 1) := by decide +kernel
theorem dX5_closeBracket_5 : decode cX5_closeBracket 5 = .ok (.aload_n 0, 1) := by decide +kernel
theorem dX5_closeBracket_6 : decode cX5_closeBracket 6 = .ok (.getfield 29, 3) := by decide +kernel
theorem dX5_closeBracket_9 : decode cX5_closeBracket 9 = .ok (.getfield 149, 3) := by decide +kernel
theorem dX5_closeBracket_12 : decode cX5_closeBracket 12 = .ok (.iload_n 2, 1) := by decide +kernel
theorem dX5_closeBracket_13 : decode cX5_closeBracket 13 = .ok (.iconst 1, 1) := by decide +kernel
theorem dX5_closeBracket_14 : decode cX5_closeBracket 14 = .ok (.iadd, 1) := by decide +kernel
theorem dX5_closeBracket_15 : decode cX5_closeBracket 15 = .ok (.if_icmp .ne 7, 3) := by decide +kernel
theorem dX5_closeBracket_18 : decode cX5_closeBracket 18 = .ok (.iconst 1, 1) := by decide +kernel
theorem dX5_closeBracket_19 : decode cX5_closeBracket 19 = .ok (.goto 4, 3) := by decide +kernel
theorem dX5_closeBracket_22 : decode cX5_closeBracket 22 = .ok (.iconst 0, 1) := by decide +kernel
theorem dX5_closeBracket_23 : decode cX5_closeBracket 23 = .ok (.istore_n 3, 1) := by decide +kernel
theorem dX5_closeBracket_24 : decode cX5_closeBracket 24 = .ok (.aload_n 0, 1) := by decide +kernel
theorem dX5_closeBracket_25 : decode cX5_closeBracket 25 = .ok (.getfield 51, 3) := by decide +kernel
theorem dX5_closeBracket_28 : decode cX5_closeBracket 28 = .ok (.ifCond .eq 23, 3) := by decide +kernel
theorem dX5_closeBracket_31 : decode cX5_closeBracket 31 = .ok (.iload_n 3, 1) := by decide +kernel
theorem dX5_closeBracket_32 : decode cX5_closeBracket 32 = .ok (.ifCond .ne 19, 3) := by decide +kernel
theorem dX5_closeBracket_35 : decode cX5_closeBracket 35 = .ok (.iload_n 1, 1) := by decide +kernel
theorem dX5_closeBracket_36 : decode cX5_closeBracket 36 = .ok (.aload_n 0, 1) := by decide +kernel
theorem dX5_closeBracket_37 : decode cX5_closeBracket 37 = .ok (.getfield 29, 3) := by decide +kernel
theorem dX5_closeBracket_40 : decode cX5_closeBracket 40 = .ok (.getfield 130, 3) := by decide +kernel
theorem dX5_closeBracket_43 : decode cX5_closeBracket 43 = .ok (.iload_n 2, 1) := by decide +kernel
theorem dX5_closeBracket_44 : decode cX5_closeBracket 44 = .ok (.iaload, 1) := by decide +kernel
theorem dX5_closeBracket_45 : decode cX5_closeBracket 45 = .ok (.invokestatic 194, 3) := by decide +kernel
theorem dX5_closeBracket_48 : decode cX5_closeBracket 48 = .ok (.if_icmp .eq 5, 3) := by decide +kernel
theorem dX5_closeBracket_51 : decode cX5_closeBracket 51 = .ok (.iconst 1, 1) := by decide +kernel
theorem dX5_closeBracket_52 : decode cX5_closeBracket 52 = .ok (.ireturn, 1) := by decide +kernel
theorem dX5_closeBracket_53 : decode cX5_closeBracket 53 = .ok (.aload_n 0, 1) := by decide +kernel
theorem dX5_closeBracket_54 : decode cX5_closeBracket 54 = .ok (.getfield 29, 3) := by decide +kernel
theorem dX5_closeBracket_57 : decode cX5_closeBracket 57 = .ok (.getfield 172, 3) := by decide +kernel
theorem dX5_closeBracket_60 : decode cX5_closeBracket 60 = .ok (.iload_n 2, 1) := by decide +kernel
theorem dX5_closeBracket_61 : decode cX5_closeBracket 61 = .ok (.aload_n 0, 1) := by decide +kernel
theorem dX5_closeBracket_62 : decode cX5_closeBracket 62 = .ok (.getfield 29, 3) := by decide +kernel
theorem dX5_closeBracket_65 : decode cX5_closeBracket 65 = .ok (.getfield 149, 3) := by decide +kernel
theorem dX5_closeBracket_68 : decode cX5_closeBracket 68 = .ok (.iastore, 1) := by decide +kernel
theorem dX5_closeBracket_69 : decode cX5_closeBracket 69 = .ok (.aload_n 0, 1) := by decide +kernel
theorem dX5_closeBracket_70 : decode cX5_closeBracket 70 = .ok (.getfield 29, 3) := by decide +kernel
theorem dX5_closeBracket_73 : decode cX5_closeBracket 73 = .ok (.iload_n 1, 1) := by decide +kernel
theorem dX5_closeBracket_74 : decode cX5_closeBracket 74 = .ok (.invokevirtual 169, 3) := by decide +kernel
theorem dX5_closeBracket_77 : decode cX5_closeBracket 77 = .ok (.aload_n 0, 1) := by decide +kernel
theorem dX5_closeBracket_78 : decode cX5_closeBracket 78 = .ok (.getfield 29, 3) := by decide +kernel
theorem dX5_closeBracket_81 : decode cX5_closeBracket 81 = .ok (.getfield 133, 3) := by decide +kernel
theorem dX5_closeBracket_84 : decode cX5_closeBracket 84 = .ok (.aload_n 0, 1) := by decide +kernel
theorem dX5_closeBracket_85 : decode cX5_closeBracket 85 = .ok (.getfield 29, 3) := by decide +kernel
theorem dX5_closeBracket_88 : decode cX5_closeBracket 88 = .ok (.getfield 172, 3) := by decide +kernel
theorem dX5_closeBracket_91 : decode cX5_closeBracket 91 = .ok (.iload_n 2, 1) := by decide +kernel
theorem dX5_closeBracket_92 : decode cX5_closeBracket 92 = .ok (.iaload, 1) := by decide +kernel
theorem dX5_closeBracket_93 : decode cX5_closeBracket 93 = .ok (.aload_n 0, 1) := by decide +kernel
theorem dX5_closeBracket_94 : decode cX5_closeBracket 94 = .ok (.getfield 29, 3) := by decide +kernel
theorem dX5_closeBracket_97 : decode cX5_closeBracket 97 = .ok (.getfield 133, 3) := by decide +kernel
theorem dX5_closeBracket_100 : decode cX5_closeBracket 100 = .ok (.iload_n 2, 1) := by decide +kernel
theorem dX5_closeBracket_101 : decode cX5_closeBracket 101 = .ok (.iaload, 1) := by decide +kernel
theorem dX5_closeBracket_102 : decode cX5_closeBracket 102 = .ok (.iastore, 1) := by decide +kernel
theorem dX5_closeBracket_103 : decode cX5_closeBracket 103 = .ok (.aload_n 0, 1) := by decide +kernel
theorem dX5_closeBracket_104 : decode cX5_closeBracket 104 = .ok (.dup, 1) := by decide +kernel
theorem dX5_closeBracket_105 : decode cX5_closeBracket 105 = .ok (.getfield 51, 3) := by decide +kernel
theorem dX5_closeBracket_108 : decode cX5_closeBracket 108 = .ok (.iconst 1, 1) := by decide +kernel
theorem dX5_closeBracket_109 : decode cX5_closeBracket 109 = .ok (.isub, 1) := by decide +kernel
theorem dX5_closeBracket_110 : decode cX5_closeBracket 110 = .ok (.putfield 51, 3) := by decide +kernel
theorem dX5_closeBracket_113 : decode cX5_closeBracket 113 = .ok (.iconst 0, 1) := by decide +kernel
theorem dX5_closeBracket_114 : decode cX5_closeBracket 114 = .ok (.ireturn, 1) := by decide +kernel
theorem dX5_closerOf_0 : decode cX5_closerOf 0 = .ok (.iload_n 0, 1) := by decide +kernel
theorem dX5_closerOf_1 : decode cX5_closerOf 1 = .ok (.bipush 123, 2) := by decide +kernel
theorem dX5_closerOf_3 : decode cX5_closerOf 3 = .ok (.if_icmp .ne 8, 3) := by decide +kernel
theorem dX5_closerOf_6 : decode cX5_closerOf 6 = .ok (.bipush 125, 2) := by decide +kernel
theorem dX5_closerOf_8 : decode cX5_closerOf 8 = .ok (.goto 16, 3) := by decide +kernel
theorem dX5_closerOf_11 : decode cX5_closerOf 11 = .ok (.iload_n 0, 1) := by decide +kernel
theorem dX5_closerOf_12 : decode cX5_closerOf 12 = .ok (.bipush 91, 2) := by decide +kernel
theorem dX5_closerOf_14 : decode cX5_closerOf 14 = .ok (.if_icmp .ne 8, 3) := by decide +kernel
theorem dX5_closerOf_17 : decode cX5_closerOf 17 = .ok (.bipush 93, 2) := by decide +kernel
theorem dX5_closerOf_19 : decode cX5_closerOf 19 = .ok (.goto 5, 3) := by decide +kernel
theorem dX5_closerOf_22 : decode cX5_closerOf 22 = .ok (.bipush 62, 2) := by decide +kernel
theorem dX5_closerOf_24 : decode cX5_closerOf 24 = .ok (.ireturn, 1) := by decide +kernel
theorem dX5_innermost_0 : decode cX5_innermost 0 = .ok (.aload_n 0, 1) := by decide +kernel
theorem dX5_innermost_1 : decode cX5_innermost 1 = .ok (.getfield 51, 3) := by decide +kernel
theorem dX5_innermost_4 : decode cX5_innermost 4 = .ok (.ifCond .le 17, 3) := by decide +kernel
theorem dX5_innermost_7 : decode cX5_innermost 7 = .ok (.aload_n 0, 1) := by decide +kernel
theorem dX5_innermost_8 : decode cX5_innermost 8 = .ok (.getfield 19, 3) := by decide +kernel
theorem dX5_innermost_11 : decode cX5_innermost 11 = .ok (.aload_n 0, 1) := by decide +kernel
theorem dX5_innermost_12 : decode cX5_innermost 12 = .ok (.getfield 51, 3) := by decide +kernel
theorem dX5_innermost_15 : decode cX5_innermost 15 = .ok (.iconst 1, 1) := by decide +kernel
theorem dX5_innermost_16 : decode cX5_innermost 16 = .ok (.isub, 1) := by decide +kernel
theorem dX5_innermost_17 : decode cX5_innermost 17 = .ok (.iaload, 1) := by decide +kernel
theorem dX5_innermost_18 : decode cX5_innermost 18 = .ok (.goto 4, 3) := by decide +kernel
theorem dX5_innermost_21 : decode cX5_innermost 21 = .ok (.iconst 0, 1) := by decide +kernel
theorem dX5_innermost_22 : decode cX5_innermost 22 = .ok (.ireturn, 1) := by decide +kernel
theorem dX5_isWithinArrow_0 : decode cX5_isWithinArrow 0 = .ok (.iconst 0, 1) := by decide +kernel
theorem dX5_isWithinArrow_1 : decode cX5_isWithinArrow 1 = .ok (.istore_n 1, 1) := by decide +kernel
theorem dX5_isWithinArrow_2 : decode cX5_isWithinArrow 2 = .ok (.iload_n 1, 1) := by decide +kernel
theorem dX5_isWithinArrow_3 : decode cX5_isWithinArrow 3 = .ok (.aload_n 0, 1) := by decide +kernel
theorem dX5_isWithinArrow_4 : decode cX5_isWithinArrow 4 = .ok (.getfield 51, 3) := by decide +kernel
theorem dX5_isWithinArrow_7 : decode cX5_isWithinArrow 7 = .ok (.if_icmp .ge 36, 3) := by decide +kernel
theorem dX5_isWithinArrow_10 : decode cX5_isWithinArrow 10 = .ok (.iload_n 1, 1) := by decide +kernel
theorem dX5_isWithinArrow_11 : decode cX5_isWithinArrow 11 = .ok (.bipush 8, 2) := by decide +kernel
theorem dX5_isWithinArrow_13 : decode cX5_isWithinArrow 13 = .ok (.if_icmp .ge 30, 3) := by decide +kernel
theorem dX5_isWithinArrow_16 : decode cX5_isWithinArrow 16 = .ok (.aload_n 0, 1) := by decide +kernel
theorem dX5_isWithinArrow_17 : decode cX5_isWithinArrow 17 = .ok (.getfield 29, 3) := by decide +kernel
theorem dX5_isWithinArrow_20 : decode cX5_isWithinArrow 20 = .ok (.getfield 130, 3) := by decide +kernel
theorem dX5_isWithinArrow_23 : decode cX5_isWithinArrow 23 = .ok (.aload_n 0, 1) := by decide +kernel
theorem dX5_isWithinArrow_24 : decode cX5_isWithinArrow 24 = .ok (.getfield 19, 3) := by decide +kernel
theorem dX5_isWithinArrow_27 : decode cX5_isWithinArrow 27 = .ok (.iload_n 1, 1) := by decide +kernel
theorem dX5_isWithinArrow_28 : decode cX5_isWithinArrow 28 = .ok (.iaload, 1) := by decide +kernel
theorem dX5_isWithinArrow_29 : decode cX5_isWithinArrow 29 = .ok (.iaload, 1) := by decide +kernel
theorem dX5_isWithinArrow_30 : decode cX5_isWithinArrow 30 = .ok (.bipush 60, 2) := by decide +kernel
theorem dX5_isWithinArrow_32 : decode cX5_isWithinArrow 32 = .ok (.if_icmp .ne 5, 3) := by decide +kernel
theorem dX5_isWithinArrow_35 : decode cX5_isWithinArrow 35 = .ok (.iconst 1, 1) := by decide +kernel
theorem dX5_isWithinArrow_36 : decode cX5_isWithinArrow 36 = .ok (.ireturn, 1) := by decide +kernel
theorem dX5_isWithinArrow_37 : decode cX5_isWithinArrow 37 = .ok (.iinc 1 1, 3) := by decide +kernel
theorem dX5_isWithinArrow_40 : decode cX5_isWithinArrow 40 = .ok (.goto (-38), 3) := by decide +kernel
theorem dX5_isWithinArrow_43 : decode cX5_isWithinArrow 43 = .ok (.iconst 0, 1) := by decide +kernel
theorem dX5_isWithinArrow_44 : decode cX5_isWithinArrow 44 = .ok (.ireturn, 1) := by decide +kernel
theorem dX5_putInAround_0 : decode cX5_putInAround 0 = .ok (.iconst 0, 1) := by decide +kernel
theorem dX5_putInAround_1 : decode cX5_putInAround 1 = .ok (.istore_n 2, 1) := by decide +kernel
theorem dX5_putInAround_2 : decode cX5_putInAround 2 = .ok (.iconst 0, 1) := by decide +kernel
theorem dX5_putInAround_3 : decode cX5_putInAround 3 = .ok (.istore_n 3, 1) := by decide +kernel
theorem dX5_putInAround_4 : decode cX5_putInAround 4 = .ok (.iload_n 3, 1) := by decide +kernel
theorem dX5_putInAround_5 : decode cX5_putInAround 5 = .ok (.iload_n 1, 1) := by decide +kernel
theorem dX5_putInAround_6 : decode cX5_putInAround 6 = .ok (.if_icmp .ge 62, 3) := by decide +kernel
theorem dX5_putInAround_9 : decode cX5_putInAround 9 = .ok (.iload_n 3, 1) := by decide +kernel
theorem dX5_putInAround_10 : decode cX5_putInAround 10 = .ok (.bipush 8, 2) := by decide +kernel
theorem dX5_putInAround_12 : decode cX5_putInAround 12 = .ok (.if_icmp .ge 56, 3) := by decide +kernel
theorem dX5_putInAround_15 : decode cX5_putInAround 15 = .ok (.aload_n 0, 1) := by decide +kernel
theorem dX5_putInAround_16 : decode cX5_putInAround 16 = .ok (.getfield 29, 3) := by decide +kernel
theorem dX5_putInAround_19 : decode cX5_putInAround 19 = .ok (.getfield 133, 3) := by decide +kernel
theorem dX5_putInAround_22 : decode cX5_putInAround 22 = .ok (.aload_n 0, 1) := by decide +kernel
theorem dX5_putInAround_23 : decode cX5_putInAround 23 = .ok (.getfield 19, 3) := by decide +kernel
theorem dX5_putInAround_26 : decode cX5_putInAround 26 = .ok (.iload_n 3, 1) := by decide +kernel
theorem dX5_putInAround_27 : decode cX5_putInAround 27 = .ok (.iaload, 1) := by decide +kernel
theorem dX5_putInAround_28 : decode cX5_putInAround 28 = .ok (.iaload, 1) := by decide +kernel
theorem dX5_putInAround_29 : decode cX5_putInAround 29 = .ok (.istore 4, 2) := by decide +kernel
theorem dX5_putInAround_31 : decode cX5_putInAround 31 = .ok (.aload_n 0, 1) := by decide +kernel
theorem dX5_putInAround_32 : decode cX5_putInAround 32 = .ok (.getfield 29, 3) := by decide +kernel
theorem dX5_putInAround_35 : decode cX5_putInAround 35 = .ok (.getfield 130, 3) := by decide +kernel
theorem dX5_putInAround_38 : decode cX5_putInAround 38 = .ok (.aload_n 0, 1) := by decide +kernel
theorem dX5_putInAround_39 : decode cX5_putInAround 39 = .ok (.getfield 19, 3) := by decide +kernel
theorem dX5_putInAround_42 : decode cX5_putInAround 42 = .ok (.iload_n 3, 1) := by decide +kernel
theorem dX5_putInAround_43 : decode cX5_putInAround 43 = .ok (.iaload, 1) := by decide +kernel
theorem dX5_putInAround_44 : decode cX5_putInAround 44 = .ok (.iaload, 1) := by decide +kernel
theorem dX5_putInAround_45 : decode cX5_putInAround 45 = .ok (.bipush 123, 2) := by decide +kernel
theorem dX5_putInAround_47 : decode cX5_putInAround 47 = .ok (.if_icmp .ne 15, 3) := by decide +kernel
theorem dX5_putInAround_50 : decode cX5_putInAround 50 = .ok (.iload 4, 2) := by decide +kernel
theorem dX5_putInAround_52 : decode cX5_putInAround 52 = .ok (.ifCond .lt 10, 3) := by decide +kernel
theorem dX5_putInAround_55 : decode cX5_putInAround 55 = .ok (.iload_n 2, 1) := by decide +kernel
theorem dX5_putInAround_56 : decode cX5_putInAround 56 = .ok (.iconst 1, 1) := by decide +kernel
theorem dX5_putInAround_57 : decode cX5_putInAround 57 = .ok (.iload 4, 2) := by decide +kernel
theorem dX5_putInAround_59 : decode cX5_putInAround 59 = .ok (.ishl, 1) := by decide +kernel
theorem dX5_putInAround_60 : decode cX5_putInAround 60 = .ok (.ior, 1) := by decide +kernel
theorem dX5_putInAround_61 : decode cX5_putInAround 61 = .ok (.istore_n 2, 1) := by decide +kernel
theorem dX5_putInAround_62 : decode cX5_putInAround 62 = .ok (.iinc 3 1, 3) := by decide +kernel
theorem dX5_putInAround_65 : decode cX5_putInAround 65 = .ok (.goto (-61), 3) := by decide +kernel
theorem dX5_putInAround_68 : decode cX5_putInAround 68 = .ok (.iload_n 2, 1) := by decide +kernel
theorem dX5_putInAround_69 : decode cX5_putInAround 69 = .ok (.ireturn, 1) := by decide +kernel
theorem dX5_loneArrow_0 : decode cX5_loneArrow 0 = .ok (.iconst (-1), 1) := by decide +kernel
theorem dX5_loneArrow_1 : decode cX5_loneArrow 1 = .ok (.istore_n 1, 1) := by decide +kernel
theorem dX5_loneArrow_2 : decode cX5_loneArrow 2 = .ok (.iconst 0, 1) := by decide +kernel
theorem dX5_loneArrow_3 : decode cX5_loneArrow 3 = .ok (.istore_n 2, 1) := by decide +kernel
theorem dX5_loneArrow_4 : decode cX5_loneArrow 4 = .ok (.iload_n 2, 1) := by decide +kernel
theorem dX5_loneArrow_5 : decode cX5_loneArrow 5 = .ok (.bipush 10, 2) := by decide +kernel
theorem dX5_loneArrow_7 : decode cX5_loneArrow 7 = .ok (.if_icmp .ge 83, 3) := by decide +kernel
theorem dX5_loneArrow_10 : decode cX5_loneArrow 10 = .ok (.aload_n 0, 1) := by decide +kernel
theorem dX5_loneArrow_11 : decode cX5_loneArrow 11 = .ok (.getfield 23, 3) := by decide +kernel
theorem dX5_loneArrow_14 : decode cX5_loneArrow 14 = .ok (.iload_n 2, 1) := by decide +kernel
theorem dX5_loneArrow_15 : decode cX5_loneArrow 15 = .ok (.iaload, 1) := by decide +kernel
theorem dX5_loneArrow_16 : decode cX5_loneArrow 16 = .ok (.iconst (-1), 1) := by decide +kernel
theorem dX5_loneArrow_17 : decode cX5_loneArrow 17 = .ok (.if_icmp .ne 7, 3) := by decide +kernel
theorem dX5_loneArrow_20 : decode cX5_loneArrow 20 = .ok (.iconst 1, 1) := by decide +kernel
theorem dX5_loneArrow_21 : decode cX5_loneArrow 21 = .ok (.goto 4, 3) := by decide +kernel
theorem dX5_loneArrow_24 : decode cX5_loneArrow 24 = .ok (.iconst 0, 1) := by decide +kernel
theorem dX5_loneArrow_25 : decode cX5_loneArrow 25 = .ok (.aload_n 0, 1) := by decide +kernel
theorem dX5_loneArrow_26 : decode cX5_loneArrow 26 = .ok (.getfield 26, 3) := by decide +kernel
theorem dX5_loneArrow_29 : decode cX5_loneArrow 29 = .ok (.iload_n 2, 1) := by decide +kernel
theorem dX5_loneArrow_30 : decode cX5_loneArrow 30 = .ok (.iaload, 1) := by decide +kernel
theorem dX5_loneArrow_31 : decode cX5_loneArrow 31 = .ok (.iconst (-1), 1) := by decide +kernel
theorem dX5_loneArrow_32 : decode cX5_loneArrow 32 = .ok (.if_icmp .ne 7, 3) := by decide +kernel
theorem dX5_loneArrow_35 : decode cX5_loneArrow 35 = .ok (.iconst 1, 1) := by decide +kernel
theorem dX5_loneArrow_36 : decode cX5_loneArrow 36 = .ok (.goto 4, 3) := by decide +kernel
theorem dX5_loneArrow_39 : decode cX5_loneArrow 39 = .ok (.iconst 0, 1) := by decide +kernel
theorem dX5_loneArrow_40 : decode cX5_loneArrow 40 = .ok (.if_icmp .eq 7, 3) := by decide +kernel
theorem dX5_loneArrow_43 : decode cX5_loneArrow 43 = .ok (.iconst 1, 1) := by decide +kernel
theorem dX5_loneArrow_44 : decode cX5_loneArrow 44 = .ok (.goto 4, 3) := by decide +kernel
theorem dX5_loneArrow_47 : decode cX5_loneArrow 47 = .ok (.iconst 0, 1) := by decide +kernel
theorem dX5_loneArrow_48 : decode cX5_loneArrow 48 = .ok (.istore_n 3, 1) := by decide +kernel
theorem dX5_loneArrow_49 : decode cX5_loneArrow 49 = .ok (.aload_n 0, 1) := by decide +kernel
theorem dX5_loneArrow_50 : decode cX5_loneArrow 50 = .ok (.getfield 23, 3) := by decide +kernel
theorem dX5_loneArrow_53 : decode cX5_loneArrow 53 = .ok (.iload_n 2, 1) := by decide +kernel
theorem dX5_loneArrow_54 : decode cX5_loneArrow 54 = .ok (.iaload, 1) := by decide +kernel
theorem dX5_loneArrow_55 : decode cX5_loneArrow 55 = .ok (.aload_n 0, 1) := by decide +kernel
theorem dX5_loneArrow_56 : decode cX5_loneArrow 56 = .ok (.getfield 26, 3) := by decide +kernel
