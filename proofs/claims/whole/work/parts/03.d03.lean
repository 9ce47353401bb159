theorem dX9_init_0 : decode cX9_init 0 = .ok (.aload_n 0, 1) := by decide +kernel
theorem dX9_init_1 : decode cX9_init 1 = .ok (.invokespecial 3, 3) := by decide +kernel
theorem dX9_init_4 : decode cX9_init 4 = .ok (.aload_n 0, 1) := by decide +kernel
theorem dX9_init_5 : decode cX9_init 5 = .ok (.new 9, 3) := by decide +kernel
theorem dX9_init_8 : decode cX9_init 8 = .ok (.dup, 1) := by decide +kernel
theorem dX9_init_9 : decode cX9_init 9 = .ok (.sipush 1024, 3) := by decide +kernel
theorem dX9_init_12 : decode cX9_init 12 = .ok (.invokespecial 11, 3) := by decide +kernel
theorem dX9_init_15 : decode cX9_init 15 = .ok (.putfield 14, 3) := by decide +kernel
theorem dX9_init_18 : decode cX9_init 18 = .ok (.aload_n 0, 1) := by decide +kernel
theorem dX9_init_19 : decode cX9_init 19 = .ok (.aload_n 1, 1) := by decide +kernel
theorem dX9_init_20 : decode cX9_init 20 = .ok (.putfield 20, 3) := by decide +kernel
theorem dX9_init_23 : decode cX9_init 23 = .ok (.return_, 1) := by decide +kernel
theorem dX9_startOn_0 : decode cX9_startOn 0 = .ok (.aload_n 0, 1) := by decide +kernel
theorem dX9_startOn_1 : decode cX9_startOn 1 = .ok (.aload_n 1, 1) := by decide +kernel
theorem dX9_startOn_2 : decode cX9_startOn 2 = .ok (.putfield 20, 3) := by decide +kernel
theorem dX9_startOn_5 : decode cX9_startOn 5 = .ok (.aload_n 0, 1) := by decide +kernel
theorem dX9_startOn_6 : decode cX9_startOn 6 = .ok (.getfield 14, 3) := by decide +kernel
theorem dX9_startOn_9 : decode cX9_startOn 9 = .ok (.invokevirtual 24, 3) := by decide +kernel
theorem dX9_startOn_12 : decode cX9_startOn 12 = .ok (.return_, 1) := by decide +kernel
theorem dX9_with_0 : decode cX9_with 0 = .ok (.aload_n 0, 1) := by decide +kernel
theorem dX9_with_1 : decode cX9_with 1 = .ok (.getfield 14, 3) := by decide +kernel
theorem dX9_with_4 : decode cX9_with 4 = .ok (.iload_n 1, 1) := by decide +kernel
theorem dX9_with_5 : decode cX9_with 5 = .ok (.invokevirtual 27, 3) := by decide +kernel
theorem dX9_with_8 : decode cX9_with 8 = .ok (.ifCond .ne 15, 3) := by decide +kernel
theorem dX9_with_11 : decode cX9_with 11 = .ok (.aload_n 0, 1) := by decide +kernel
theorem dX9_with_12 : decode cX9_with 12 = .ok (.getfield 20, 3) := by decide +kernel
theorem dX9_with_15 : decode cX9_with 15 = .ok (.iload_n 1, 1) := by decide +kernel
theorem dX9_with_16 : decode cX9_with 16 = .ok (.aload_n 0, 1) := by decide +kernel
theorem dX9_with_17 : decode cX9_with 17 = .ok (.getfield 14, 3) := by decide +kernel
theorem dX9_with_20 : decode cX9_with 20 = .ok (.invokevirtual 31, 3) := by decide +kernel
theorem dX9_with_23 : decode cX9_with 23 = .ok (.aload_n 0, 1) := by decide +kernel
theorem dX9_with_24 : decode cX9_with 24 = .ok (.getfield 14, 3) := by decide +kernel
theorem dX9_with_27 : decode cX9_with 27 = .ok (.areturn, 1) := by decide +kernel
theorem dX9_alike_0 : decode cX9_alike 0 = .ok (.aload_n 0, 1) := by decide +kernel
theorem dX9_alike_1 : decode cX9_alike 1 = .ok (.iload_n 1, 1) := by decide +kernel
theorem dX9_alike_2 : decode cX9_alike 2 = .ok (.invokevirtual 37, 3) := by decide +kernel
theorem dX9_alike_5 : decode cX9_alike 5 = .ok (.pop, 1) := by decide +kernel
theorem dX9_alike_6 : decode cX9_alike 6 = .ok (.aload_n 0, 1) := by decide +kernel
theorem dX9_alike_7 : decode cX9_alike 7 = .ok (.iload_n 2, 1) := by decide +kernel
theorem dX9_alike_8 : decode cX9_alike 8 = .ok (.invokevirtual 37, 3) := by decide +kernel
theorem dX9_alike_11 : decode cX9_alike 11 = .ok (.iload_n 1, 1) := by decide +kernel
theorem dX9_alike_12 : decode cX9_alike 12 = .ok (.aload_n 0, 1) := by decide +kernel
theorem dX9_alike_13 : decode cX9_alike 13 = .ok (.getfield 14, 3) := by decide +kernel
theorem dX9_alike_16 : decode cX9_alike 16 = .ok (.iload_n 2, 1) := by decide +kernel
theorem dX9_alike_17 : decode cX9_alike 17 = .ok (.invokevirtual 41, 3) := by decide +kernel
theorem dX9_alike_20 : decode cX9_alike 20 = .ok (.ireturn, 1) := by decide +kernel
theorem dX9_stands_0 : decode cX9_stands 0 = .ok (.aload_n 0, 1) := by decide +kernel
theorem dX9_stands_1 : decode cX9_stands 1 = .ok (.iload_n 2, 1) := by decide +kernel
theorem dX9_stands_2 : decode cX9_stands 2 = .ok (.invokevirtual 37, 3) := by decide +kernel
theorem dX9_stands_5 : decode cX9_stands 5 = .ok (.iload_n 2, 1) := by decide +kernel
theorem dX9_stands_6 : decode cX9_stands 6 = .ok (.invokevirtual 45, 3) := by decide +kernel
theorem dX9_stands_9 : decode cX9_stands 9 = .ok (.istore_n 3, 1) := by decide +kernel
theorem dX9_stands_10 : decode cX9_stands 10 = .ok (.iconst 0, 1) := by decide +kernel
theorem dX9_stands_11 : decode cX9_stands 11 = .ok (.istore 4, 2) := by decide +kernel
theorem dX9_stands_13 : decode cX9_stands 13 = .ok (.iload 4, 2) := by decide +kernel
theorem dX9_stands_15 : decode cX9_stands 15 = .ok (.iload_n 3, 1) := by decide +kernel
theorem dX9_stands_16 : decode cX9_stands 16 = .ok (.if_icmp .ge 25, 3) := by decide +kernel
theorem dX9_stands_19 : decode cX9_stands 19 = .ok (.aload_n 0, 1) := by decide +kernel
theorem dX9_stands_20 : decode cX9_stands 20 = .ok (.getfield 14, 3) := by decide +kernel
theorem dX9_stands_23 : decode cX9_stands 23 = .ok (.iload_n 2, 1) := by decide +kernel
theorem dX9_stands_24 : decode cX9_stands 24 = .ok (.iload 4, 2) := by decide +kernel
theorem dX9_stands_26 : decode cX9_stands 26 = .ok (.invokevirtual 49, 3) := by decide +kernel
theorem dX9_stands_29 : decode cX9_stands 29 = .ok (.iload_n 1, 1) := by decide +kernel
theorem dX9_stands_30 : decode cX9_stands 30 = .ok (.if_icmp .ne 5, 3) := by decide +kernel
theorem dX9_stands_33 : decode cX9_stands 33 = .ok (.iconst 1, 1) := by decide +kernel
theorem dX9_stands_34 : decode cX9_stands 34 = .ok (.ireturn, 1) := by decide +kernel
theorem dX9_stands_35 : decode cX9_stands 35 = .ok (.iinc 4 1, 3) := by decide +kernel
theorem dX9_stands_38 : decode cX9_stands 38 = .ok (.goto (-25), 3) := by decide +kernel
theorem dX9_stands_41 : decode cX9_stands 41 = .ok (.iconst 0, 1) := by decide +kernel
theorem dX9_stands_42 : decode cX9_stands 42 = .ok (.ireturn, 1) := by decide +kernel
theorem dX10_init_0 : decode cX10_init 0 = .ok (.aload_n 0, 1) := by decide +kernel
theorem dX10_init_1 : decode cX10_init 1 = .ok (.invokespecial 3, 3) := by decide +kernel
theorem dX10_init_4 : decode cX10_init 4 = .ok (.aload_n 0, 1) := by decide +kernel
theorem dX10_init_5 : decode cX10_init 5 = .ok (.sipush 1024, 3) := by decide +kernel
theorem dX10_init_8 : decode cX10_init 8 = .ok (.newarray .int, 2) := by decide +kernel
theorem dX10_init_10 : decode cX10_init 10 = .ok (.putfield 9, 3) := by decide +kernel
theorem dX10_init_13 : decode cX10_init 13 = .ok (.aload_n 0, 1) := by decide +kernel
theorem dX10_init_14 : decode cX10_init 14 = .ok (.iconst (-1), 1) := by decide +kernel
theorem dX10_init_15 : decode cX10_init 15 = .ok (.putfield 15, 3) := by decide +kernel
theorem dX10_init_18 : decode cX10_init 18 = .ok (.aload_n 0, 1) := by decide +kernel
theorem dX10_init_19 : decode cX10_init 19 = .ok (.aload_n 1, 1) := by decide +kernel
theorem dX10_init_20 : decode cX10_init 20 = .ok (.putfield 19, 3) := by decide +kernel
theorem dX10_init_23 : decode cX10_init 23 = .ok (.aload_n 0, 1) := by decide +kernel
theorem dX10_init_24 : decode cX10_init 24 = .ok (.aload_n 2, 1) := by decide +kernel
theorem dX10_init_25 : decode cX10_init 25 = .ok (.putfield 23, 3) := by decide +kernel
theorem dX10_init_28 : decode cX10_init 28 = .ok (.aload_n 0, 1) := by decide +kernel
theorem dX10_init_29 : decode cX10_init 29 = .ok (.aload_n 3, 1) := by decide +kernel
theorem dX10_init_30 : decode cX10_init 30 = .ok (.putfield 27, 3) := by decide +kernel
theorem dX10_init_33 : decode cX10_init 33 = .ok (.return_, 1) := by decide +kernel
theorem dX10_number_0 : decode cX10_number 0 = .ok (.aload_n 0, 1) := by decide +kernel
theorem dX10_number_1 : decode cX10_number 1 = .ok (.getfield 15, 3) := by decide +kernel
theorem dX10_number_4 : decode cX10_number 4 = .ok (.aload_n 0, 1) := by decide +kernel
theorem dX10_number_5 : decode cX10_number 5 = .ok (.getfield 19, 3) := by decide +kernel
theorem dX10_number_8 : decode cX10_number 8 = .ok (.getfield 31, 3) := by decide +kernel
theorem dX10_number_11 : decode cX10_number 11 = .ok (.if_icmp .eq 18, 3) := by decide +kernel
theorem dX10_number_14 : decode cX10_number 14 = .ok (.aload_n 0, 1) := by decide +kernel
theorem dX10_number_15 : decode cX10_number 15 = .ok (.aload_n 0, 1) := by decide +kernel
theorem dX10_number_16 : decode cX10_number 16 = .ok (.getfield 19, 3) := by decide +kernel
theorem dX10_number_19 : decode cX10_number 19 = .ok (.getfield 31, 3) := by decide +kernel
theorem dX10_number_22 : decode cX10_number 22 = .ok (.putfield 15, 3) := by decide +kernel
theorem dX10_number_25 : decode cX10_number 25 = .ok (.aload_n 0, 1) := by decide +kernel
theorem dX10_number_26 : decode cX10_number 26 = .ok (.invokevirtual 36, 3) := by decide +kernel
theorem dX10_number_29 : decode cX10_number 29 = .ok (.aload_n 0, 1) := by decide +kernel
theorem dX10_number_30 : decode cX10_number 30 = .ok (.getfield 39, 3) := by decide +kernel
theorem dX10_number_33 : decode cX10_number 33 = .ok (.ireturn, 1) := by decide +kernel
theorem dX10_leastSet_0 : decode cX10_leastSet 0 = .ok (.iload_n 1, 1) := by decide +kernel
theorem dX10_leastSet_1 : decode cX10_leastSet 1 = .ok (.ifCond .lt 11, 3) := by decide +kernel
theorem dX10_leastSet_4 : decode cX10_leastSet 4 = .ok (.iload_n 1, 1) := by decide +kernel
theorem dX10_leastSet_5 : decode cX10_leastSet 5 = .ok (.aload_n 0, 1) := by decide +kernel
theorem dX10_leastSet_6 : decode cX10_leastSet 6 = .ok (.invokevirtual 42, 3) := by decide +kernel
theorem dX10_leastSet_9 : decode cX10_leastSet 9 = .ok (.if_icmp .lt 7, 3) := by decide +kernel
theorem dX10_leastSet_12 : decode cX10_leastSet 12 = .ok (.iconst (-1), 1) := by decide +kernel
theorem dX10_leastSet_13 : decode cX10_leastSet 13 = .ok (.goto 9, 3) := by decide +kernel
theorem dX10_leastSet_16 : decode cX10_leastSet 16 = .ok (.aload_n 0, 1) := by decide +kernel
theorem dX10_leastSet_17 : decode cX10_leastSet 17 = .ok (.getfield 9, 3) := by decide +kernel
theorem dX10_leastSet_20 : decode cX10_leastSet 20 = .ok (.iload_n 1, 1) := by decide +kernel
theorem dX10_leastSet_21 : decode cX10_leastSet 21 = .ok (.iaload, 1) := by decide +kernel
theorem dX10_leastSet_22 : decode cX10_leastSet 22 = .ok (.ireturn, 1) := by decide +kernel
theorem dX10_findAll_0 : decode cX10_findAll 0 = .ok (.aload_n 0, 1) := by decide +kernel
theorem dX10_findAll_1 : decode cX10_findAll 1 = .ok (.iconst 0, 1) := by decide +kernel
theorem dX10_findAll_2 : decode cX10_findAll 2 = .ok (.putfield 39, 3) := by decide +kernel
theorem dX10_findAll_5 : decode cX10_findAll 5 = .ok (.aload_n 0, 1) := by decide +kernel
theorem dX10_findAll_6 : decode cX10_findAll 6 = .ok (.getfield 27, 3) := by decide +kernel
theorem dX10_findAll_9 : decode cX10_findAll 9 = .ok (.ldc2_w 46, 3) := by decide +kernel
theorem dX10_findAll_12 : decode cX10_findAll 12 = .ok (.invokestatic 48, 3) := by decide +kernel
theorem dX10_findAll_15 : decode cX10_findAll 15 = .ok (.iconst 0, 1) := by decide +kernel
theorem dX10_findAll_16 : decode cX10_findAll 16 = .ok (.istore_n 1, 1) := by decide +kernel
theorem dX10_findAll_17 : decode cX10_findAll 17 = .ok (.iload_n 1, 1) := by decide +kernel
theorem dX10_findAll_18 : decode cX10_findAll 18 = .ok (.aload_n 0, 1) := by decide +kernel
theorem dX10_findAll_19 : decode cX10_findAll 19 = .ok (.getfield 19, 3) := by decide +kernel
theorem dX10_findAll_22 : decode cX10_findAll 22 = .ok (.invokevirtual 54, 3) := by decide +kernel
theorem dX10_findAll_25 : decode cX10_findAll 25 = .ok (.if_icmp .ge 65, 3) := by decide +kernel
theorem dX10_findAll_28 : decode cX10_findAll 28 = .ok (.aload_n 0, 1) := by decide +kernel
theorem dX10_findAll_29 : decode cX10_findAll 29 = .ok (.getfield 19, 3) := by decide +kernel
theorem dX10_findAll_32 : decode cX10_findAll 32 = .ok (.iload_n 1, 1) := by decide +kernel
theorem dX10_findAll_33 : decode cX10_findAll 33 = .ok (.invokevirtual 57, 3) := by decide +kernel
theorem dX10_findAll_36 : decode cX10_findAll 36 = .ok (.istore_n 2, 1) := by decide +kernel
theorem dX10_findAll_37 : decode cX10_findAll 37 = .ok (.aload_n 0, 1) := by decide +kernel
theorem dX10_findAll_38 : decode cX10_findAll 38 = .ok (.iload_n 2, 1) := by decide +kernel
theorem dX10_findAll_39 : decode cX10_findAll 39 = .ok (.invokevirtual 61, 3) := by decide +kernel
theorem dX10_findAll_42 : decode cX10_findAll 42 = .ok (.istore_n 3, 1) := by decide +kernel
theorem dX10_findAll_43 : decode cX10_findAll 43 = .ok (.aload_n 0, 1) := by decide +kernel
theorem dX10_findAll_44 : decode cX10_findAll 44 = .ok (.getfield 27, 3) := by decide +kernel
theorem dX10_findAll_47 : decode cX10_findAll 47 = .ok (.iload_n 3, 1) := by decide +kernel
theorem dX10_findAll_48 : decode cX10_findAll 48 = .ok (.laload, 1) := by decide +kernel
theorem dX10_findAll_49 : decode cX10_findAll 49 = .ok (.ldc2_w 46, 3) := by decide +kernel
theorem dX10_findAll_52 : decode cX10_findAll 52 = .ok (.lcmp, 1) := by decide +kernel
theorem dX10_findAll_53 : decode cX10_findAll 53 = .ok (.ifCond .ne 31, 3) := by decide +kernel
theorem dX10_findAll_56 : decode cX10_findAll 56 = .ok (.aload_n 0, 1) := by decide +kernel
theorem dX10_findAll_57 : decode cX10_findAll 57 = .ok (.getfield 27, 3) := by decide +kernel
theorem dX10_findAll_60 : decode cX10_findAll 60 = .ok (.iload_n 3, 1) := by decide +kernel
theorem dX10_findAll_61 : decode cX10_findAll 61 = .ok (.iload_n 2, 1) := by decide +kernel
theorem dX10_findAll_62 : decode cX10_findAll 62 = .ok (.i2l, 1) := by decide +kernel
theorem dX10_findAll_63 : decode cX10_findAll 63 = .ok (.lastore, 1) := by decide +kernel
theorem dX10_findAll_64 : decode cX10_findAll 64 = .ok (.aload_n 0, 1) := by decide +kernel
theorem dX10_findAll_65 : decode cX10_findAll 65 = .ok (.getfield 9, 3) := by decide +kernel
theorem dX10_findAll_68 : decode cX10_findAll 68 = .ok (.aload_n 0, 1) := by decide +kernel
theorem dX10_findAll_69 : decode cX10_findAll 69 = .ok (.getfield 39, 3) := by decide +kernel
theorem dX10_findAll_72 : decode cX10_findAll 72 = .ok (.iload_n 2, 1) := by decide +kernel
theorem dX10_findAll_73 : decode cX10_findAll 73 = .ok (.iastore, 1) := by decide +kernel
theorem dX10_findAll_74 : decode cX10_findAll 74 = .ok (.aload_n 0, 1) := by decide +kernel
theorem dX10_findAll_75 : decode cX10_findAll 75 = .ok (.dup, 1) := by decide +kernel
theorem dX10_findAll_76 : decode cX10_findAll 76 = .ok (.getfield 39, 3) := by decide +kernel
theorem dX10_findAll_79 : decode cX10_findAll 79 = .ok (.iconst 1, 1) := by decide +kernel
theorem dX10_findAll_80 : decode cX10_findAll 80 = .ok (.iadd, 1) := by decide +kernel
theorem dX10_findAll_81 : decode cX10_findAll 81 = .ok (.putfield 39, 3) := by decide +kernel
theorem dX10_findAll_84 : decode cX10_findAll 84 = .ok (.iinc 1 1, 3) := by decide +kernel
theorem dX10_findAll_87 : decode cX10_findAll 87 = .ok (.goto (-70), 3) := by decide +kernel
theorem dX10_findAll_90 : decode cX10_findAll 90 = .ok (.return_, 1) := by decide +kernel
theorem dX10_slotFor_0 : decode cX10_slotFor 0 = .ok (.aload_n 0, 1) := by decide +kernel
theorem dX10_slotFor_1 : decode cX10_slotFor 1 = .ok (.getfield 23, 3) := by decide +kernel
theorem dX10_slotFor_4 : decode cX10_slotFor 4 = .ok (.iload_n 1, 1) := by decide +kernel
theorem dX10_slotFor_5 : decode cX10_slotFor 5 = .ok (.invokevirtual 64, 3) := by decide +kernel
theorem dX10_slotFor_8 : decode cX10_slotFor 8 = .ok (.astore_n 2, 1) := by decide +kernel
theorem dX10_slotFor_9 : decode cX10_slotFor 9 = .ok (.aload_n 2, 1) := by decide +kernel
theorem dX10_slotFor_10 : decode cX10_slotFor 10 = .ok (.iload_n 1, 1) := by decide +kernel
theorem dX10_slotFor_11 : decode cX10_slotFor 11 = .ok (.sipush 2048, 3) := by decide +kernel
theorem dX10_slotFor_14 : decode cX10_slotFor 14 = .ok (.invokevirtual 70, 3) := by decide +kernel
theorem dX10_slotFor_17 : decode cX10_slotFor 17 = .ok (.istore_n 3, 1) := by decide +kernel
theorem dX10_slotFor_18 : decode cX10_slotFor 18 = .ok (.iconst 0, 1) := by decide +kernel
theorem dX10_slotFor_19 : decode cX10_slotFor 19 = .ok (.istore 4, 2) := by decide +kernel
theorem dX10_slotFor_21 : decode cX10_slotFor 21 = .ok (.iload 4, 2) := by decide +kernel
theorem dX10_slotFor_23 : decode cX10_slotFor 23 = .ok (.sipush 2048, 3) := by decide +kernel
theorem dX10_slotFor_26 : decode cX10_slotFor 26 = .ok (.if_icmp .ge 57, 3) := by decide +kernel
theorem dX10_slotFor_29 : decode cX10_slotFor 29 = .ok (.aload_n 0, 1) := by decide +kernel
theorem dX10_slotFor_30 : decode cX10_slotFor 30 = .ok (.getfield 27, 3) := by decide +kernel
theorem dX10_slotFor_33 : decode cX10_slotFor 33 = .ok (.iload_n 3, 1) := by decide +kernel
theorem dX10_slotFor_34 : decode cX10_slotFor 34 = .ok (.laload, 1) := by decide +kernel
theorem dX10_slotFor_35 : decode cX10_slotFor 35 = .ok (.ldc2_w 46, 3) := by decide +kernel
theorem dX10_slotFor_38 : decode cX10_slotFor 38 = .ok (.lcmp, 1) := by decide +kernel
theorem dX10_slotFor_39 : decode cX10_slotFor 39 = .ok (.ifCond .eq 19, 3) := by decide +kernel
theorem dX10_slotFor_42 : decode cX10_slotFor 42 = .ok (.aload_n 2, 1) := by decide +kernel
theorem dX10_slotFor_43 : decode cX10_slotFor 43 = .ok (.iload_n 1, 1) := by decide +kernel
theorem dX10_slotFor_44 : decode cX10_slotFor 44 = .ok (.aload_n 2, 1) := by decide +kernel
theorem dX10_slotFor_45 : decode cX10_slotFor 45 = .ok (.aload_n 0, 1) := by decide +kernel
theorem dX10_slotFor_46 : decode cX10_slotFor 46 = .ok (.getfield 27, 3) := by decide +kernel
theorem dX10_slotFor_49 : decode cX10_slotFor 49 = .ok (.iload_n 3, 1) := by decide +kernel
theorem dX10_slotFor_50 : decode cX10_slotFor 50 = .ok (.laload, 1) := by decide +kernel
theorem dX10_slotFor_51 : decode cX10_slotFor 51 = .ok (.l2i, 1) := by decide +kernel
theorem dX10_slotFor_52 : decode cX10_slotFor 52 = .ok (.invokevirtual 76, 3) := by decide +kernel
theorem dX10_slotFor_55 : decode cX10_slotFor 55 = .ok (.ifCond .eq 5, 3) := by decide +kernel
theorem dX10_slotFor_58 : decode cX10_slotFor 58 = .ok (.iload_n 3, 1) := by decide +kernel
theorem dX10_slotFor_59 : decode cX10_slotFor 59 = .ok (.ireturn, 1) := by decide +kernel
theorem dX10_slotFor_60 : decode cX10_slotFor 60 = .ok (.iload_n 3, 1) := by decide +kernel
theorem dX10_slotFor_61 : decode cX10_slotFor 61 = .ok (.iconst 1, 1) := by decide +kernel
theorem dX10_slotFor_62 : decode cX10_slotFor 62 = .ok (.iadd, 1) := by decide +kernel
theorem dX10_slotFor_63 : decode cX10_slotFor 63 = .ok (.sipush 2048, 3) := by decide +kernel
theorem dX10_slotFor_66 : decode cX10_slotFor 66 = .ok (.if_icmp .ge 9, 3) := by decide +kernel
theorem dX10_slotFor_69 : decode cX10_slotFor 69 = .ok (.iload_n 3, 1) := by decide +kernel
theorem dX10_slotFor_70 : decode cX10_slotFor 70 = .ok (.iconst 1, 1) := by decide +kernel
theorem dX10_slotFor_71 : decode cX10_slotFor 71 = .ok (.iadd, 1) := by decide +kernel
theorem dX10_slotFor_72 : decode cX10_slotFor 72 = .ok (.goto 4, 3) := by decide +kernel
theorem dX10_slotFor_75 : decode cX10_slotFor 75 = .ok (.iconst 0, 1) := by decide +kernel
theorem dX10_slotFor_76 : decode cX10_slotFor 76 = .ok (.istore_n 3, 1) := by decide +kernel
theorem dX10_slotFor_77 : decode cX10_slotFor 77 = .ok (.iinc 4 1, 3) := by decide +kernel
theorem dX10_slotFor_80 : decode cX10_slotFor 80 = .ok (.goto (-59), 3) := by decide +kernel
theorem dX10_slotFor_83 : decode cX10_slotFor 83 = .ok (.iload_n 3, 1) := by decide +kernel
theorem dX10_slotFor_84 : decode cX10_slotFor 84 = .ok (.ireturn, 1) := by decide +kernel
theorem dX11_init_0 : decode cX11_init 0 = .ok (.aload_n 0, 1) := by decide +kernel
theorem dX11_init_1 : decode cX11_init 1 = .ok (.invokespecial 3, 3) := by decide +kernel
theorem dX11_init_4 : decode cX11_init 4 = .ok (.sipush 4096, 3) := by decide +kernel
theorem dX11_init_7 : decode cX11_init 7 = .ok (.newarray .long, 2) := by decide +kernel
theorem dX11_init_9 : decode cX11_init 9 = .ok (.astore_n 1, 1) := by decide +kernel
theorem dX11_init_10 : decode cX11_init 10 = .ok (.aload_n 0, 1) := by decide +kernel
theorem dX11_init_11 : decode cX11_init 11 = .ok (.new 9, 3) := by decide +kernel
theorem dX11_init_14 : decode cX11_init 14 = .ok (.dup, 1) := by decide +kernel
theorem dX11_init_15 : decode cX11_init 15 = .ok (.invokespecial 11, 3) := by decide +kernel
theorem dX11_init_18 : decode cX11_init 18 = .ok (.putfield 12, 3) := by decide +kernel
theorem dX11_init_21 : decode cX11_init 21 = .ok (.aload_n 0, 1) := by decide +kernel
theorem dX11_init_22 : decode cX11_init 22 = .ok (.new 9, 3) := by decide +kernel
theorem dX11_init_25 : decode cX11_init 25 = .ok (.dup, 1) := by decide +kernel
theorem dX11_init_26 : decode cX11_init 26 = .ok (.invokespecial 11, 3) := by decide +kernel
theorem dX11_init_29 : decode cX11_init 29 = .ok (.putfield 16, 3) := by decide +kernel
theorem dX11_init_32 : decode cX11_init 32 = .ok (.aload_n 0, 1) := by decide +kernel
theorem dX11_init_33 : decode cX11_init 33 = .ok (.new 19, 3) := by decide +kernel
theorem dX11_init_36 : decode cX11_init 36 = .ok (.dup, 1) := by decide +kernel
theorem dX11_init_37 : decode cX11_init 37 = .ok (.aload_n 0, 1) := by decide +kernel
theorem dX11_init_38 : decode cX11_init 38 = .ok (.getfield 16, 3) := by decide +kernel
theorem dX11_init_41 : decode cX11_init 41 = .ok (.invokespecial 21, 3) := by decide +kernel
theorem dX11_init_44 : decode cX11_init 44 = .ok (.putfield 24, 3) := by decide +kernel
theorem dX11_init_47 : decode cX11_init 47 = .ok (.aload_n 0, 1) := by decide +kernel
theorem dX11_init_48 : decode cX11_init 48 = .ok (.new 28, 3) := by decide +kernel
theorem dX11_init_51 : decode cX11_init 51 = .ok (.dup, 1) := by decide +kernel
theorem dX11_init_52 : decode cX11_init 52 = .ok (.aload_n 0, 1) := by decide +kernel
theorem dX11_init_53 : decode cX11_init 53 = .ok (.getfield 12, 3) := by decide +kernel
theorem dX11_init_56 : decode cX11_init 56 = .ok (.invokespecial 30, 3) := by decide +kernel
theorem dX11_init_59 : decode cX11_init 59 = .ok (.putfield 31, 3) := by decide +kernel
theorem dX11_init_62 : decode cX11_init 62 = .ok (.aload_n 0, 1) := by decide +kernel
theorem dX11_init_63 : decode cX11_init 63 = .ok (.new 35, 3) := by decide +kernel
theorem dX11_init_66 : decode cX11_init 66 = .ok (.dup, 1) := by decide +kernel
theorem dX11_init_67 : decode cX11_init 67 = .ok (.aload_n 0, 1) := by decide +kernel
theorem dX11_init_68 : decode cX11_init 68 = .ok (.getfield 12, 3) := by decide +kernel
theorem dX11_init_71 : decode cX11_init 71 = .ok (.invokespecial 37, 3) := by decide +kernel
theorem dX11_init_74 : decode cX11_init 74 = .ok (.putfield 38, 3) := by decide +kernel
theorem dX11_init_77 : decode cX11_init 77 = .ok (.aload_n 0, 1) := by decide +kernel
theorem dX11_init_78 : decode cX11_init 78 = .ok (.new 42, 3) := by decide +kernel
theorem dX11_init_81 : decode cX11_init 81 = .ok (.dup, 1) := by decide +kernel
theorem dX11_init_82 : decode cX11_init 82 = .ok (.invokespecial 44, 3) := by decide +kernel
theorem dX11_init_85 : decode cX11_init 85 = .ok (.putfield 45, 3) := by decide +kernel
theorem dX11_init_88 : decode cX11_init 88 = .ok (.aload_n 0, 1) := by decide +kernel
theorem dX11_init_89 : decode cX11_init 89 = .ok (.new 49, 3) := by decide +kernel
theorem dX11_init_92 : decode cX11_init 92 = .ok (.dup, 1) := by decide +kernel
theorem dX11_init_93 : decode cX11_init 93 = .ok (.aload_n 0, 1) := by decide +kernel
theorem dX11_init_94 : decode cX11_init 94 = .ok (.getfield 31, 3) := by decide +kernel
theorem dX11_init_97 : decode cX11_init 97 = .ok (.aload_n 0, 1) := by decide +kernel
theorem dX11_init_98 : decode cX11_init 98 = .ok (.getfield 38, 3) := by decide +kernel
theorem dX11_init_101 : decode cX11_init 101 = .ok (.aload_n 0, 1) := by decide +kernel
theorem dX11_init_102 : decode cX11_init 102 = .ok (.getfield 45, 3) := by decide +kernel
theorem dX11_init_105 : decode cX11_init 105 = .ok (.aload_n 1, 1) := by decide +kernel
theorem dX11_init_106 : decode cX11_init 106 = .ok (.invokespecial 51, 3) := by decide +kernel
theorem dX11_init_109 : decode cX11_init 109 = .ok (.putfield 54, 3) := by decide +kernel
theorem dX11_init_112 : decode cX11_init 112 = .ok (.aload_n 0, 1) := by decide +kernel
theorem dX11_init_113 : decode cX11_init 113 = .ok (.new 58, 3) := by decide +kernel
theorem dX11_init_116 : decode cX11_init 116 = .ok (.dup, 1) := by decide +kernel
theorem dX11_init_117 : decode cX11_init 117 = .ok (.aload_n 0, 1) := by decide +kernel
theorem dX11_init_118 : decode cX11_init 118 = .ok (.getfield 31, 3) := by decide +kernel
theorem dX11_init_121 : decode cX11_init 121 = .ok (.aload_n 0, 1) := by decide +kernel
theorem dX11_init_122 : decode cX11_init 122 = .ok (.getfield 38, 3) := by decide +kernel
theorem dX11_init_125 : decode cX11_init 125 = .ok (.aload_n 0, 1) := by decide +kernel
theorem dX11_init_126 : decode cX11_init 126 = .ok (.getfield 45, 3) := by decide +kernel
theorem dX11_init_129 : decode cX11_init 129 = .ok (.aload_n 1, 1) := by decide +kernel
theorem dX11_init_130 : decode cX11_init 130 = .ok (.invokespecial 60, 3) := by decide +kernel
theorem dX11_init_133 : decode cX11_init 133 = .ok (.putfield 61, 3) := by decide +kernel
theorem dX11_init_136 : decode cX11_init 136 = .ok (.aload_n 0, 1) := by decide +kernel
theorem dX11_init_137 : decode cX11_init 137 = .ok (.new 65, 3) := by decide +kernel
theorem dX11_init_140 : decode cX11_init 140 = .ok (.dup, 1) := by decide +kernel
theorem dX11_init_141 : decode cX11_init 141 = .ok (.aload_n 0, 1) := by decide +kernel
theorem dX11_init_142 : decode cX11_init 142 = .ok (.getfield 31, 3) := by decide +kernel
theorem dX11_init_145 : decode cX11_init 145 = .ok (.aload_n 0, 1) := by decide +kernel
theorem dX11_init_146 : decode cX11_init 146 = .ok (.getfield 38, 3) := by decide +kernel
theorem dX11_init_149 : decode cX11_init 149 = .ok (.aload_n 1, 1) := by decide +kernel
theorem dX11_init_150 : decode cX11_init 150 = .ok (.invokespecial 67, 3) := by decide +kernel
theorem dX11_init_153 : decode cX11_init 153 = .ok (.putfield 70, 3) := by decide +kernel
theorem dX11_init_156 : decode cX11_init 156 = .ok (.aload_n 0, 1) := by decide +kernel
theorem dX11_init_157 : decode cX11_init 157 = .ok (.new 74, 3) := by decide +kernel
theorem dX11_init_160 : decode cX11_init 160 = .ok (.dup, 1) := by decide +kernel
theorem dX11_init_161 : decode cX11_init 161 = .ok (.iconst 5, 1) := by decide +kernel
theorem dX11_init_162 : decode cX11_init 162 = .ok (.invokespecial 76, 3) := by decide +kernel
theorem dX11_init_165 : decode cX11_init 165 = .ok (.putfield 79, 3) := by decide +kernel
theorem dX11_init_168 : decode cX11_init 168 = .ok (.aload_n 0, 1) := by decide +kernel
theorem dX11_init_169 : decode cX11_init 169 = .ok (.new 83, 3) := by decide +kernel
theorem dX11_init_172 : decode cX11_init 172 = .ok (.dup, 1) := by decide +kernel
theorem dX11_init_173 : decode cX11_init 173 = .ok (.invokespecial 85, 3) := by decide +kernel
theorem dX11_init_176 : decode cX11_init 176 = .ok (.putfield 86, 3) := by decide +kernel
theorem dX11_init_179 : decode cX11_init 179 = .ok (.aload_n 0, 1) := by decide +kernel
theorem dX11_init_180 : decode cX11_init 180 = .ok (.new 90, 3) := by decide +kernel
theorem dX11_init_183 : decode cX11_init 183 = .ok (.dup, 1) := by decide +kernel
theorem dX11_init_184 : decode cX11_init 184 = .ok (.aload_n 0, 1) := by decide +kernel
theorem dX11_init_185 : decode cX11_init 185 = .ok (.getfield 31, 3) := by decide +kernel
theorem dX11_init_188 : decode cX11_init 188 = .ok (.aload_n 0, 1) := by decide +kernel
theorem dX11_init_189 : decode cX11_init 189 = .ok (.getfield 38, 3) := by decide +kernel
theorem dX11_init_192 : decode cX11_init 192 = .ok (.aload_n 0, 1) := by decide +kernel
theorem dX11_init_193 : decode cX11_init 193 = .ok (.getfield 79, 3) := by decide +kernel
theorem dX11_init_196 : decode cX11_init 196 = .ok (.aload_n 0, 1) := by decide +kernel
theorem dX11_init_197 : decode cX11_init 197 = .ok (.getfield 86, 3) := by decide +kernel
theorem dX11_init_200 : decode cX11_init 200 = .ok (.aload_n 1, 1) := by decide +kernel
theorem dX11_init_201 : decode cX11_init 201 = .ok (.invokespecial 92, 3) := by decide +kernel
theorem dX11_init_204 : decode cX11_init 204 = .ok (.putfield 95, 3) := by decide +kernel
theorem dX11_init_207 : decode cX11_init 207 = .ok (.aload_n 0, 1) := by decide +kernel
theorem dX11_init_208 : decode cX11_init 208 = .ok (.iconst (-1), 1) := by decide +kernel
theorem dX11_init_209 : decode cX11_init 209 = .ok (.putfield 99, 3) := by decide +kernel
theorem dX11_init_212 : decode cX11_init 212 = .ok (.return_, 1) := by decide +kernel
theorem dX11_feed_0 : decode cX11_feed 0 = .ok (.iload_n 1, 1) := by decide +kernel
theorem dX11_feed_1 : decode cX11_feed 1 = .ok (.iconst 1, 1) := by decide +kernel
theorem dX11_feed_2 : decode cX11_feed 2 = .ok (.if_icmp .lt 9, 3) := by decide +kernel
theorem dX11_feed_5 : decode cX11_feed 5 = .ok (.iload_n 1, 1) := by decide +kernel
theorem dX11_feed_6 : decode cX11_feed 6 = .ok (.bipush 8, 2) := by decide +kernel
theorem dX11_feed_8 : decode cX11_feed 8 = .ok (.if_icmp .le 7, 3) := by decide +kernel
theorem dX11_feed_11 : decode cX11_feed 11 = .ok (.sipush (-1002), 3) := by decide +kernel
theorem dX11_feed_14 : decode cX11_feed 14 = .ok (.ireturn, 1) := by decide +kernel
theorem dX11_feed_15 : decode cX11_feed 15 = .ok (.aload_n 0, 1) := by decide +kernel
theorem dX11_feed_16 : decode cX11_feed 16 = .ok (.getfield 24, 3) := by decide +kernel
theorem dX11_feed_19 : decode cX11_feed 19 = .ok (.getfield 103, 3) := by decide +kernel
theorem dX11_feed_22 : decode cX11_feed 22 = .ok (.iload_n 1, 1) := by decide +kernel
theorem dX11_feed_23 : decode cX11_feed 23 = .ok (.iadd, 1) := by decide +kernel
theorem dX11_feed_24 : decode cX11_feed 24 = .ok (.sipush 400, 3) := by decide +kernel
theorem dX11_feed_27 : decode cX11_feed 27 = .ok (.if_icmp .le 7, 3) := by decide +kernel
theorem dX11_feed_30 : decode cX11_feed 30 = .ok (.sipush (-1004), 3) := by decide +kernel
theorem dX11_feed_33 : decode cX11_feed 33 = .ok (.ireturn, 1) := by decide +kernel
theorem dX11_feed_34 : decode cX11_feed 34 = .ok (.iload_n 1, 1) := by decide +kernel
theorem dX11_feed_35 : decode cX11_feed 35 = .ok (.iconst 1, 1) := by decide +kernel
theorem dX11_feed_36 : decode cX11_feed 36 = .ok (.isub, 1) := by decide +kernel
theorem dX11_feed_37 : decode cX11_feed 37 = .ok (.istore 4, 2) := by decide +kernel
theorem dX11_feed_39 : decode cX11_feed 39 = .ok (.iload 4, 2) := by decide +kernel
theorem dX11_feed_41 : decode cX11_feed 41 = .ok (.ifCond .lt 28, 3) := by decide +kernel
theorem dX11_feed_44 : decode cX11_feed 44 = .ok (.aload_n 0, 1) := by decide +kernel
theorem dX11_feed_45 : decode cX11_feed 45 = .ok (.getfield 24, 3) := by decide +kernel
theorem dX11_feed_48 : decode cX11_feed 48 = .ok (.lload_n 2, 1) := by decide +kernel
theorem dX11_feed_49 : decode cX11_feed 49 = .ok (.bipush 8, 2) := by decide +kernel
theorem dX11_feed_51 : decode cX11_feed 51 = .ok (.iload 4, 2) := by decide +kernel
theorem dX11_feed_53 : decode cX11_feed 53 = .ok (.imul, 1) := by decide +kernel
theorem dX11_feed_54 : decode cX11_feed 54 = .ok (.lushr, 1) := by decide +kernel
theorem dX11_feed_55 : decode cX11_feed 55 = .ok (.l2i, 1) := by decide +kernel
theorem dX11_feed_56 : decode cX11_feed 56 = .ok (.sipush 255, 3) := by decide +kernel
theorem dX11_feed_59 : decode cX11_feed 59 = .ok (.iand, 1) := by decide +kernel
theorem dX11_feed_60 : decode cX11_feed 60 = .ok (.invokevirtual 106, 3) := by decide +kernel
theorem dX11_feed_63 : decode cX11_feed 63 = .ok (.iinc 4 (-1), 3) := by decide +kernel
theorem dX11_feed_66 : decode cX11_feed 66 = .ok (.goto (-27), 3) := by decide +kernel
theorem dX11_feed_69 : decode cX11_feed 69 = .ok (.aload_n 0, 1) := by decide +kernel
theorem dX11_feed_70 : decode cX11_feed 70 = .ok (.getfield 24, 3) := by decide +kernel
theorem dX11_feed_73 : decode cX11_feed 73 = .ok (.getfield 103, 3) := by decide +kernel
theorem dX11_feed_76 : decode cX11_feed 76 = .ok (.ireturn, 1) := by decide +kernel
theorem dX11_sheet_0 : decode cX11_sheet 0 = .ok (.aload_n 0, 1) := by decide +kernel
theorem dX11_sheet_1 : decode cX11_sheet 1 = .ok (.getfield 24, 3) := by decide +kernel
theorem dX11_sheet_4 : decode cX11_sheet 4 = .ok (.aload_n 0, 1) := by decide +kernel
theorem dX11_sheet_5 : decode cX11_sheet 5 = .ok (.getfield 16, 3) := by decide +kernel
theorem dX11_sheet_8 : decode cX11_sheet 8 = .ok (.invokevirtual 109, 3) := by decide +kernel
theorem dX11_sheet_11 : decode cX11_sheet 11 = .ok (.istore_n 1, 1) := by decide +kernel
theorem dX11_sheet_12 : decode cX11_sheet 12 = .ok (.aload_n 0, 1) := by decide +kernel
theorem dX11_sheet_13 : decode cX11_sheet 13 = .ok (.aload_n 0, 1) := by decide +kernel
theorem dX11_sheet_14 : decode cX11_sheet 14 = .ok (.getfield 24, 3) := by decide +kernel
theorem dX11_sheet_17 : decode cX11_sheet 17 = .ok (.getfield 113, 3) := by decide +kernel
theorem dX11_sheet_20 : decode cX11_sheet 20 = .ok (.putfield 99, 3) := by decide +kernel
theorem dX11_sheet_23 : decode cX11_sheet 23 = .ok (.iload_n 1, 1) := by decide +kernel
theorem dX11_sheet_24 : decode cX11_sheet 24 = .ok (.ifCond .eq 8, 3) := by decide +kernel
theorem dX11_sheet_27 : decode cX11_sheet 27 = .ok (.bipush (-10), 2) := by decide +kernel
theorem dX11_sheet_29 : decode cX11_sheet 29 = .ok (.iload_n 1, 1) := by decide +kernel
theorem dX11_sheet_30 : decode cX11_sheet 30 = .ok (.isub, 1) := by decide +kernel
theorem dX11_sheet_31 : decode cX11_sheet 31 = .ok (.ireturn, 1) := by decide +kernel
theorem dX11_sheet_32 : decode cX11_sheet 32 = .ok (.aload_n 0, 1) := by decide +kernel
theorem dX11_sheet_33 : decode cX11_sheet 33 = .ok (.getfield 12, 3) := by decide +kernel
theorem dX11_sheet_36 : decode cX11_sheet 36 = .ok (.astore_n 2, 1) := by decide +kernel
theorem dX11_sheet_37 : decode cX11_sheet 37 = .ok (.aload_n 0, 1) := by decide +kernel
theorem dX11_sheet_38 : decode cX11_sheet 38 = .ok (.aload_n 0, 1) := by decide +kernel
theorem dX11_sheet_39 : decode cX11_sheet 39 = .ok (.getfield 16, 3) := by decide +kernel
theorem dX11_sheet_42 : decode cX11_sheet 42 = .ok (.putfield 12, 3) := by decide +kernel
theorem dX11_sheet_45 : decode cX11_sheet 45 = .ok (.aload_n 0, 1) := by decide +kernel
theorem dX11_sheet_46 : decode cX11_sheet 46 = .ok (.aload_n 2, 1) := by decide +kernel
theorem dX11_sheet_47 : decode cX11_sheet 47 = .ok (.putfield 16, 3) := by decide +kernel
theorem dX11_sheet_50 : decode cX11_sheet 50 = .ok (.aload_n 0, 1) := by decide +kernel
theorem dX11_sheet_51 : decode cX11_sheet 51 = .ok (.getfield 31, 3) := by decide +kernel
theorem dX11_sheet_54 : decode cX11_sheet 54 = .ok (.aload_n 0, 1) := by decide +kernel
theorem dX11_sheet_55 : decode cX11_sheet 55 = .ok (.getfield 12, 3) := by decide +kernel
theorem dX11_sheet_58 : decode cX11_sheet 58 = .ok (.invokevirtual 116, 3) := by decide +kernel
theorem dX11_sheet_61 : decode cX11_sheet 61 = .ok (.aload_n 0, 1) := by decide +kernel
theorem dX11_sheet_62 : decode cX11_sheet 62 = .ok (.getfield 38, 3) := by decide +kernel
theorem dX11_sheet_65 : decode cX11_sheet 65 = .ok (.aload_n 0, 1) := by decide +kernel
theorem dX11_sheet_66 : decode cX11_sheet 66 = .ok (.getfield 12, 3) := by decide +kernel
theorem dX11_sheet_69 : decode cX11_sheet 69 = .ok (.invokevirtual 119, 3) := by decide +kernel
theorem dX11_sheet_72 : decode cX11_sheet 72 = .ok (.aload_n 0, 1) := by decide +kernel
theorem dX11_sheet_73 : decode cX11_sheet 73 = .ok (.getfield 12, 3) := by decide +kernel
theorem dX11_sheet_76 : decode cX11_sheet 76 = .ok (.getfield 120, 3) := by decide +kernel
theorem dX11_sheet_79 : decode cX11_sheet 79 = .ok (.ireturn, 1) := by decide +kernel
theorem dX11_fault_0 : decode cX11_fault 0 = .ok (.aload_n 0, 1) := by decide +kernel
theorem dX11_fault_1 : decode cX11_fault 1 = .ok (.getfield 99, 3) := by decide +kernel
theorem dX11_fault_4 : decode cX11_fault 4 = .ok (.ireturn, 1) := by decide +kernel
theorem dX11_print_0 : decode cX11_print 0 = .ok (.iload_n 1, 1) := by decide +kernel
theorem dX11_print_1 : decode cX11_print 1 = .ok (.iconst (-1), 1) := by decide +kernel
theorem dX11_print_2 : decode cX11_print 2 = .ok (.if_icmp .ne 11, 3) := by decide +kernel
theorem dX11_print_5 : decode cX11_print 5 = .ok (.aload_n 0, 1) := by decide +kernel
theorem dX11_print_6 : decode cX11_print 6 = .ok (.getfield 12, 3) := by decide +kernel
theorem dX11_print_9 : decode cX11_print 9 = .ok (.getfield 123, 3) := by decide +kernel
theorem dX11_print_12 : decode cX11_print 12 = .ok (.ireturn, 1) := by decide +kernel
theorem dX11_print_13 : decode cX11_print 13 = .ok (.iload_n 1, 1) := by decide +kernel
theorem dX11_print_14 : decode cX11_print 14 = .ok (.ifCond .lt 21, 3) := by decide +kernel
theorem dX11_print_17 : decode cX11_print 17 = .ok (.iload_n 1, 1) := by decide +kernel
theorem dX11_print_18 : decode cX11_print 18 = .ok (.aload_n 0, 1) := by decide +kernel
theorem dX11_print_19 : decode cX11_print 19 = .ok (.getfield 12, 3) := by decide +kernel
theorem dX11_print_22 : decode cX11_print 22 = .ok (.getfield 123, 3) := by decide +kernel
theorem dX11_print_25 : decode cX11_print 25 = .ok (.if_icmp .ge 10, 3) := by decide +kernel
theorem dX11_print_28 : decode cX11_print 28 = .ok (.iload_n 1, 1) := by decide +kernel
theorem dX11_print_29 : decode cX11_print 29 = .ok (.sipush 400, 3) := by decide +kernel
theorem dX11_print_32 : decode cX11_print 32 = .ok (.if_icmp .lt 7, 3) := by decide +kernel
theorem dX11_print_35 : decode cX11_print 35 = .ok (.iconst (-1), 1) := by decide +kernel
theorem dX11_print_36 : decode cX11_print 36 = .ok (.goto 12, 3) := by decide +kernel
theorem dX11_print_39 : decode cX11_print 39 = .ok (.aload_n 0, 1) := by decide +kernel
theorem dX11_print_40 : decode cX11_print 40 = .ok (.getfield 12, 3) := by decide +kernel
theorem dX11_print_43 : decode cX11_print 43 = .ok (.getfield 126, 3) := by decide +kernel
theorem dX11_print_46 : decode cX11_print 46 = .ok (.iload_n 1, 1) := by decide +kernel
theorem dX11_print_47 : decode cX11_print 47 = .ok (.baload, 1) := by decide +kernel
theorem dX11_print_48 : decode cX11_print 48 = .ok (.ireturn, 1) := by decide +kernel
theorem dX11_mark_0 : decode cX11_mark 0 = .ok (.aload_n 0, 1) := by decide +kernel
theorem dX11_mark_1 : decode cX11_mark 1 = .ok (.getfield 31, 3) := by decide +kernel
theorem dX11_mark_4 : decode cX11_mark 4 = .ok (.iload_n 1, 1) := by decide +kernel
theorem dX11_mark_5 : decode cX11_mark 5 = .ok (.invokevirtual 130, 3) := by decide +kernel
theorem dX11_mark_8 : decode cX11_mark 8 = .ok (.ifCond .ne 7, 3) := by decide +kernel
theorem dX11_mark_11 : decode cX11_mark 11 = .ok (.sipush (-1001), 3) := by decide +kernel
theorem dX11_mark_14 : decode cX11_mark 14 = .ok (.ireturn, 1) := by decide +kernel
theorem dX11_mark_15 : decode cX11_mark 15 = .ok (.iload_n 2, 1) := by decide +kernel
theorem dX11_mark_16 : decode cX11_mark 16 = .ok (.tableswitch 100 0 5 #[40, 50, 60, 70, 80, 90], 40) := by decide +kernel
theorem dX11_mark_56 : decode cX11_mark 56 = .ok (.aload_n 0, 1) := by decide +kernel
theorem dX11_mark_57 : decode cX11_mark 57 = .ok (.getfield 12, 3) := by decide +kernel
theorem dX11_mark_60 : decode cX11_mark 60 = .ok (.getfield 134, 3) := by decide +kernel
theorem dX11_mark_63 : decode cX11_mark 63 = .ok (.iload_n 1, 1) := by decide +kernel
theorem dX11_mark_64 : decode cX11_mark 64 = .ok (.iaload, 1) := by decide +kernel
theorem dX11_mark_65 : decode cX11_mark 65 = .ok (.ireturn, 1) := by decide +kernel
theorem dX11_mark_66 : decode cX11_mark 66 = .ok (.aload_n 0, 1) := by decide +kernel
theorem dX11_mark_67 : decode cX11_mark 67 = .ok (.getfield 31, 3) := by decide +kernel
theorem dX11_mark_70 : decode cX11_mark 70 = .ok (.getfield 138, 3) := by decide +kernel
theorem dX11_mark_73 : decode cX11_mark 73 = .ok (.iload_n 1, 1) := by decide +kernel
theorem dX11_mark_74 : decode cX11_mark 74 = .ok (.iaload, 1) := by decide +kernel
theorem dX11_mark_75 : decode cX11_mark 75 = .ok (.ireturn, 1) := by decide +kernel
theorem dX11_mark_76 : decode cX11_mark 76 = .ok (.aload_n 0, 1) := by decide +kernel
theorem dX11_mark_77 : decode cX11_mark 77 = .ok (.getfield 31, 3) := by decide +kernel
theorem dX11_mark_80 : decode cX11_mark 80 = .ok (.getfield 141, 3) := by decide +kernel
theorem dX11_mark_83 : decode cX11_mark 83 = .ok (.iload_n 1, 1) := by decide +kernel
theorem dX11_mark_84 : decode cX11_mark 84 = .ok (.iaload, 1) := by decide +kernel
theorem dX11_mark_85 : decode cX11_mark 85 = .ok (.ireturn, 1) := by decide +kernel
theorem dX11_mark_86 : decode cX11_mark 86 = .ok (.aload_n 0, 1) := by decide +kernel
theorem dX11_mark_87 : decode cX11_mark 87 = .ok (.getfield 31, 3) := by decide +kernel
theorem dX11_mark_90 : decode cX11_mark 90 = .ok (.getfield 144, 3) := by decide +kernel
theorem dX11_mark_93 : decode cX11_mark 93 = .ok (.iload_n 1, 1) := by decide +kernel
theorem dX11_mark_94 : decode cX11_mark 94 = .ok (.iaload, 1) := by decide +kernel
theorem dX11_mark_95 : decode cX11_mark 95 = .ok (.ireturn, 1) := by decide +kernel
theorem dX11_mark_96 : decode cX11_mark 96 = .ok (.aload_n 0, 1) := by decide +kernel
theorem dX11_mark_97 : decode cX11_mark 97 = .ok (.getfield 12, 3) := by decide +kernel
theorem dX11_mark_100 : decode cX11_mark 100 = .ok (.getfield 147, 3) := by decide +kernel
theorem dX11_mark_103 : decode cX11_mark 103 = .ok (.iload_n 1, 1) := by decide +kernel
theorem dX11_mark_104 : decode cX11_mark 104 = .ok (.iaload, 1) := by decide +kernel
theorem dX11_mark_105 : decode cX11_mark 105 = .ok (.ireturn, 1) := by decide +kernel
theorem dX11_mark_106 : decode cX11_mark 106 = .ok (.aload_n 0, 1) := by decide +kernel
theorem dX11_mark_107 : decode cX11_mark 107 = .ok (.getfield 12, 3) := by decide +kernel
theorem dX11_mark_110 : decode cX11_mark 110 = .ok (.getfield 150, 3) := by decide +kernel
theorem dX11_mark_113 : decode cX11_mark 113 = .ok (.iload_n 1, 1) := by decide +kernel
theorem dX11_mark_114 : decode cX11_mark 114 = .ok (.iaload, 1) := by decide +kernel
theorem dX11_mark_115 : decode cX11_mark 115 = .ok (.ireturn, 1) := by decide +kernel
theorem dX11_mark_116 : decode cX11_mark 116 = .ok (.sipush (-1002), 3) := by decide +kernel
theorem dX11_mark_119 : decode cX11_mark 119 = .ok (.ireturn, 1) := by decide +kernel
theorem dX11_ink_0 : decode cX11_ink 0 = .ok (.aload_n 0, 1) := by decide +kernel
theorem dX11_ink_1 : decode cX11_ink 1 = .ok (.getfield 31, 3) := by decide +kernel
theorem dX11_ink_4 : decode cX11_ink 4 = .ok (.iload_n 1, 1) := by decide +kernel
theorem dX11_ink_5 : decode cX11_ink 5 = .ok (.invokevirtual 130, 3) := by decide +kernel
theorem dX11_ink_8 : decode cX11_ink 8 = .ok (.ifCond .eq 10, 3) := by decide +kernel
theorem dX11_ink_11 : decode cX11_ink 11 = .ok (.iload_n 2, 1) := by decide +kernel
theorem dX11_ink_12 : decode cX11_ink 12 = .ok (.invokestatic 153, 3) := by decide +kernel
theorem dX11_ink_15 : decode cX11_ink 15 = .ok (.ifCond .ne 7, 3) := by decide +kernel
theorem dX11_ink_18 : decode cX11_ink 18 = .ok (.sipush (-1001), 3) := by decide +kernel
theorem dX11_ink_21 : decode cX11_ink 21 = .ok (.ireturn, 1) := by decide +kernel
theorem dX11_ink_22 : decode cX11_ink 22 = .ok (.aload_n 0, 1) := by decide +kernel
theorem dX11_ink_23 : decode cX11_ink 23 = .ok (.getfield 31, 3) := by decide +kernel
theorem dX11_ink_26 : decode cX11_ink 26 = .ok (.getfield 138, 3) := by decide +kernel
theorem dX11_ink_29 : decode cX11_ink 29 = .ok (.iload_n 1, 1) := by decide +kernel
theorem dX11_ink_30 : decode cX11_ink 30 = .ok (.iaload, 1) := by decide +kernel
theorem dX11_ink_31 : decode cX11_ink 31 = .ok (.istore_n 3, 1) := by decide +kernel
theorem dX11_ink_32 : decode cX11_ink 32 = .ok (.aload_n 0, 1) := by decide +kernel
theorem dX11_ink_33 : decode cX11_ink 33 = .ok (.getfield 31, 3) := by decide +kernel
theorem dX11_ink_36 : decode cX11_ink 36 = .ok (.getfield 138, 3) := by decide +kernel
theorem dX11_ink_39 : decode cX11_ink 39 = .ok (.iload_n 1, 1) := by decide +kernel
theorem dX11_ink_40 : decode cX11_ink 40 = .ok (.iload_n 2, 1) := by decide +kernel
theorem dX11_ink_41 : decode cX11_ink 41 = .ok (.iastore, 1) := by decide +kernel
theorem dX11_ink_42 : decode cX11_ink 42 = .ok (.aload_n 0, 1) := by decide +kernel
theorem dX11_ink_43 : decode cX11_ink 43 = .ok (.getfield 31, 3) := by decide +kernel
theorem dX11_ink_46 : decode cX11_ink 46 = .ok (.invokevirtual 156, 3) := by decide +kernel
theorem dX11_ink_49 : decode cX11_ink 49 = .ok (.ifCond .ne 17, 3) := by decide +kernel
theorem dX11_ink_52 : decode cX11_ink 52 = .ok (.aload_n 0, 1) := by decide +kernel
theorem dX11_ink_53 : decode cX11_ink 53 = .ok (.getfield 31, 3) := by decide +kernel
theorem dX11_ink_56 : decode cX11_ink 56 = .ok (.getfield 138, 3) := by decide +kernel
theorem dX11_ink_59 : decode cX11_ink 59 = .ok (.iload_n 1, 1) := by decide +kernel
theorem dX11_ink_60 : decode cX11_ink 60 = .ok (.iload_n 3, 1) := by decide +kernel
theorem dX11_ink_61 : decode cX11_ink 61 = .ok (.iastore, 1) := by decide +kernel
theorem dX11_ink_62 : decode cX11_ink 62 = .ok (.sipush (-1003), 3) := by decide +kernel
theorem dX11_ink_65 : decode cX11_ink 65 = .ok (.ireturn, 1) := by decide +kernel
theorem dX11_ink_66 : decode cX11_ink 66 = .ok (.iload_n 3, 1) := by decide +kernel
theorem dX11_ink_67 : decode cX11_ink 67 = .ok (.ireturn, 1) := by decide +kernel
theorem dX11_earlier_0 : decode cX11_earlier 0 = .ok (.iload_n 1, 1) := by decide +kernel
theorem dX11_earlier_1 : decode cX11_earlier 1 = .ok (.invokestatic 153, 3) := by decide +kernel
theorem dX11_earlier_4 : decode cX11_earlier 4 = .ok (.ifCond .eq 15, 3) := by decide +kernel
theorem dX11_earlier_7 : decode cX11_earlier 7 = .ok (.iload_n 2, 1) := by decide +kernel
theorem dX11_earlier_8 : decode cX11_earlier 8 = .ok (.invokestatic 153, 3) := by decide +kernel
theorem dX11_earlier_11 : decode cX11_earlier 11 = .ok (.ifCond .eq 8, 3) := by decide +kernel
theorem dX11_earlier_14 : decode cX11_earlier 14 = .ok (.iload_n 1, 1) := by decide +kernel
theorem dX11_earlier_15 : decode cX11_earlier 15 = .ok (.iload_n 2, 1) := by decide +kernel
theorem dX11_earlier_16 : decode cX11_earlier 16 = .ok (.if_icmp .ne 7, 3) := by decide +kernel
theorem dX11_earlier_19 : decode cX11_earlier 19 = .ok (.sipush (-1001), 3) := by decide +kernel
theorem dX11_earlier_22 : decode cX11_earlier 22 = .ok (.ireturn, 1) := by decide +kernel
theorem dX11_earlier_23 : decode cX11_earlier 23 = .ok (.aload_n 0, 1) := by decide +kernel
theorem dX11_earlier_24 : decode cX11_earlier 24 = .ok (.getfield 31, 3) := by decide +kernel
theorem dX11_earlier_27 : decode cX11_earlier 27 = .ok (.getfield 160, 3) := by decide +kernel
theorem dX11_earlier_30 : decode cX11_earlier 30 = .ok (.iload_n 1, 1) := by decide +kernel
theorem dX11_earlier_31 : decode cX11_earlier 31 = .ok (.iaload, 1) := by decide +kernel
theorem dX11_earlier_32 : decode cX11_earlier 32 = .ok (.istore 4, 2) := by decide +kernel
theorem dX11_earlier_34 : decode cX11_earlier 34 = .ok (.aload_n 0, 1) := by decide +kernel
theorem dX11_earlier_35 : decode cX11_earlier 35 = .ok (.getfield 31, 3) := by decide +kernel
theorem dX11_earlier_38 : decode cX11_earlier 38 = .ok (.getfield 160, 3) := by decide +kernel
theorem dX11_earlier_41 : decode cX11_earlier 41 = .ok (.iload_n 1, 1) := by decide +kernel
theorem dX11_earlier_42 : decode cX11_earlier 42 = .ok (.iload_n 3, 1) := by decide +kernel
theorem dX11_earlier_43 : decode cX11_earlier 43 = .ok (.ifCond .eq 12, 3) := by decide +kernel
theorem dX11_earlier_46 : decode cX11_earlier 46 = .ok (.iload 4, 2) := by decide +kernel
theorem dX11_earlier_48 : decode cX11_earlier 48 = .ok (.iconst 1, 1) := by decide +kernel
theorem dX11_earlier_49 : decode cX11_earlier 49 = .ok (.iload_n 2, 1) := by decide +kernel
theorem dX11_earlier_50 : decode cX11_earlier 50 = .ok (.ishl, 1) := by decide +kernel
theorem dX11_earlier_51 : decode cX11_earlier 51 = .ok (.ior, 1) := by decide +kernel
theorem dX11_earlier_52 : decode cX11_earlier 52 = .ok (.goto 11, 3) := by decide +kernel
theorem dX11_earlier_55 : decode cX11_earlier 55 = .ok (.iload 4, 2) := by decide +kernel
theorem dX11_earlier_57 : decode cX11_earlier 57 = .ok (.iconst 1, 1) := by decide +kernel
theorem dX11_earlier_58 : decode cX11_earlier 58 = .ok (.iload_n 2, 1) := by decide +kernel
theorem dX11_earlier_59 : decode cX11_earlier 59 = .ok (.ishl, 1) := by decide +kernel
theorem dX11_earlier_60 : decode cX11_earlier 60 = .ok (.iconst (-1), 1) := by decide +kernel
theorem dX11_earlier_61 : decode cX11_earlier 61 = .ok (.ixor, 1) := by decide +kernel
theorem dX11_earlier_62 : decode cX11_earlier 62 = .ok (.iand, 1) := by decide +kernel
theorem dX11_earlier_63 : decode cX11_earlier 63 = .ok (.iastore, 1) := by decide +kernel
theorem dX11_earlier_64 : decode cX11_earlier 64 = .ok (.aload_n 0, 1) := by decide +kernel
theorem dX11_earlier_65 : decode cX11_earlier 65 = .ok (.getfield 31, 3) := by decide +kernel
theorem dX11_earlier_68 : decode cX11_earlier 68 = .ok (.invokevirtual 156, 3) := by decide +kernel
theorem dX11_earlier_71 : decode cX11_earlier 71 = .ok (.ifCond .ne 18, 3) := by decide +kernel
theorem dX11_earlier_74 : decode cX11_earlier 74 = .ok (.aload_n 0, 1) := by decide +kernel
theorem dX11_earlier_75 : decode cX11_earlier 75 = .ok (.getfield 31, 3) := by decide +kernel
theorem dX11_earlier_78 : decode cX11_earlier 78 = .ok (.getfield 160, 3) := by decide +kernel
theorem dX11_earlier_81 : decode cX11_earlier 81 = .ok (.iload_n 1, 1) := by decide +kernel
theorem dX11_earlier_82 : decode cX11_earlier 82 = .ok (.iload 4, 2) := by decide +kernel
theorem dX11_earlier_84 : decode cX11_earlier 84 = .ok (.iastore, 1) := by decide +kernel
theorem dX11_earlier_85 : decode cX11_earlier 85 = .ok (.sipush (-1003), 3) := by decide +kernel
theorem dX11_earlier_88 : decode cX11_earlier 88 = .ok (.ireturn, 1) := by decide +kernel
theorem dX11_earlier_89 : decode cX11_earlier 89 = .ok (.iload 4, 2) := by decide +kernel
theorem dX11_earlier_91 : decode cX11_earlier 91 = .ok (.iload_n 2, 1) := by decide +kernel
theorem dX11_earlier_92 : decode cX11_earlier 92 = .ok (.ishr, 1) := by decide +kernel
theorem dX11_earlier_93 : decode cX11_earlier 93 = .ok (.iconst 1, 1) := by decide +kernel
theorem dX11_earlier_94 : decode cX11_earlier 94 = .ok (.iand, 1) := by decide +kernel
theorem dX11_earlier_95 : decode cX11_earlier 95 = .ok (.ireturn, 1) := by decide +kernel
theorem dX11_count_0 : decode cX11_count 0 = .ok (.iload_n 1, 1) := by decide +kernel
theorem dX11_count_1 : decode cX11_count 1 = .ok (.tableswitch 112 0 7 #[47, 55, 63, 71, 80, 88, 96, 104], 47) := by decide +kernel
theorem dX11_count_48 : decode cX11_count 48 = .ok (.aload_n 0, 1) := by decide +kernel
theorem dX11_count_49 : decode cX11_count 49 = .ok (.getfield 12, 3) := by decide +kernel
theorem dX11_count_52 : decode cX11_count 52 = .ok (.getfield 120, 3) := by decide +kernel
theorem dX11_count_55 : decode cX11_count 55 = .ok (.ireturn, 1) := by decide +kernel
theorem dX11_count_56 : decode cX11_count 56 = .ok (.aload_n 0, 1) := by decide +kernel
theorem dX11_count_57 : decode cX11_count 57 = .ok (.getfield 12, 3) := by decide +kernel
theorem dX11_count_60 : decode cX11_count 60 = .ok (.getfield 163, 3) := by decide +kernel
theorem dX11_count_63 : decode cX11_count 63 = .ok (.ireturn, 1) := by decide +kernel
theorem dX11_count_64 : decode cX11_count 64 = .ok (.aload_n 0, 1) := by decide +kernel
theorem dX11_count_65 : decode cX11_count 65 = .ok (.getfield 24, 3) := by decide +kernel
theorem dX11_count_68 : decode cX11_count 68 = .ok (.getfield 103, 3) := by decide +kernel
theorem dX11_count_71 : decode cX11_count 71 = .ok (.ireturn, 1) := by decide +kernel
theorem dX11_count_72 : decode cX11_count 72 = .ok (.aload_n 0, 1) := by decide +kernel
theorem dX11_count_73 : decode cX11_count 73 = .ok (.getfield 79, 3) := by decide +kernel
theorem dX11_count_76 : decode cX11_count 76 = .ok (.iconst 4, 1) := by decide +kernel
theorem dX11_count_77 : decode cX11_count 77 = .ok (.invokevirtual 166, 3) := by decide +kernel
theorem dX11_count_80 : decode cX11_count 80 = .ok (.ireturn, 1) := by decide +kernel
theorem dX11_count_81 : decode cX11_count 81 = .ok (.aload_n 0, 1) := by decide +kernel
theorem dX11_count_82 : decode cX11_count 82 = .ok (.getfield 95, 3) := by decide +kernel
theorem dX11_count_85 : decode cX11_count 85 = .ok (.getfield 170, 3) := by decide +kernel
theorem dX11_count_88 : decode cX11_count 88 = .ok (.ireturn, 1) := by decide +kernel
theorem dX11_count_89 : decode cX11_count 89 = .ok (.aload_n 0, 1) := by decide +kernel
theorem dX11_count_90 : decode cX11_count 90 = .ok (.getfield 45, 3) := by decide +kernel
theorem dX11_count_93 : decode cX11_count 93 = .ok (.getfield 173, 3) := by decide +kernel
theorem dX11_count_96 : decode cX11_count 96 = .ok (.ireturn, 1) := by decide +kernel
theorem dX11_count_97 : decode cX11_count 97 = .ok (.aload_n 0, 1) := by decide +kernel
theorem dX11_count_98 : decode cX11_count 98 = .ok (.getfield 31, 3) := by decide +kernel
theorem dX11_count_101 : decode cX11_count 101 = .ok (.invokevirtual 176, 3) := by decide +kernel
theorem dX11_count_104 : decode cX11_count 104 = .ok (.ireturn, 1) := by decide +kernel
theorem dX11_count_105 : decode cX11_count 105 = .ok (.aload_n 0, 1) := by decide +kernel
theorem dX11_count_106 : decode cX11_count 106 = .ok (.getfield 61, 3) := by decide +kernel
theorem dX11_count_109 : decode cX11_count 109 = .ok (.invokevirtual 180, 3) := by decide +kernel
theorem dX11_count_112 : decode cX11_count 112 = .ok (.ireturn, 1) := by decide +kernel
theorem dX11_count_113 : decode cX11_count 113 = .ok (.sipush (-1002), 3) := by decide +kernel
theorem dX11_count_116 : decode cX11_count 116 = .ok (.ireturn, 1) := by decide +kernel
theorem dX11_good_0 : decode cX11_good 0 = .ok (.iload_n 1, 1) := by decide +kernel
theorem dX11_good_1 : decode cX11_good 1 = .ok (.iconst (-1), 1) := by decide +kernel
theorem dX11_good_2 : decode cX11_good 2 = .ok (.if_icmp .ne 13, 3) := by decide +kernel
theorem dX11_good_5 : decode cX11_good 5 = .ok (.aload_n 0, 1) := by decide +kernel
theorem dX11_good_6 : decode cX11_good 6 = .ok (.getfield 31, 3) := by decide +kernel
theorem dX11_good_9 : decode cX11_good 9 = .ok (.invokevirtual 183, 3) := by decide +kernel
theorem dX11_good_12 : decode cX11_good 12 = .ok (.goto 11, 3) := by decide +kernel
theorem dX11_good_15 : decode cX11_good 15 = .ok (.aload_n 0, 1) := by decide +kernel
theorem dX11_good_16 : decode cX11_good 16 = .ok (.getfield 31, 3) := by decide +kernel
theorem dX11_good_19 : decode cX11_good 19 = .ok (.iload_n 1, 1) := by decide +kernel
theorem dX11_good_20 : decode cX11_good 20 = .ok (.invokevirtual 186, 3) := by decide +kernel
theorem dX11_good_23 : decode cX11_good 23 = .ok (.ireturn, 1) := by decide +kernel
theorem dX11_next_0 : decode cX11_next 0 = .ok (.aload_n 0, 1) := by decide +kernel
theorem dX11_next_1 : decode cX11_next 1 = .ok (.getfield 31, 3) := by decide +kernel
theorem dX11_next_4 : decode cX11_next 4 = .ok (.iload_n 1, 1) := by decide +kernel
theorem dX11_next_5 : decode cX11_next 5 = .ok (.invokevirtual 189, 3) := by decide +kernel
theorem dX11_next_8 : decode cX11_next 8 = .ok (.istore_n 2, 1) := by decide +kernel
theorem dX11_next_9 : decode cX11_next 9 = .ok (.iload_n 2, 1) := by decide +kernel
theorem dX11_next_10 : decode cX11_next 10 = .ok (.ifCond .eq 7, 3) := by decide +kernel
theorem dX11_next_13 : decode cX11_next 13 = .ok (.iload_n 2, 1) := by decide +kernel
theorem dX11_next_14 : decode cX11_next 14 = .ok (.goto 11, 3) := by decide +kernel
theorem dX11_next_17 : decode cX11_next 17 = .ok (.aload_n 0, 1) := by decide +kernel
theorem dX11_next_18 : decode cX11_next 18 = .ok (.getfield 31, 3) := by decide +kernel
theorem dX11_next_21 : decode cX11_next 21 = .ok (.iload_n 1, 1) := by decide +kernel
theorem dX11_next_22 : decode cX11_next 22 = .ok (.invokevirtual 192, 3) := by decide +kernel
theorem dX11_next_25 : decode cX11_next 25 = .ok (.ireturn, 1) := by decide +kernel
theorem dX11_orders_0 : decode cX11_orders 0 = .ok (.aload_n 0, 1) := by decide +kernel
theorem dX11_orders_1 : decode cX11_orders 1 = .ok (.getfield 54, 3) := by decide +kernel
theorem dX11_orders_4 : decode cX11_orders 4 = .ok (.invokevirtual 195, 3) := by decide +kernel
theorem dX11_orders_7 : decode cX11_orders 7 = .ok (.lreturn, 1) := by decide +kernel
theorem dX11_order_0 : decode cX11_order 0 = .ok (.lload_n 1, 1) := by decide +kernel
theorem dX11_order_1 : decode cX11_order 1 = .ok (.lconst 0, 1) := by decide +kernel
theorem dX11_order_2 : decode cX11_order 2 = .ok (.lcmp, 1) := by decide +kernel
theorem dX11_order_3 : decode cX11_order 3 = .ok (.ifCond .ge 9, 3) := by decide +kernel
theorem dX11_order_6 : decode cX11_order 6 = .ok (.sipush (-1002), 3) := by decide +kernel
theorem dX11_order_9 : decode cX11_order 9 = .ok (.goto 12, 3) := by decide +kernel
theorem dX11_order_12 : decode cX11_order 12 = .ok (.aload_n 0, 1) := by decide +kernel
theorem dX11_order_13 : decode cX11_order 13 = .ok (.getfield 54, 3) := by decide +kernel
theorem dX11_order_16 : decode cX11_order 16 = .ok (.lload_n 1, 1) := by decide +kernel
theorem dX11_order_17 : decode cX11_order 17 = .ok (.iload_n 3, 1) := by decide +kernel
theorem dX11_order_18 : decode cX11_order 18 = .ok (.invokevirtual 198, 3) := by decide +kernel
theorem dX11_order_21 : decode cX11_order 21 = .ok (.ireturn, 1) := by decide +kernel
theorem dX11_ahead_0 : decode cX11_ahead 0 = .ok (.aload_n 0, 1) := by decide +kernel
theorem dX11_ahead_1 : decode cX11_ahead 1 = .ok (.getfield 31, 3) := by decide +kernel
theorem dX11_ahead_4 : decode cX11_ahead 4 = .ok (.iload_n 1, 1) := by decide +kernel
theorem dX11_ahead_5 : decode cX11_ahead 5 = .ok (.invokevirtual 130, 3) := by decide +kernel
theorem dX11_ahead_8 : decode cX11_ahead 8 = .ok (.ifCond .eq 19, 3) := by decide +kernel
theorem dX11_ahead_11 : decode cX11_ahead 11 = .ok (.aload_n 0, 1) := by decide +kernel
theorem dX11_ahead_12 : decode cX11_ahead 12 = .ok (.getfield 31, 3) := by decide +kernel
theorem dX11_ahead_15 : decode cX11_ahead 15 = .ok (.iload_n 2, 1) := by decide +kernel
theorem dX11_ahead_16 : decode cX11_ahead 16 = .ok (.invokevirtual 130, 3) := by decide +kernel
theorem dX11_ahead_19 : decode cX11_ahead 19 = .ok (.ifCond .eq 8, 3) := by decide +kernel
theorem dX11_ahead_22 : decode cX11_ahead 22 = .ok (.iload_n 1, 1) := by decide +kernel
theorem dX11_ahead_23 : decode cX11_ahead 23 = .ok (.iload_n 2, 1) := by decide +kernel
theorem dX11_ahead_24 : decode cX11_ahead 24 = .ok (.if_icmp .ne 7, 3) := by decide +kernel
theorem dX11_ahead_27 : decode cX11_ahead 27 = .ok (.ldc2_w 202, 3) := by decide +kernel
theorem dX11_ahead_30 : decode cX11_ahead 30 = .ok (.lreturn, 1) := by decide +kernel
theorem dX11_ahead_31 : decode cX11_ahead 31 = .ok (.aload_n 0, 1) := by decide +kernel
theorem dX11_ahead_32 : decode cX11_ahead 32 = .ok (.getfield 54, 3) := by decide +kernel
theorem dX11_ahead_35 : decode cX11_ahead 35 = .ok (.iload_n 1, 1) := by decide +kernel
theorem dX11_ahead_36 : decode cX11_ahead 36 = .ok (.iload_n 2, 1) := by decide +kernel
theorem dX11_ahead_37 : decode cX11_ahead 37 = .ok (.invokevirtual 204, 3) := by decide +kernel
theorem dX11_ahead_40 : decode cX11_ahead 40 = .ok (.lreturn, 1) := by decide +kernel
theorem dX11_place_0 : decode cX11_place 0 = .ok (.aload_n 0, 1) := by decide +kernel
theorem dX11_place_1 : decode cX11_place 1 = .ok (.getfield 31, 3) := by decide +kernel
theorem dX11_place_4 : decode cX11_place 4 = .ok (.iload_n 1, 1) := by decide +kernel
theorem dX11_place_5 : decode cX11_place 5 = .ok (.invokevirtual 130, 3) := by decide +kernel
theorem dX11_place_8 : decode cX11_place 8 = .ok (.ifCond .ne 7, 3) := by decide +kernel
theorem dX11_place_11 : decode cX11_place 11 = .ok (.sipush (-1001), 3) := by decide +kernel
theorem dX11_place_14 : decode cX11_place 14 = .ok (.ireturn, 1) := by decide +kernel
theorem dX11_place_15 : decode cX11_place 15 = .ok (.iload_n 2, 1) := by decide +kernel
theorem dX11_place_16 : decode cX11_place 16 = .ok (.ifCond .ne 16, 3) := by decide +kernel
theorem dX11_place_19 : decode cX11_place 19 = .ok (.aload_n 0, 1) := by decide +kernel
theorem dX11_place_20 : decode cX11_place 20 = .ok (.getfield 31, 3) := by decide +kernel
theorem dX11_place_23 : decode cX11_place 23 = .ok (.getfield 141, 3) := by decide +kernel
theorem dX11_place_26 : decode cX11_place 26 = .ok (.iload_n 1, 1) := by decide +kernel
theorem dX11_place_27 : decode cX11_place 27 = .ok (.iaload, 1) := by decide +kernel
theorem dX11_place_28 : decode cX11_place 28 = .ok (.invokestatic 208, 3) := by decide +kernel
theorem dX11_place_31 : decode cX11_place 31 = .ok (.ireturn, 1) := by decide +kernel
theorem dX11_place_32 : decode cX11_place 32 = .ok (.iload_n 2, 1) := by decide +kernel
theorem dX11_place_33 : decode cX11_place 33 = .ok (.iconst 1, 1) := by decide +kernel
theorem dX11_place_34 : decode cX11_place 34 = .ok (.if_icmp .ne 28, 3) := by decide +kernel
theorem dX11_place_37 : decode cX11_place 37 = .ok (.aload_n 0, 1) := by decide +kernel
theorem dX11_place_38 : decode cX11_place 38 = .ok (.getfield 12, 3) := by decide +kernel
theorem dX11_place_41 : decode cX11_place 41 = .ok (.getfield 120, 3) := by decide +kernel
theorem dX11_place_44 : decode cX11_place 44 = .ok (.iconst 1, 1) := by decide +kernel
theorem dX11_place_45 : decode cX11_place 45 = .ok (.isub, 1) := by decide +kernel
theorem dX11_place_46 : decode cX11_place 46 = .ok (.aload_n 0, 1) := by decide +kernel
theorem dX11_place_47 : decode cX11_place 47 = .ok (.getfield 31, 3) := by decide +kernel
theorem dX11_place_50 : decode cX11_place 50 = .ok (.getfield 144, 3) := by decide +kernel
theorem dX11_place_53 : decode cX11_place 53 = .ok (.iload_n 1, 1) := by decide +kernel
theorem dX11_place_54 : decode cX11_place 54 = .ok (.iaload, 1) := by decide +kernel
theorem dX11_place_55 : decode cX11_place 55 = .ok (.invokestatic 208, 3) := by decide +kernel
theorem dX11_place_58 : decode cX11_place 58 = .ok (.isub, 1) := by decide +kernel
theorem dX11_place_59 : decode cX11_place 59 = .ok (.goto 6, 3) := by decide +kernel
theorem dX11_place_62 : decode cX11_place 62 = .ok (.sipush (-1002), 3) := by decide +kernel
theorem dX11_place_65 : decode cX11_place 65 = .ok (.ireturn, 1) := by decide +kernel
theorem dX11_session_0 : decode cX11_session 0 = .ok (.aload_n 0, 1) := by decide +kernel
theorem dX11_session_1 : decode cX11_session 1 = .ok (.getfield 61, 3) := by decide +kernel
theorem dX11_session_4 : decode cX11_session 4 = .ok (.iload_n 1, 1) := by decide +kernel
theorem dX11_session_5 : decode cX11_session 5 = .ok (.invokevirtual 213, 3) := by decide +kernel
theorem dX11_session_8 : decode cX11_session 8 = .ok (.ireturn, 1) := by decide +kernel
theorem dX11_text_0 : decode cX11_text 0 = .ok (.aload_n 0, 1) := by decide +kernel
theorem dX11_text_1 : decode cX11_text 1 = .ok (.getfield 31, 3) := by decide +kernel
theorem dX11_text_4 : decode cX11_text 4 = .ok (.iload_n 1, 1) := by decide +kernel
theorem dX11_text_5 : decode cX11_text 5 = .ok (.invokevirtual 189, 3) := by decide +kernel
theorem dX11_text_8 : decode cX11_text 8 = .ok (.istore_n 3, 1) := by decide +kernel
theorem dX11_text_9 : decode cX11_text 9 = .ok (.iload_n 3, 1) := by decide +kernel
theorem dX11_text_10 : decode cX11_text 10 = .ok (.ifCond .eq 7, 3) := by decide +kernel
theorem dX11_text_13 : decode cX11_text 13 = .ok (.iload_n 3, 1) := by decide +kernel
theorem dX11_text_14 : decode cX11_text 14 = .ok (.goto 9, 3) := by decide +kernel
theorem dX11_text_17 : decode cX11_text 17 = .ok (.aload_n 0, 1) := by decide +kernel
theorem dX11_text_18 : decode cX11_text 18 = .ok (.iload_n 1, 1) := by decide +kernel
theorem dX11_text_19 : decode cX11_text 19 = .ok (.iload_n 2, 1) := by decide +kernel
theorem dX11_text_20 : decode cX11_text 20 = .ok (.invokevirtual 215, 3) := by decide +kernel
theorem dX11_text_23 : decode cX11_text 23 = .ok (.ireturn, 1) := by decide +kernel
theorem dX11_view_0 : decode cX11_view 0 = .ok (.iload_n 1, 1) := by decide +kernel
theorem dX11_view_1 : decode cX11_view 1 = .ok (.iconst (-1), 1) := by decide +kernel
theorem dX11_view_2 : decode cX11_view 2 = .ok (.if_icmp .ne 13, 3) := by decide +kernel
theorem dX11_view_5 : decode cX11_view 5 = .ok (.aload_n 0, 1) := by decide +kernel
theorem dX11_view_6 : decode cX11_view 6 = .ok (.getfield 70, 3) := by decide +kernel
theorem dX11_view_9 : decode cX11_view 9 = .ok (.invokevirtual 219, 3) := by decide +kernel
theorem dX11_view_12 : decode cX11_view 12 = .ok (.goto 11, 3) := by decide +kernel
theorem dX11_view_15 : decode cX11_view 15 = .ok (.aload_n 0, 1) := by decide +kernel
theorem dX11_view_16 : decode cX11_view 16 = .ok (.getfield 70, 3) := by decide +kernel
theorem dX11_view_19 : decode cX11_view 19 = .ok (.iload_n 1, 1) := by decide +kernel
theorem dX11_view_20 : decode cX11_view 20 = .ok (.invokevirtual 221, 3) := by decide +kernel
theorem dX11_view_23 : decode cX11_view 23 = .ok (.ireturn, 1) := by decide +kernel
theorem dX11_word_0 : decode cX11_word 0 = .ok (.iload_n 1, 1) := by decide +kernel
theorem dX11_word_1 : decode cX11_word 1 = .ok (.invokestatic 224, 3) := by decide +kernel
theorem dX11_word_4 : decode cX11_word 4 = .ok (.ifCond .ne 7, 3) := by decide +kernel
theorem dX11_word_7 : decode cX11_word 7 = .ok (.sipush (-1002), 3) := by decide +kernel
theorem dX11_word_10 : decode cX11_word 10 = .ok (.ireturn, 1) := by decide +kernel
theorem dX11_word_11 : decode cX11_word 11 = .ok (.iload_n 2, 1) := by decide +kernel
theorem dX11_word_12 : decode cX11_word 12 = .ok (.tableswitch 96 0 4 #[36, 54, 78, 84, 90], 36) := by decide +kernel
theorem dX11_word_48 : decode cX11_word 48 = .ok (.aload_n 0, 1) := by decide +kernel
theorem dX11_word_49 : decode cX11_word 49 = .ok (.getfield 38, 3) := by decide +kernel
theorem dX11_word_52 : decode cX11_word 52 = .ok (.iload_n 1, 1) := by decide +kernel
theorem dX11_word_53 : decode cX11_word 53 = .ok (.iconst 0, 1) := by decide +kernel
theorem dX11_word_54 : decode cX11_word 54 = .ok (.invokevirtual 227, 3) := by decide +kernel
theorem dX11_word_57 : decode cX11_word 57 = .ok (.ifCond .eq 7, 3) := by decide +kernel
theorem dX11_word_60 : decode cX11_word 60 = .ok (.iconst 1, 1) := by decide +kernel
theorem dX11_word_61 : decode cX11_word 61 = .ok (.goto 4, 3) := by decide +kernel
theorem dX11_word_64 : decode cX11_word 64 = .ok (.iconst 0, 1) := by decide +kernel
theorem dX11_word_65 : decode cX11_word 65 = .ok (.ireturn, 1) := by decide +kernel
theorem dX11_word_66 : decode cX11_word 66 = .ok (.aload_n 0, 1) := by decide +kernel
theorem dX11_word_67 : decode cX11_word 67 = .ok (.getfield 38, 3) := by decide +kernel
theorem dX11_word_70 : decode cX11_word 70 = .ok (.iload_n 1, 1) := by decide +kernel
theorem dX11_word_71 : decode cX11_word 71 = .ok (.aload_n 0, 1) := by decide +kernel
theorem dX11_word_72 : decode cX11_word 72 = .ok (.getfield 31, 3) := by decide +kernel
theorem dX11_word_75 : decode cX11_word 75 = .ok (.invokevirtual 231, 3) := by decide +kernel
theorem dX11_word_78 : decode cX11_word 78 = .ok (.invokevirtual 227, 3) := by decide +kernel
theorem dX11_word_81 : decode cX11_word 81 = .ok (.ifCond .eq 7, 3) := by decide +kernel
theorem dX11_word_84 : decode cX11_word 84 = .ok (.iconst 1, 1) := by decide +kernel
theorem dX11_word_85 : decode cX11_word 85 = .ok (.goto 4, 3) := by decide +kernel
theorem dX11_word_88 : decode cX11_word 88 = .ok (.iconst 0, 1) := by decide +kernel
theorem dX11_word_89 : decode cX11_word 89 = .ok (.ireturn, 1) := by decide +kernel
theorem dX11_word_90 : decode cX11_word 90 = .ok (.aload_n 0, 1) := by decide +kernel
theorem dX11_word_91 : decode cX11_word 91 = .ok (.iload_n 1, 1) := by decide +kernel
theorem dX11_word_92 : decode cX11_word 92 = .ok (.invokevirtual 234, 3) := by decide +kernel
theorem dX11_word_95 : decode cX11_word 95 = .ok (.ireturn, 1) := by decide +kernel
theorem dX11_word_96 : decode cX11_word 96 = .ok (.aload_n 0, 1) := by decide +kernel
theorem dX11_word_97 : decode cX11_word 97 = .ok (.iload_n 1, 1) := by decide +kernel
theorem dX11_word_98 : decode cX11_word 98 = .ok (.invokevirtual 237, 3) := by decide +kernel
theorem dX11_word_101 : decode cX11_word 101 = .ok (.ireturn, 1) := by decide +kernel
theorem dX11_word_102 : decode cX11_word 102 = .ok (.aload_n 0, 1) := by decide +kernel
theorem dX11_word_103 : decode cX11_word 103 = .ok (.iload_n 1, 1) := by decide +kernel
theorem dX11_word_104 : decode cX11_word 104 = .ok (.invokevirtual 240, 3) := by decide +kernel
theorem dX11_word_107 : decode cX11_word 107 = .ok (.ireturn, 1) := by decide +kernel
theorem dX11_word_108 : decode cX11_word 108 = .ok (.sipush (-1002), 3) := by decide +kernel
theorem dX11_word_111 : decode cX11_word 111 = .ok (.ireturn, 1) := by decide +kernel
theorem dX11_idle_0 : decode cX11_idle 0 = .ok (.iconst 0, 1) := by decide +kernel
theorem dX11_idle_1 : decode cX11_idle 1 = .ok (.istore_n 1, 1) := by decide +kernel
theorem dX11_idle_2 : decode cX11_idle 2 = .ok (.iconst 0, 1) := by decide +kernel
theorem dX11_idle_3 : decode cX11_idle 3 = .ok (.istore_n 2, 1) := by decide +kernel
theorem dX11_idle_4 : decode cX11_idle 4 = .ok (.iload_n 2, 1) := by decide +kernel
theorem dX11_idle_5 : decode cX11_idle 5 = .ok (.aload_n 0, 1) := by decide +kernel
theorem dX11_idle_6 : decode cX11_idle 6 = .ok (.getfield 12, 3) := by decide +kernel
theorem dX11_idle_9 : decode cX11_idle 9 = .ok (.getfield 120, 3) := by decide +kernel
theorem dX11_idle_12 : decode cX11_idle 12 = .ok (.if_icmp .ge 23, 3) := by decide +kernel
theorem dX11_idle_15 : decode cX11_idle 15 = .ok (.aload_n 0, 1) := by decide +kernel
theorem dX11_idle_16 : decode cX11_idle 16 = .ok (.iload_n 2, 1) := by decide +kernel
theorem dX11_idle_17 : decode cX11_idle 17 = .ok (.invokevirtual 243, 3) := by decide +kernel
theorem dX11_idle_20 : decode cX11_idle 20 = .ok (.ifCond .eq 9, 3) := by decide +kernel
theorem dX11_idle_23 : decode cX11_idle 23 = .ok (.iload_n 1, 1) := by decide +kernel
theorem dX11_idle_24 : decode cX11_idle 24 = .ok (.iconst 1, 1) := by decide +kernel
theorem dX11_idle_25 : decode cX11_idle 25 = .ok (.iload_n 2, 1) := by decide +kernel
theorem dX11_idle_26 : decode cX11_idle 26 = .ok (.ishl, 1) := by decide +kernel
theorem dX11_idle_27 : decode cX11_idle 27 = .ok (.ior, 1) := by decide +kernel
theorem dX11_idle_28 : decode cX11_idle 28 = .ok (.istore_n 1, 1) := by decide +kernel
theorem dX11_idle_29 : decode cX11_idle 29 = .ok (.iinc 2 1, 3) := by decide +kernel
theorem dX11_idle_32 : decode cX11_idle 32 = .ok (.goto (-28), 3) := by decide +kernel
theorem dX11_idle_35 : decode cX11_idle 35 = .ok (.iload_n 1, 1) := by decide +kernel
theorem dX11_idle_36 : decode cX11_idle 36 = .ok (.ireturn, 1) := by decide +kernel
theorem dX11_apart_0 : decode cX11_apart 0 = .ok (.aload_n 0, 1) := by decide +kernel
theorem dX11_apart_1 : decode cX11_apart 1 = .ok (.getfield 31, 3) := by decide +kernel
theorem dX11_apart_4 : decode cX11_apart 4 = .ok (.iload_n 1, 1) := by decide +kernel
theorem dX11_apart_5 : decode cX11_apart 5 = .ok (.invokevirtual 246, 3) := by decide +kernel
theorem dX11_apart_8 : decode cX11_apart 8 = .ok (.ifCond .eq 14, 3) := by decide +kernel
theorem dX11_apart_11 : decode cX11_apart 11 = .ok (.aload_n 0, 1) := by decide +kernel
theorem dX11_apart_12 : decode cX11_apart 12 = .ok (.getfield 31, 3) := by decide +kernel
theorem dX11_apart_15 : decode cX11_apart 15 = .ok (.iload_n 2, 1) := by decide +kernel
theorem dX11_apart_16 : decode cX11_apart 16 = .ok (.invokevirtual 246, 3) := by decide +kernel
theorem dX11_apart_19 : decode cX11_apart 19 = .ok (.ifCond .ne 7, 3) := by decide +kernel
theorem dX11_apart_22 : decode cX11_apart 22 = .ok (.sipush (-1001), 3) := by decide +kernel
theorem dX11_apart_25 : decode cX11_apart 25 = .ok (.ireturn, 1) := by decide +kernel
theorem dX11_apart_26 : decode cX11_apart 26 = .ok (.aload_n 0, 1) := by decide +kernel
theorem dX11_apart_27 : decode cX11_apart 27 = .ok (.getfield 31, 3) := by decide +kernel
theorem dX11_apart_30 : decode cX11_apart 30 = .ok (.iload_n 1, 1) := by decide +kernel
theorem dX11_apart_31 : decode cX11_apart 31 = .ok (.invokevirtual 249, 3) := by decide +kernel
theorem dX11_apart_34 : decode cX11_apart 34 = .ok (.ifCond .eq 14, 3) := by decide +kernel
theorem dX11_apart_37 : decode cX11_apart 37 = .ok (.aload_n 0, 1) := by decide +kernel
theorem dX11_apart_38 : decode cX11_apart 38 = .ok (.getfield 31, 3) := by decide +kernel
theorem dX11_apart_41 : decode cX11_apart 41 = .ok (.iload_n 2, 1) := by decide +kernel
theorem dX11_apart_42 : decode cX11_apart 42 = .ok (.invokevirtual 249, 3) := by decide +kernel
theorem dX11_apart_45 : decode cX11_apart 45 = .ok (.ifCond .ne 7, 3) := by decide +kernel
theorem dX11_apart_48 : decode cX11_apart 48 = .ok (.sipush (-1003), 3) := by decide +kernel
theorem dX11_apart_51 : decode cX11_apart 51 = .ok (.ireturn, 1) := by decide +kernel
theorem dX11_apart_52 : decode cX11_apart 52 = .ok (.aload_n 0, 1) := by decide +kernel
theorem dX11_apart_53 : decode cX11_apart 53 = .ok (.getfield 86, 3) := by decide +kernel
theorem dX11_apart_56 : decode cX11_apart 56 = .ok (.aload_n 0, 1) := by decide +kernel
theorem dX11_apart_57 : decode cX11_apart 57 = .ok (.getfield 38, 3) := by decide +kernel
theorem dX11_apart_60 : decode cX11_apart 60 = .ok (.iload_n 1, 1) := by decide +kernel
theorem dX11_apart_61 : decode cX11_apart 61 = .ok (.invokevirtual 252, 3) := by decide +kernel
theorem dX11_apart_64 : decode cX11_apart 64 = .ok (.iload_n 1, 1) := by decide +kernel
theorem dX11_apart_65 : decode cX11_apart 65 = .ok (.aload_n 0, 1) := by decide +kernel
theorem dX11_apart_66 : decode cX11_apart 66 = .ok (.getfield 38, 3) := by decide +kernel
theorem dX11_apart_69 : decode cX11_apart 69 = .ok (.iload_n 2, 1) := by decide +kernel
theorem dX11_apart_70 : decode cX11_apart 70 = .ok (.invokevirtual 252, 3) := by decide +kernel
theorem dX11_apart_73 : decode cX11_apart 73 = .ok (.iload_n 2, 1) := by decide +kernel
theorem dX11_apart_74 : decode cX11_apart 74 = .ok (.invokevirtual 256, 3) := by decide +kernel
theorem dX11_apart_77 : decode cX11_apart 77 = .ok (.ireturn, 1) := by decide +kernel
theorem dX11_without_0 : decode cX11_without 0 = .ok (.aload_n 0, 1) := by decide +kernel
theorem dX11_without_1 : decode cX11_without 1 = .ok (.getfield 31, 3) := by decide +kernel
theorem dX11_without_4 : decode cX11_without 4 = .ok (.iload_n 1, 1) := by decide +kernel
theorem dX11_without_5 : decode cX11_without 5 = .ok (.invokevirtual 130, 3) := by decide +kernel
theorem dX11_without_8 : decode cX11_without 8 = .ok (.ifCond .ne 7, 3) := by decide +kernel
theorem dX11_without_11 : decode cX11_without 11 = .ok (.sipush (-1001), 3) := by decide +kernel
theorem dX11_without_14 : decode cX11_without 14 = .ok (.ireturn, 1) := by decide +kernel
theorem dX11_without_15 : decode cX11_without 15 = .ok (.aload_n 0, 1) := by decide +kernel
theorem dX11_without_16 : decode cX11_without 16 = .ok (.aload_n 0, 1) := by decide +kernel
theorem dX11_without_17 : decode cX11_without 17 = .ok (.getfield 31, 3) := by decide +kernel
theorem dX11_without_20 : decode cX11_without 20 = .ok (.invokevirtual 231, 3) := by decide +kernel
theorem dX11_without_23 : decode cX11_without 23 = .ok (.aload_n 0, 1) := by decide +kernel
theorem dX11_without_24 : decode cX11_without 24 = .ok (.getfield 31, 3) := by decide +kernel
theorem dX11_without_27 : decode cX11_without 27 = .ok (.getfield 144, 3) := by decide +kernel
theorem dX11_without_30 : decode cX11_without 30 = .ok (.iload_n 1, 1) := by decide +kernel
theorem dX11_without_31 : decode cX11_without 31 = .ok (.iaload, 1) := by decide +kernel
theorem dX11_without_32 : decode cX11_without 32 = .ok (.iconst 1, 1) := by decide +kernel
theorem dX11_without_33 : decode cX11_without 33 = .ok (.iload_n 1, 1) := by decide +kernel
theorem dX11_without_34 : decode cX11_without 34 = .ok (.ishl, 1) := by decide +kernel
theorem dX11_without_35 : decode cX11_without 35 = .ok (.ior, 1) := by decide +kernel
theorem dX11_without_36 : decode cX11_without 36 = .ok (.iconst (-1), 1) := by decide +kernel
theorem dX11_without_37 : decode cX11_without 37 = .ok (.ixor, 1) := by decide +kernel
theorem dX11_without_38 : decode cX11_without 38 = .ok (.iand, 1) := by decide +kernel
theorem dX11_without_39 : decode cX11_without 39 = .ok (.iload_n 2, 1) := by decide +kernel
theorem dX11_without_40 : decode cX11_without 40 = .ok (.invokevirtual 215, 3) := by decide +kernel
theorem dX11_without_43 : decode cX11_without 43 = .ok (.ireturn, 1) := by decide +kernel
theorem dX11_write_0 : decode cX11_write 0 = .ok (.iload_n 1, 1) := by decide +kernel
theorem dX11_write_1 : decode cX11_write 1 = .ok (.invokestatic 224, 3) := by decide +kernel
theorem dX11_write_4 : decode cX11_write 4 = .ok (.ifCond .ne 7, 3) := by decide +kernel
theorem dX11_write_7 : decode cX11_write 7 = .ok (.sipush (-1002), 3) := by decide +kernel
theorem dX11_write_10 : decode cX11_write 10 = .ok (.ireturn, 1) := by decide +kernel
theorem dX11_write_11 : decode cX11_write 11 = .ok (.aload_n 0, 1) := by decide +kernel
theorem dX11_write_12 : decode cX11_write 12 = .ok (.getfield 79, 3) := by decide +kernel
theorem dX11_write_15 : decode cX11_write 15 = .ok (.iconst 4, 1) := by decide +kernel
theorem dX11_write_16 : decode cX11_write 16 = .ok (.invokevirtual 166, 3) := by decide +kernel
theorem dX11_write_19 : decode cX11_write 19 = .ok (.bipush 40, 2) := by decide +kernel
theorem dX11_write_21 : decode cX11_write 21 = .ok (.if_icmp .lt 7, 3) := by decide +kernel
theorem dX11_write_24 : decode cX11_write 24 = .ok (.sipush (-1004), 3) := by decide +kernel
theorem dX11_write_27 : decode cX11_write 27 = .ok (.ireturn, 1) := by decide +kernel
theorem dX11_write_28 : decode cX11_write 28 = .ok (.aload_n 0, 1) := by decide +kernel
theorem dX11_write_29 : decode cX11_write 29 = .ok (.getfield 79, 3) := by decide +kernel
theorem dX11_write_32 : decode cX11_write 32 = .ok (.iconst 4, 1) := by decide +kernel
theorem dX11_write_33 : decode cX11_write 33 = .ok (.iload_n 1, 1) := by decide +kernel
theorem dX11_write_34 : decode cX11_write 34 = .ok (.invokevirtual 260, 3) := by decide +kernel
theorem dX11_write_37 : decode cX11_write 37 = .ok (.aload_n 0, 1) := by decide +kernel
theorem dX11_write_38 : decode cX11_write 38 = .ok (.getfield 79, 3) := by decide +kernel
theorem dX11_write_41 : decode cX11_write 41 = .ok (.iconst 4, 1) := by decide +kernel
theorem dX11_write_42 : decode cX11_write 42 = .ok (.invokevirtual 166, 3) := by decide +kernel
theorem dX11_write_45 : decode cX11_write 45 = .ok (.ireturn, 1) := by decide +kernel
theorem dX11_see_0 : decode cX11_see 0 = .ok (.aload_n 0, 1) := by decide +kernel
theorem dX11_see_1 : decode cX11_see 1 = .ok (.getfield 31, 3) := by decide +kernel
theorem dX11_see_4 : decode cX11_see 4 = .ok (.iload_n 1, 1) := by decide +kernel
theorem dX11_see_5 : decode cX11_see 5 = .ok (.invokevirtual 189, 3) := by decide +kernel
theorem dX11_see_8 : decode cX11_see 8 = .ok (.istore_n 2, 1) := by decide +kernel
theorem dX11_see_9 : decode cX11_see 9 = .ok (.iload_n 2, 1) := by decide +kernel
theorem dX11_see_10 : decode cX11_see 10 = .ok (.ifCond .eq 5, 3) := by decide +kernel
theorem dX11_see_13 : decode cX11_see 13 = .ok (.iload_n 2, 1) := by decide +kernel
theorem dX11_see_14 : decode cX11_see 14 = .ok (.ireturn, 1) := by decide +kernel
theorem dX11_see_15 : decode cX11_see 15 = .ok (.aload_n 0, 1) := by decide +kernel
theorem dX11_see_16 : decode cX11_see 16 = .ok (.getfield 79, 3) := by decide +kernel
theorem dX11_see_19 : decode cX11_see 19 = .ok (.iconst 4, 1) := by decide +kernel
theorem dX11_see_20 : decode cX11_see 20 = .ok (.aload_n 0, 1) := by decide +kernel
theorem dX11_see_21 : decode cX11_see 21 = .ok (.getfield 38, 3) := by decide +kernel
theorem dX11_see_24 : decode cX11_see 24 = .ok (.iload_n 1, 1) := by decide +kernel
theorem dX11_see_25 : decode cX11_see 25 = .ok (.invokevirtual 252, 3) := by decide +kernel
theorem dX11_see_28 : decode cX11_see 28 = .ok (.iload_n 1, 1) := by decide +kernel
theorem dX11_see_29 : decode cX11_see 29 = .ok (.invokevirtual 264, 3) := by decide +kernel
theorem dX11_see_32 : decode cX11_see 32 = .ok (.aload_n 0, 1) := by decide +kernel
theorem dX11_see_33 : decode cX11_see 33 = .ok (.getfield 79, 3) := by decide +kernel
theorem dX11_see_36 : decode cX11_see 36 = .ok (.iconst 4, 1) := by decide +kernel
theorem dX11_see_37 : decode cX11_see 37 = .ok (.invokevirtual 166, 3) := by decide +kernel
theorem dX11_see_40 : decode cX11_see 40 = .ok (.ireturn, 1) := by decide +kernel
theorem dX11_copy_0 : decode cX11_copy 0 = .ok (.aload_n 0, 1) := by decide +kernel
theorem dX11_copy_1 : decode cX11_copy 1 = .ok (.getfield 95, 3) := by decide +kernel
theorem dX11_copy_4 : decode cX11_copy 4 = .ok (.getfield 170, 3) := by decide +kernel
theorem dX11_copy_7 : decode cX11_copy 7 = .ok (.iconst 4, 1) := by decide +kernel
theorem dX11_copy_8 : decode cX11_copy 8 = .ok (.if_icmp .lt 7, 3) := by decide +kernel
theorem dX11_copy_11 : decode cX11_copy 11 = .ok (.sipush (-1004), 3) := by decide +kernel
theorem dX11_copy_14 : decode cX11_copy 14 = .ok (.ireturn, 1) := by decide +kernel
theorem dX11_copy_15 : decode cX11_copy 15 = .ok (.aload_n 0, 1) := by decide +kernel
theorem dX11_copy_16 : decode cX11_copy 16 = .ok (.getfield 79, 3) := by decide +kernel
theorem dX11_copy_19 : decode cX11_copy 19 = .ok (.aload_n 0, 1) := by decide +kernel
theorem dX11_copy_20 : decode cX11_copy 20 = .ok (.getfield 95, 3) := by decide +kernel
theorem dX11_copy_23 : decode cX11_copy 23 = .ok (.getfield 170, 3) := by decide +kernel
theorem dX11_copy_26 : decode cX11_copy 26 = .ok (.aload_n 0, 1) := by decide +kernel
theorem dX11_copy_27 : decode cX11_copy 27 = .ok (.getfield 79, 3) := by decide +kernel
theorem dX11_copy_30 : decode cX11_copy 30 = .ok (.iconst 4, 1) := by decide +kernel
theorem dX11_copy_31 : decode cX11_copy 31 = .ok (.invokevirtual 264, 3) := by decide +kernel
theorem dX11_copy_34 : decode cX11_copy 34 = .ok (.aload_n 0, 1) := by decide +kernel
theorem dX11_copy_35 : decode cX11_copy 35 = .ok (.getfield 79, 3) := by decide +kernel
theorem dX11_copy_38 : decode cX11_copy 38 = .ok (.iconst 4, 1) := by decide +kernel
theorem dX11_copy_39 : decode cX11_copy 39 = .ok (.invokevirtual 268, 3) := by decide +kernel
theorem dX11_copy_42 : decode cX11_copy 42 = .ok (.aload_n 0, 1) := by decide +kernel
theorem dX11_copy_43 : decode cX11_copy 43 = .ok (.getfield 95, 3) := by decide +kernel
theorem dX11_copy_46 : decode cX11_copy 46 = .ok (.dup, 1) := by decide +kernel
theorem dX11_copy_47 : decode cX11_copy 47 = .ok (.getfield 170, 3) := by decide +kernel
theorem dX11_copy_50 : decode cX11_copy 50 = .ok (.iconst 1, 1) := by decide +kernel
theorem dX11_copy_51 : decode cX11_copy 51 = .ok (.iadd, 1) := by decide +kernel
theorem dX11_copy_52 : decode cX11_copy 52 = .ok (.putfield 170, 3) := by decide +kernel
theorem dX11_copy_55 : decode cX11_copy 55 = .ok (.aload_n 0, 1) := by decide +kernel
theorem dX11_copy_56 : decode cX11_copy 56 = .ok (.getfield 95, 3) := by decide +kernel
theorem dX11_copy_59 : decode cX11_copy 59 = .ok (.getfield 170, 3) := by decide +kernel
theorem dX11_copy_62 : decode cX11_copy 62 = .ok (.iconst 1, 1) := by decide +kernel
theorem dX11_copy_63 : decode cX11_copy 63 = .ok (.isub, 1) := by decide +kernel
theorem dX11_copy_64 : decode cX11_copy 64 = .ok (.ireturn, 1) := by decide +kernel
theorem dX11_drop_0 : decode cX11_drop 0 = .ok (.aload_n 0, 1) := by decide +kernel
theorem dX11_drop_1 : decode cX11_drop 1 = .ok (.getfield 95, 3) := by decide +kernel
theorem dX11_drop_4 : decode cX11_drop 4 = .ok (.getfield 170, 3) := by decide +kernel
theorem dX11_drop_7 : decode cX11_drop 7 = .ok (.ifCond .ne 5, 3) := by decide +kernel
theorem dX11_drop_10 : decode cX11_drop 10 = .ok (.iconst (-1), 1) := by decide +kernel
theorem dX11_drop_11 : decode cX11_drop 11 = .ok (.ireturn, 1) := by decide +kernel
theorem dX11_drop_12 : decode cX11_drop 12 = .ok (.aload_n 0, 1) := by decide +kernel
theorem dX11_drop_13 : decode cX11_drop 13 = .ok (.getfield 95, 3) := by decide +kernel
theorem dX11_drop_16 : decode cX11_drop 16 = .ok (.dup, 1) := by decide +kernel
theorem dX11_drop_17 : decode cX11_drop 17 = .ok (.getfield 170, 3) := by decide +kernel
theorem dX11_drop_20 : decode cX11_drop 20 = .ok (.iconst 1, 1) := by decide +kernel
theorem dX11_drop_21 : decode cX11_drop 21 = .ok (.isub, 1) := by decide +kernel
theorem dX11_drop_22 : decode cX11_drop 22 = .ok (.putfield 170, 3) := by decide +kernel
theorem dX11_drop_25 : decode cX11_drop 25 = .ok (.aload_n 0, 1) := by decide +kernel
theorem dX11_drop_26 : decode cX11_drop 26 = .ok (.getfield 79, 3) := by decide +kernel
theorem dX11_drop_29 : decode cX11_drop 29 = .ok (.aload_n 0, 1) := by decide +kernel
theorem dX11_drop_30 : decode cX11_drop 30 = .ok (.getfield 95, 3) := by decide +kernel
theorem dX11_drop_33 : decode cX11_drop 33 = .ok (.getfield 170, 3) := by decide +kernel
theorem dX11_drop_36 : decode cX11_drop 36 = .ok (.invokevirtual 166, 3) := by decide +kernel
theorem dX11_drop_39 : decode cX11_drop 39 = .ok (.ireturn, 1) := by decide +kernel
theorem dX11_times_0 : decode cX11_times 0 = .ok (.aload_n 0, 1) := by decide +kernel
theorem dX11_times_1 : decode cX11_times 1 = .ok (.getfield 95, 3) := by decide +kernel
theorem dX11_times_4 : decode cX11_times 4 = .ok (.iload_n 1, 1) := by decide +kernel
theorem dX11_times_5 : decode cX11_times 5 = .ok (.invokevirtual 271, 3) := by decide +kernel
theorem dX11_times_8 : decode cX11_times 8 = .ok (.ifCond .ne 7, 3) := by decide +kernel
theorem dX11_times_11 : decode cX11_times 11 = .ok (.sipush (-1001), 3) := by decide +kernel
theorem dX11_times_14 : decode cX11_times 14 = .ok (.ireturn, 1) := by decide +kernel
theorem dX11_times_15 : decode cX11_times 15 = .ok (.iload_n 2, 1) := by decide +kernel
theorem dX11_times_16 : decode cX11_times 16 = .ok (.iconst (-1), 1) := by decide +kernel
theorem dX11_times_17 : decode cX11_times 17 = .ok (.if_icmp .ne 14, 3) := by decide +kernel
theorem dX11_times_20 : decode cX11_times 20 = .ok (.aload_n 0, 1) := by decide +kernel
theorem dX11_times_21 : decode cX11_times 21 = .ok (.getfield 95, 3) := by decide +kernel
theorem dX11_times_24 : decode cX11_times 24 = .ok (.iload_n 1, 1) := by decide +kernel
theorem dX11_times_25 : decode cX11_times 25 = .ok (.invokevirtual 274, 3) := by decide +kernel
theorem dX11_times_28 : decode cX11_times 28 = .ok (.goto 12, 3) := by decide +kernel
theorem dX11_times_31 : decode cX11_times 31 = .ok (.aload_n 0, 1) := by decide +kernel
theorem dX11_times_32 : decode cX11_times 32 = .ok (.getfield 95, 3) := by decide +kernel
theorem dX11_times_35 : decode cX11_times 35 = .ok (.iload_n 1, 1) := by decide +kernel
theorem dX11_times_36 : decode cX11_times 36 = .ok (.iload_n 2, 1) := by decide +kernel
theorem dX11_times_37 : decode cX11_times 37 = .ok (.invokevirtual 277, 3) := by decide +kernel
theorem dX11_times_40 : decode cX11_times 40 = .ok (.ireturn, 1) := by decide +kernel
theorem dX11_holds_0 : decode cX11_holds 0 = .ok (.aload_n 0, 1) := by decide +kernel
theorem dX11_holds_1 : decode cX11_holds 1 = .ok (.getfield 95, 3) := by decide +kernel
theorem dX11_holds_4 : decode cX11_holds 4 = .ok (.invokevirtual 280, 3) := by decide +kernel
theorem dX11_holds_7 : decode cX11_holds 7 = .ok (.lreturn, 1) := by decide +kernel
theorem dX11_when_0 : decode cX11_when 0 = .ok (.aload_n 0, 1) := by decide +kernel
theorem dX11_when_1 : decode cX11_when 1 = .ok (.getfield 95, 3) := by decide +kernel
theorem dX11_when_4 : decode cX11_when 4 = .ok (.iload_n 1, 1) := by decide +kernel
theorem dX11_when_5 : decode cX11_when 5 = .ok (.invokevirtual 271, 3) := by decide +kernel
theorem dX11_when_8 : decode cX11_when 8 = .ok (.ifCond .ne 7, 3) := by decide +kernel
theorem dX11_when_11 : decode cX11_when 11 = .ok (.sipush (-1001), 3) := by decide +kernel
theorem dX11_when_14 : decode cX11_when 14 = .ok (.ireturn, 1) := by decide +kernel
theorem dX11_when_15 : decode cX11_when 15 = .ok (.iload_n 2, 1) := by decide +kernel
theorem dX11_when_16 : decode cX11_when 16 = .ok (.ifCond .eq 8, 3) := by decide +kernel
theorem dX11_when_19 : decode cX11_when 19 = .ok (.iload_n 2, 1) := by decide +kernel
theorem dX11_when_20 : decode cX11_when 20 = .ok (.iconst 1, 1) := by decide +kernel
theorem dX11_when_21 : decode cX11_when 21 = .ok (.if_icmp .ne 24, 3) := by decide +kernel
theorem dX11_when_24 : decode cX11_when 24 = .ok (.aload_n 0, 1) := by decide +kernel
theorem dX11_when_25 : decode cX11_when 25 = .ok (.getfield 95, 3) := by decide +kernel
theorem dX11_when_28 : decode cX11_when 28 = .ok (.iload_n 1, 1) := by decide +kernel
theorem dX11_when_29 : decode cX11_when 29 = .ok (.iload_n 2, 1) := by decide +kernel
theorem dX11_when_30 : decode cX11_when 30 = .ok (.iconst 1, 1) := by decide +kernel
theorem dX11_when_31 : decode cX11_when 31 = .ok (.if_icmp .ne 7, 3) := by decide +kernel
theorem dX11_when_34 : decode cX11_when 34 = .ok (.iconst 1, 1) := by decide +kernel
theorem dX11_when_35 : decode cX11_when 35 = .ok (.goto 4, 3) := by decide +kernel
theorem dX11_when_38 : decode cX11_when 38 = .ok (.iconst 0, 1) := by decide +kernel
theorem dX11_when_39 : decode cX11_when 39 = .ok (.invokevirtual 283, 3) := by decide +kernel
theorem dX11_when_42 : decode cX11_when 42 = .ok (.goto 6, 3) := by decide +kernel
theorem dX11_when_45 : decode cX11_when 45 = .ok (.sipush (-1002), 3) := by decide +kernel
theorem dX11_when_48 : decode cX11_when 48 = .ok (.ireturn, 1) := by decide +kernel
theorem dX11_nearest_0 : decode cX11_nearest 0 = .ok (.aload_n 0, 1) := by decide +kernel
theorem dX11_nearest_1 : decode cX11_nearest 1 = .ok (.getfield 95, 3) := by decide +kernel
theorem dX11_nearest_4 : decode cX11_nearest 4 = .ok (.iload_n 1, 1) := by decide +kernel
theorem dX11_nearest_5 : decode cX11_nearest 5 = .ok (.invokevirtual 271, 3) := by decide +kernel
theorem dX11_nearest_8 : decode cX11_nearest 8 = .ok (.ifCond .ne 7, 3) := by decide +kernel
theorem dX11_nearest_11 : decode cX11_nearest 11 = .ok (.sipush (-1001), 3) := by decide +kernel
theorem dX11_nearest_14 : decode cX11_nearest 14 = .ok (.ireturn, 1) := by decide +kernel
theorem dX11_nearest_15 : decode cX11_nearest 15 = .ok (.iload_n 2, 1) := by decide +kernel
theorem dX11_nearest_16 : decode cX11_nearest 16 = .ok (.ifCond .eq 12, 3) := by decide +kernel
theorem dX11_nearest_19 : decode cX11_nearest 19 = .ok (.iload_n 2, 1) := by decide +kernel
theorem dX11_nearest_20 : decode cX11_nearest 20 = .ok (.iconst 1, 1) := by decide +kernel
theorem dX11_nearest_21 : decode cX11_nearest 21 = .ok (.if_icmp .eq 7, 3) := by decide +kernel
theorem dX11_nearest_24 : decode cX11_nearest 24 = .ok (.sipush (-1002), 3) := by decide +kernel
theorem dX11_nearest_27 : decode cX11_nearest 27 = .ok (.ireturn, 1) := by decide +kernel
theorem dX11_nearest_28 : decode cX11_nearest 28 = .ok (.aload_n 0, 1) := by decide +kernel
theorem dX11_nearest_29 : decode cX11_nearest 29 = .ok (.getfield 95, 3) := by decide +kernel
theorem dX11_nearest_32 : decode cX11_nearest 32 = .ok (.iload_n 1, 1) := by decide +kernel
theorem dX11_nearest_33 : decode cX11_nearest 33 = .ok (.invokevirtual 287, 3) := by decide +kernel
theorem dX11_nearest_36 : decode cX11_nearest 36 = .ok (.istore_n 3, 1) := by decide +kernel
theorem dX11_nearest_37 : decode cX11_nearest 37 = .ok (.iload_n 2, 1) := by decide +kernel
theorem dX11_nearest_38 : decode cX11_nearest 38 = .ok (.iconst 1, 1) := by decide +kernel
theorem dX11_nearest_39 : decode cX11_nearest 39 = .ok (.if_icmp .ne 7, 3) := by decide +kernel
theorem dX11_nearest_42 : decode cX11_nearest 42 = .ok (.iload_n 3, 1) := by decide +kernel
theorem dX11_nearest_43 : decode cX11_nearest 43 = .ok (.goto 24, 3) := by decide +kernel
theorem dX11_nearest_46 : decode cX11_nearest 46 = .ok (.aload_n 0, 1) := by decide +kernel
theorem dX11_nearest_47 : decode cX11_nearest 47 = .ok (.getfield 86, 3) := by decide +kernel
theorem dX11_nearest_50 : decode cX11_nearest 50 = .ok (.aload_n 0, 1) := by decide +kernel
theorem dX11_nearest_51 : decode cX11_nearest 51 = .ok (.getfield 79, 3) := by decide +kernel
theorem dX11_nearest_54 : decode cX11_nearest 54 = .ok (.iload_n 1, 1) := by decide +kernel
theorem dX11_nearest_55 : decode cX11_nearest 55 = .ok (.aload_n 0, 1) := by decide +kernel
theorem dX11_nearest_56 : decode cX11_nearest 56 = .ok (.getfield 38, 3) := by decide +kernel
theorem dX11_nearest_59 : decode cX11_nearest 59 = .ok (.iload_n 3, 1) := by decide +kernel
theorem dX11_nearest_60 : decode cX11_nearest 60 = .ok (.invokevirtual 252, 3) := by decide +kernel
theorem dX11_nearest_63 : decode cX11_nearest 63 = .ok (.iload_n 3, 1) := by decide +kernel
theorem dX11_nearest_64 : decode cX11_nearest 64 = .ok (.invokevirtual 256, 3) := by decide +kernel
theorem dX11_nearest_67 : decode cX11_nearest 67 = .ok (.ireturn, 1) := by decide +kernel
theorem dX11_bar_0 : decode cX11_bar 0 = .ok (.iload_n 1, 1) := by decide +kernel
theorem dX11_bar_1 : decode cX11_bar 1 = .ok (.invokestatic 224, 3) := by decide +kernel
theorem dX11_bar_4 : decode cX11_bar 4 = .ok (.ifCond .eq 10, 3) := by decide +kernel
theorem dX11_bar_7 : decode cX11_bar 7 = .ok (.iload_n 2, 1) := by decide +kernel
theorem dX11_bar_8 : decode cX11_bar 8 = .ok (.invokestatic 224, 3) := by decide +kernel
theorem dX11_bar_11 : decode cX11_bar 11 = .ok (.ifCond .ne 7, 3) := by decide +kernel
theorem dX11_bar_14 : decode cX11_bar 14 = .ok (.sipush (-1002), 3) := by decide +kernel
theorem dX11_bar_17 : decode cX11_bar 17 = .ok (.ireturn, 1) := by decide +kernel
theorem dX11_bar_18 : decode cX11_bar 18 = .ok (.aload_n 0, 1) := by decide +kernel
theorem dX11_bar_19 : decode cX11_bar 19 = .ok (.getfield 45, 3) := by decide +kernel
theorem dX11_bar_22 : decode cX11_bar 22 = .ok (.iload_n 1, 1) := by decide +kernel
theorem dX11_bar_23 : decode cX11_bar 23 = .ok (.iload_n 2, 1) := by decide +kernel
theorem dX11_bar_24 : decode cX11_bar 24 = .ok (.invokevirtual 290, 3) := by decide +kernel
theorem dX11_bar_27 : decode cX11_bar 27 = .ok (.istore 4, 2) := by decide +kernel
theorem dX11_bar_29 : decode cX11_bar 29 = .ok (.iload_n 3, 1) := by decide +kernel
theorem dX11_bar_30 : decode cX11_bar 30 = .ok (.ifCond .eq 24, 3) := by decide +kernel
theorem dX11_bar_33 : decode cX11_bar 33 = .ok (.iload 4, 2) := by decide +kernel
theorem dX11_bar_35 : decode cX11_bar 35 = .ok (.ifCond .ne 19, 3) := by decide +kernel
theorem dX11_bar_38 : decode cX11_bar 38 = .ok (.aload_n 0, 1) := by decide +kernel
theorem dX11_bar_39 : decode cX11_bar 39 = .ok (.getfield 45, 3) := by decide +kernel
theorem dX11_bar_42 : decode cX11_bar 42 = .ok (.getfield 173, 3) := by decide +kernel
theorem dX11_bar_45 : decode cX11_bar 45 = .ok (.bipush 20, 2) := by decide +kernel
theorem dX11_bar_47 : decode cX11_bar 47 = .ok (.if_icmp .lt 7, 3) := by decide +kernel
theorem dX11_bar_50 : decode cX11_bar 50 = .ok (.sipush (-1004), 3) := by decide +kernel
theorem dX11_bar_53 : decode cX11_bar 53 = .ok (.ireturn, 1) := by decide +kernel
theorem dX11_bar_54 : decode cX11_bar 54 = .ok (.iload_n 3, 1) := by decide +kernel
theorem dX11_bar_55 : decode cX11_bar 55 = .ok (.iload 4, 2) := by decide +kernel
theorem dX11_bar_57 : decode cX11_bar 57 = .ok (.if_icmp .eq 12, 3) := by decide +kernel
theorem dX11_bar_60 : decode cX11_bar 60 = .ok (.aload_n 0, 1) := by decide +kernel
theorem dX11_bar_61 : decode cX11_bar 61 = .ok (.getfield 45, 3) := by decide +kernel
theorem dX11_bar_64 : decode cX11_bar 64 = .ok (.iload_n 1, 1) := by decide +kernel
theorem dX11_bar_65 : decode cX11_bar 65 = .ok (.iload_n 2, 1) := by decide +kernel
theorem dX11_bar_66 : decode cX11_bar 66 = .ok (.invokevirtual 293, 3) := by decide +kernel
theorem dX11_bar_69 : decode cX11_bar 69 = .ok (.iload 4, 2) := by decide +kernel
theorem dX11_bar_71 : decode cX11_bar 71 = .ok (.ifCond .eq 7, 3) := by decide +kernel
theorem dX11_bar_74 : decode cX11_bar 74 = .ok (.iconst 1, 1) := by decide +kernel
theorem dX11_bar_75 : decode cX11_bar 75 = .ok (.goto 4, 3) := by decide +kernel
theorem dX11_bar_78 : decode cX11_bar 78 = .ok (.iconst 0, 1) := by decide +kernel
theorem dX11_bar_79 : decode cX11_bar 79 = .ok (.ireturn, 1) := by decide +kernel
theorem dX11_breaks_0 : decode cX11_breaks 0 = .ok (.aload_n 0, 1) := by decide +kernel
theorem dX11_breaks_1 : decode cX11_breaks 1 = .ok (.getfield 31, 3) := by decide +kernel
theorem dX11_breaks_4 : decode cX11_breaks 4 = .ok (.iload_n 1, 1) := by decide +kernel
theorem dX11_breaks_5 : decode cX11_breaks 5 = .ok (.invokevirtual 189, 3) := by decide +kernel
theorem dX11_breaks_8 : decode cX11_breaks 8 = .ok (.istore_n 2, 1) := by decide +kernel
theorem dX11_breaks_9 : decode cX11_breaks 9 = .ok (.iload_n 2, 1) := by decide +kernel
theorem dX11_breaks_10 : decode cX11_breaks 10 = .ok (.ifCond .eq 7, 3) := by decide +kernel
theorem dX11_breaks_13 : decode cX11_breaks 13 = .ok (.iload_n 2, 1) := by decide +kernel
theorem dX11_breaks_14 : decode cX11_breaks 14 = .ok (.goto 19, 3) := by decide +kernel
theorem dX11_breaks_17 : decode cX11_breaks 17 = .ok (.aload_n 0, 1) := by decide +kernel
theorem dX11_breaks_18 : decode cX11_breaks 18 = .ok (.getfield 45, 3) := by decide +kernel
theorem dX11_breaks_21 : decode cX11_breaks 21 = .ok (.aload_n 0, 1) := by decide +kernel
theorem dX11_breaks_22 : decode cX11_breaks 22 = .ok (.getfield 38, 3) := by decide +kernel
theorem dX11_breaks_25 : decode cX11_breaks 25 = .ok (.iload_n 1, 1) := by decide +kernel
theorem dX11_breaks_26 : decode cX11_breaks 26 = .ok (.invokevirtual 252, 3) := by decide +kernel
theorem dX11_breaks_29 : decode cX11_breaks 29 = .ok (.iload_n 1, 1) := by decide +kernel
theorem dX11_breaks_30 : decode cX11_breaks 30 = .ok (.invokevirtual 296, 3) := by decide +kernel
theorem dX11_breaks_33 : decode cX11_breaks 33 = .ok (.ireturn, 1) := by decide +kernel
theorem dX11_clean_0 : decode cX11_clean 0 = .ok (.aload_n 0, 1) := by decide +kernel
theorem dX11_clean_1 : decode cX11_clean 1 = .ok (.getfield 54, 3) := by decide +kernel
theorem dX11_clean_4 : decode cX11_clean 4 = .ok (.invokevirtual 300, 3) := by decide +kernel
theorem dX11_clean_7 : decode cX11_clean 7 = .ok (.lreturn, 1) := by decide +kernel
theorem dX11_least_0 : decode cX11_least 0 = .ok (.aload_n 0, 1) := by decide +kernel
theorem dX11_least_1 : decode cX11_least 1 = .ok (.getfield 61, 3) := by decide +kernel
theorem dX11_least_4 : decode cX11_least 4 = .ok (.invokevirtual 303, 3) := by decide +kernel
theorem dX11_least_7 : decode cX11_least 7 = .ok (.ireturn, 1) := by decide +kernel
theorem dX11_isWord_0 : decode cX11_isWord 0 = .ok (.iload_n 0, 1) := by decide +kernel
theorem dX11_isWord_1 : decode cX11_isWord 1 = .ok (.ifCond .lt 13, 3) := by decide +kernel
theorem dX11_isWord_4 : decode cX11_isWord 4 = .ok (.iload_n 0, 1) := by decide +kernel
theorem dX11_isWord_5 : decode cX11_isWord 5 = .ok (.bipush 100, 2) := by decide +kernel
theorem dX11_isWord_7 : decode cX11_isWord 7 = .ok (.if_icmp .ge 7, 3) := by decide +kernel
theorem dX11_isWord_10 : decode cX11_isWord 10 = .ok (.iconst 1, 1) := by decide +kernel
theorem dX11_isWord_11 : decode cX11_isWord 11 = .ok (.goto 4, 3) := by decide +kernel
theorem dX11_isWord_14 : decode cX11_isWord 14 = .ok (.iconst 0, 1) := by decide +kernel
theorem dX11_isWord_15 : decode cX11_isWord 15 = .ok (.ireturn, 1) := by decide +kernel
theorem dX11_isInk_0 : decode cX11_isInk 0 = .ok (.iload_n 0, 1) := by decide +kernel
theorem dX11_isInk_1 : decode cX11_isInk 1 = .ok (.ifCond .lt 12, 3) := by decide +kernel
theorem dX11_isInk_4 : decode cX11_isInk 4 = .ok (.iload_n 0, 1) := by decide +kernel
theorem dX11_isInk_5 : decode cX11_isInk 5 = .ok (.iconst 4, 1) := by decide +kernel
theorem dX11_isInk_6 : decode cX11_isInk 6 = .ok (.if_icmp .ge 7, 3) := by decide +kernel
theorem dX11_isInk_9 : decode cX11_isInk 9 = .ok (.iconst 1, 1) := by decide +kernel
theorem dX11_isInk_10 : decode cX11_isInk 10 = .ok (.goto 4, 3) := by decide +kernel
theorem dX11_isInk_13 : decode cX11_isInk 13 = .ok (.iconst 0, 1) := by decide +kernel
theorem dX11_isInk_14 : decode cX11_isInk 14 = .ok (.ireturn, 1) := by decide +kernel
theorem dX11_wordOrSize_0 : decode cX11_wordOrSize 0 = .ok (.aload_n 0, 1) := by decide +kernel
theorem dX11_wordOrSize_1 : decode cX11_wordOrSize 1 = .ok (.getfield 38, 3) := by decide +kernel
theorem dX11_wordOrSize_4 : decode cX11_wordOrSize 4 = .ok (.iload_n 1, 1) := by decide +kernel
theorem dX11_wordOrSize_5 : decode cX11_wordOrSize 5 = .ok (.invokevirtual 252, 3) := by decide +kernel
theorem dX11_wordOrSize_8 : decode cX11_wordOrSize 8 = .ok (.astore_n 3, 1) := by decide +kernel
theorem dX11_wordOrSize_9 : decode cX11_wordOrSize 9 = .ok (.iload_n 2, 1) := by decide +kernel
theorem dX11_wordOrSize_10 : decode cX11_wordOrSize 10 = .ok (.iconst (-1), 1) := by decide +kernel
theorem dX11_wordOrSize_11 : decode cX11_wordOrSize 11 = .ok (.if_icmp .ne 11, 3) := by decide +kernel
theorem dX11_wordOrSize_14 : decode cX11_wordOrSize 14 = .ok (.aload_n 3, 1) := by decide +kernel
theorem dX11_wordOrSize_15 : decode cX11_wordOrSize 15 = .ok (.iload_n 1, 1) := by decide +kernel
theorem dX11_wordOrSize_16 : decode cX11_wordOrSize 16 = .ok (.invokevirtual 166, 3) := by decide +kernel
theorem dX11_wordOrSize_19 : decode cX11_wordOrSize 19 = .ok (.goto 9, 3) := by decide +kernel
theorem dX11_wordOrSize_22 : decode cX11_wordOrSize 22 = .ok (.aload_n 3, 1) := by decide +kernel
theorem dX11_wordOrSize_23 : decode cX11_wordOrSize 23 = .ok (.iload_n 1, 1) := by decide +kernel
theorem dX11_wordOrSize_24 : decode cX11_wordOrSize 24 = .ok (.iload_n 2, 1) := by decide +kernel
theorem dX11_wordOrSize_25 : decode cX11_wordOrSize 25 = .ok (.invokevirtual 306, 3) := by decide +kernel
theorem dX11_wordOrSize_28 : decode cX11_wordOrSize 28 = .ok (.ireturn, 1) := by decide +kernel
theorem dX11_fewestMarks_0 : decode cX11_fewestMarks 0 = .ok (.bipush 11, 2) := by decide +kernel
theorem dX11_fewestMarks_2 : decode cX11_fewestMarks 2 = .ok (.istore_n 2, 1) := by decide +kernel
theorem dX11_fewestMarks_3 : decode cX11_fewestMarks 3 = .ok (.iconst 0, 1) := by decide +kernel
theorem dX11_fewestMarks_4 : decode cX11_fewestMarks 4 = .ok (.istore_n 3, 1) := by decide +kernel
theorem dX11_fewestMarks_5 : decode cX11_fewestMarks 5 = .ok (.iload_n 3, 1) := by decide +kernel
theorem dX11_fewestMarks_6 : decode cX11_fewestMarks 6 = .ok (.aload_n 0, 1) := by decide +kernel
theorem dX11_fewestMarks_7 : decode cX11_fewestMarks 7 = .ok (.getfield 31, 3) := by decide +kernel
theorem dX11_fewestMarks_10 : decode cX11_fewestMarks 10 = .ok (.invokevirtual 183, 3) := by decide +kernel
theorem dX11_fewestMarks_13 : decode cX11_fewestMarks 13 = .ok (.if_icmp .ge 47, 3) := by decide +kernel
theorem dX11_fewestMarks_16 : decode cX11_fewestMarks 16 = .ok (.aload_n 0, 1) := by decide +kernel
theorem dX11_fewestMarks_17 : decode cX11_fewestMarks 17 = .ok (.getfield 31, 3) := by decide +kernel
theorem dX11_fewestMarks_20 : decode cX11_fewestMarks 20 = .ok (.iload_n 3, 1) := by decide +kernel
theorem dX11_fewestMarks_21 : decode cX11_fewestMarks 21 = .ok (.invokevirtual 186, 3) := by decide +kernel
theorem dX11_fewestMarks_24 : decode cX11_fewestMarks 24 = .ok (.istore 4, 2) := by decide +kernel
theorem dX11_fewestMarks_26 : decode cX11_fewestMarks 26 = .ok (.iload 4, 2) := by decide +kernel
theorem dX11_fewestMarks_28 : decode cX11_fewestMarks 28 = .ok (.invokestatic 208, 3) := by decide +kernel
theorem dX11_fewestMarks_31 : decode cX11_fewestMarks 31 = .ok (.iload_n 2, 1) := by decide +kernel
theorem dX11_fewestMarks_32 : decode cX11_fewestMarks 32 = .ok (.if_icmp .ge 22, 3) := by decide +kernel
theorem dX11_fewestMarks_35 : decode cX11_fewestMarks 35 = .ok (.aload_n 0, 1) := by decide +kernel
theorem dX11_fewestMarks_36 : decode cX11_fewestMarks 36 = .ok (.getfield 38, 3) := by decide +kernel
theorem dX11_fewestMarks_39 : decode cX11_fewestMarks 39 = .ok (.iload_n 1, 1) := by decide +kernel
theorem dX11_fewestMarks_40 : decode cX11_fewestMarks 40 = .ok (.iload 4, 2) := by decide +kernel
theorem dX11_fewestMarks_42 : decode cX11_fewestMarks 42 = .ok (.invokevirtual 227, 3) := by decide +kernel
theorem dX11_fewestMarks_45 : decode cX11_fewestMarks 45 = .ok (.ifCond .eq 9, 3) := by decide +kernel
theorem dX11_fewestMarks_48 : decode cX11_fewestMarks 48 = .ok (.iload 4, 2) := by decide +kernel
theorem dX11_fewestMarks_50 : decode cX11_fewestMarks 50 = .ok (.invokestatic 208, 3) := by decide +kernel
theorem dX11_fewestMarks_53 : decode cX11_fewestMarks 53 = .ok (.istore_n 2, 1) := by decide +kernel
theorem dX11_fewestMarks_54 : decode cX11_fewestMarks 54 = .ok (.iinc 3 1, 3) := by decide +kernel
theorem dX11_fewestMarks_57 : decode cX11_fewestMarks 57 = .ok (.goto (-52), 3) := by decide +kernel
theorem dX11_fewestMarks_60 : decode cX11_fewestMarks 60 = .ok (.iload_n 2, 1) := by decide +kernel
theorem dX11_fewestMarks_61 : decode cX11_fewestMarks 61 = .ok (.bipush 10, 2) := by decide +kernel
theorem dX11_fewestMarks_63 : decode cX11_fewestMarks 63 = .ok (.if_icmp .le 7, 3) := by decide +kernel
theorem dX11_fewestMarks_66 : decode cX11_fewestMarks 66 = .ok (.iconst (-1), 1) := by decide +kernel
theorem dX11_fewestMarks_67 : decode cX11_fewestMarks 67 = .ok (.goto 4, 3) := by decide +kernel
theorem dX11_fewestMarks_70 : decode cX11_fewestMarks 70 = .ok (.iload_n 2, 1) := by decide +kernel
theorem dX11_fewestMarks_71 : decode cX11_fewestMarks 71 = .ok (.ireturn, 1) := by decide +kernel
theorem dX11_mostMarks_0 : decode cX11_mostMarks 0 = .ok (.iconst (-1), 1) := by decide +kernel
theorem dX11_mostMarks_1 : decode cX11_mostMarks 1 = .ok (.istore_n 2, 1) := by decide +kernel
theorem dX11_mostMarks_2 : decode cX11_mostMarks 2 = .ok (.iconst 0, 1) := by decide +kernel
theorem dX11_mostMarks_3 : decode cX11_mostMarks 3 = .ok (.istore_n 3, 1) := by decide +kernel
theorem dX11_mostMarks_4 : decode cX11_mostMarks 4 = .ok (.iload_n 3, 1) := by decide +kernel
theorem dX11_mostMarks_5 : decode cX11_mostMarks 5 = .ok (.aload_n 0, 1) := by decide +kernel
theorem dX11_mostMarks_6 : decode cX11_mostMarks 6 = .ok (.getfield 31, 3) := by decide +kernel
theorem dX11_mostMarks_9 : decode cX11_mostMarks 9 = .ok (.invokevirtual 183, 3) := by decide +kernel
theorem dX11_mostMarks_12 : decode cX11_mostMarks 12 = .ok (.if_icmp .ge 47, 3) := by decide +kernel
theorem dX11_mostMarks_15 : decode cX11_mostMarks 15 = .ok (.aload_n 0, 1) := by decide +kernel
theorem dX11_mostMarks_16 : decode cX11_mostMarks 16 = .ok (.getfield 31, 3) := by decide +kernel
theorem dX11_mostMarks_19 : decode cX11_mostMarks 19 = .ok (.iload_n 3, 1) := by decide +kernel
theorem dX11_mostMarks_20 : decode cX11_mostMarks 20 = .ok (.invokevirtual 186, 3) := by decide +kernel
theorem dX11_mostMarks_23 : decode cX11_mostMarks 23 = .ok (.istore 4, 2) := by decide +kernel
theorem dX11_mostMarks_25 : decode cX11_mostMarks 25 = .ok (.iload 4, 2) := by decide +kernel
theorem dX11_mostMarks_27 : decode cX11_mostMarks 27 = .ok (.invokestatic 208, 3) := by decide +kernel
theorem dX11_mostMarks_30 : decode cX11_mostMarks 30 = .ok (.iload_n 2, 1) := by decide +kernel
theorem dX11_mostMarks_31 : decode cX11_mostMarks 31 = .ok (.if_icmp .le 22, 3) := by decide +kernel
theorem dX11_mostMarks_34 : decode cX11_mostMarks 34 = .ok (.aload_n 0, 1) := by decide +kernel
theorem dX11_mostMarks_35 : decode cX11_mostMarks 35 = .ok (.getfield 38, 3) := by decide +kernel
theorem dX11_mostMarks_38 : decode cX11_mostMarks 38 = .ok (.iload_n 1, 1) := by decide +kernel
theorem dX11_mostMarks_39 : decode cX11_mostMarks 39 = .ok (.iload 4, 2) := by decide +kernel
theorem dX11_mostMarks_41 : decode cX11_mostMarks 41 = .ok (.invokevirtual 227, 3) := by decide +kernel
theorem dX11_mostMarks_44 : decode cX11_mostMarks 44 = .ok (.ifCond .eq 9, 3) := by decide +kernel
theorem dX11_mostMarks_47 : decode cX11_mostMarks 47 = .ok (.iload 4, 2) := by decide +kernel
theorem dX11_mostMarks_49 : decode cX11_mostMarks 49 = .ok (.invokestatic 208, 3) := by decide +kernel
theorem dX11_mostMarks_52 : decode cX11_mostMarks 52 = .ok (.istore_n 2, 1) := by decide +kernel
theorem dX11_mostMarks_53 : decode cX11_mostMarks 53 = .ok (.iinc 3 1, 3) := by decide +kernel
theorem dX11_mostMarks_56 : decode cX11_mostMarks 56 = .ok (.goto (-52), 3) := by decide +kernel
theorem dX11_mostMarks_59 : decode cX11_mostMarks 59 = .ok (.iload_n 2, 1) := by decide +kernel
theorem dX11_mostMarks_60 : decode cX11_mostMarks 60 = .ok (.ireturn, 1) := by decide +kernel
theorem dX11_goodSetsWith_0 : decode cX11_goodSetsWith 0 = .ok (.iconst 0, 1) := by decide +kernel
theorem dX11_goodSetsWith_1 : decode cX11_goodSetsWith 1 = .ok (.istore_n 2, 1) := by decide +kernel
theorem dX11_goodSetsWith_2 : decode cX11_goodSetsWith 2 = .ok (.iconst 0, 1) := by decide +kernel
theorem dX11_goodSetsWith_3 : decode cX11_goodSetsWith 3 = .ok (.istore_n 3, 1) := by decide +kernel
theorem dX11_goodSetsWith_4 : decode cX11_goodSetsWith 4 = .ok (.iload_n 3, 1) := by decide +kernel
theorem dX11_goodSetsWith_5 : decode cX11_goodSetsWith 5 = .ok (.aload_n 0, 1) := by decide +kernel
theorem dX11_goodSetsWith_6 : decode cX11_goodSetsWith 6 = .ok (.getfield 31, 3) := by decide +kernel
theorem dX11_goodSetsWith_9 : decode cX11_goodSetsWith 9 = .ok (.invokevirtual 183, 3) := by decide +kernel
theorem dX11_goodSetsWith_12 : decode cX11_goodSetsWith 12 = .ok (.if_icmp .ge 31, 3) := by decide +kernel
theorem dX11_goodSetsWith_15 : decode cX11_goodSetsWith 15 = .ok (.aload_n 0, 1) := by decide +kernel
theorem dX11_goodSetsWith_16 : decode cX11_goodSetsWith 16 = .ok (.getfield 38, 3) := by decide +kernel
theorem dX11_goodSetsWith_19 : decode cX11_goodSetsWith 19 = .ok (.iload_n 1, 1) := by decide +kernel
theorem dX11_goodSetsWith_20 : decode cX11_goodSetsWith 20 = .ok (.aload_n 0, 1) := by decide +kernel
theorem dX11_goodSetsWith_21 : decode cX11_goodSetsWith 21 = .ok (.getfield 31, 3) := by decide +kernel
theorem dX11_goodSetsWith_24 : decode cX11_goodSetsWith 24 = .ok (.iload_n 3, 1) := by decide +kernel
theorem dX11_goodSetsWith_25 : decode cX11_goodSetsWith 25 = .ok (.invokevirtual 186, 3) := by decide +kernel
theorem dX11_goodSetsWith_28 : decode cX11_goodSetsWith 28 = .ok (.invokevirtual 227, 3) := by decide +kernel
theorem dX11_goodSetsWith_31 : decode cX11_goodSetsWith 31 = .ok (.ifCond .eq 6, 3) := by decide +kernel
theorem dX11_goodSetsWith_34 : decode cX11_goodSetsWith 34 = .ok (.iinc 2 1, 3) := by decide +kernel
theorem dX11_goodSetsWith_37 : decode cX11_goodSetsWith 37 = .ok (.iinc 3 1, 3) := by decide +kernel
theorem dX11_goodSetsWith_40 : decode cX11_goodSetsWith 40 = .ok (.goto (-36), 3) := by decide +kernel
theorem dX11_goodSetsWith_43 : decode cX11_goodSetsWith 43 = .ok (.iload_n 2, 1) := by decide +kernel
theorem dX11_goodSetsWith_44 : decode cX11_goodSetsWith 44 = .ok (.ireturn, 1) := by decide +kernel
theorem dX11_neverChanges_0 : decode cX11_neverChanges 0 = .ok (.iconst 0, 1) := by decide +kernel
theorem dX11_neverChanges_1 : decode cX11_neverChanges 1 = .ok (.istore_n 2, 1) := by decide +kernel
theorem dX11_neverChanges_2 : decode cX11_neverChanges 2 = .ok (.iload_n 2, 1) := by decide +kernel
theorem dX11_neverChanges_3 : decode cX11_neverChanges 3 = .ok (.aload_n 0, 1) := by decide +kernel
theorem dX11_neverChanges_4 : decode cX11_neverChanges 4 = .ok (.getfield 31, 3) := by decide +kernel
theorem dX11_neverChanges_7 : decode cX11_neverChanges 7 = .ok (.invokevirtual 183, 3) := by decide +kernel
theorem dX11_neverChanges_10 : decode cX11_neverChanges 10 = .ok (.if_icmp .ge 51, 3) := by decide +kernel
theorem dX11_neverChanges_13 : decode cX11_neverChanges 13 = .ok (.aload_n 0, 1) := by decide +kernel
theorem dX11_neverChanges_14 : decode cX11_neverChanges 14 = .ok (.getfield 31, 3) := by decide +kernel
theorem dX11_neverChanges_17 : decode cX11_neverChanges 17 = .ok (.iload_n 2, 1) := by decide +kernel
theorem dX11_neverChanges_18 : decode cX11_neverChanges 18 = .ok (.invokevirtual 186, 3) := by decide +kernel
theorem dX11_neverChanges_21 : decode cX11_neverChanges 21 = .ok (.istore_n 3, 1) := by decide +kernel
theorem dX11_neverChanges_22 : decode cX11_neverChanges 22 = .ok (.aload_n 0, 1) := by decide +kernel
theorem dX11_neverChanges_23 : decode cX11_neverChanges 23 = .ok (.getfield 31, 3) := by decide +kernel
theorem dX11_neverChanges_26 : decode cX11_neverChanges 26 = .ok (.iload_n 3, 1) := by decide +kernel
theorem dX11_neverChanges_27 : decode cX11_neverChanges 27 = .ok (.invokevirtual 192, 3) := by decide +kernel
theorem dX11_neverChanges_30 : decode cX11_neverChanges 30 = .ok (.iload_n 1, 1) := by decide +kernel
theorem dX11_neverChanges_31 : decode cX11_neverChanges 31 = .ok (.ishr, 1) := by decide +kernel
theorem dX11_neverChanges_32 : decode cX11_neverChanges 32 = .ok (.iconst 1, 1) := by decide +kernel
theorem dX11_neverChanges_33 : decode cX11_neverChanges 33 = .ok (.iand, 1) := by decide +kernel
theorem dX11_neverChanges_34 : decode cX11_neverChanges 34 = .ok (.ifCond .eq 21, 3) := by decide +kernel
theorem dX11_neverChanges_37 : decode cX11_neverChanges 37 = .ok (.aload_n 0, 1) := by decide +kernel
theorem dX11_neverChanges_38 : decode cX11_neverChanges 38 = .ok (.getfield 38, 3) := by decide +kernel
theorem dX11_neverChanges_41 : decode cX11_neverChanges 41 = .ok (.iload_n 3, 1) := by decide +kernel
theorem dX11_neverChanges_42 : decode cX11_neverChanges 42 = .ok (.iload_n 3, 1) := by decide +kernel
theorem dX11_neverChanges_43 : decode cX11_neverChanges 43 = .ok (.iconst 1, 1) := by decide +kernel
theorem dX11_neverChanges_44 : decode cX11_neverChanges 44 = .ok (.iload_n 1, 1) := by decide +kernel
theorem dX11_neverChanges_45 : decode cX11_neverChanges 45 = .ok (.ishl, 1) := by decide +kernel
theorem dX11_neverChanges_46 : decode cX11_neverChanges 46 = .ok (.ior, 1) := by decide +kernel
theorem dX11_neverChanges_47 : decode cX11_neverChanges 47 = .ok (.invokevirtual 309, 3) := by decide +kernel
theorem dX11_neverChanges_50 : decode cX11_neverChanges 50 = .ok (.ifCond .ne 5, 3) := by decide +kernel
theorem dX11_neverChanges_53 : decode cX11_neverChanges 53 = .ok (.iconst 0, 1) := by decide +kernel
theorem dX11_neverChanges_54 : decode cX11_neverChanges 54 = .ok (.ireturn, 1) := by decide +kernel
theorem dX11_neverChanges_55 : decode cX11_neverChanges 55 = .ok (.iinc 2 1, 3) := by decide +kernel
theorem dX11_neverChanges_58 : decode cX11_neverChanges 58 = .ok (.goto (-56), 3) := by decide +kernel
theorem dX11_neverChanges_61 : decode cX11_neverChanges 61 = .ok (.iconst 1, 1) := by decide +kernel
theorem dX11_neverChanges_62 : decode cX11_neverChanges 62 = .ok (.ireturn, 1) := by decide +kernel
