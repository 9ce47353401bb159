theorem dX0_init_0 : decode cX0_init 0 = .ok (.aload_n 0, 1) := by decide +kernel
theorem dX0_init_1 : decode cX0_init 1 = .ok (.invokespecial 3, 3) := by decide +kernel
theorem dX0_init_4 : decode cX0_init 4 = .ok (.aload_n 0, 1) := by decide +kernel
theorem dX0_init_5 : decode cX0_init 5 = .ok (.sipush 200, 3) := by decide +kernel
theorem dX0_init_8 : decode cX0_init 8 = .ok (.newarray .long, 2) := by decide +kernel
theorem dX0_init_10 : decode cX0_init 10 = .ok (.putfield 9, 3) := by decide +kernel
theorem dX0_init_13 : decode cX0_init 13 = .ok (.return_, 1) := by decide +kernel
theorem dX0_isBarred_0 : decode cX0_isBarred 0 = .ok (.iload_n 1, 1) := by decide +kernel
theorem dX0_isBarred_1 : decode cX0_isBarred 1 = .ok (.invokestatic 15, 3) := by decide +kernel
theorem dX0_isBarred_4 : decode cX0_isBarred 4 = .ok (.ifCond .eq 10, 3) := by decide +kernel
theorem dX0_isBarred_7 : decode cX0_isBarred 7 = .ok (.iload_n 2, 1) := by decide +kernel
theorem dX0_isBarred_8 : decode cX0_isBarred 8 = .ok (.invokestatic 15, 3) := by decide +kernel
theorem dX0_isBarred_11 : decode cX0_isBarred 11 = .ok (.ifCond .ne 5, 3) := by decide +kernel
theorem dX0_isBarred_14 : decode cX0_isBarred 14 = .ok (.iconst 0, 1) := by decide +kernel
theorem dX0_isBarred_15 : decode cX0_isBarred 15 = .ok (.ireturn, 1) := by decide +kernel
theorem dX0_isBarred_16 : decode cX0_isBarred 16 = .ok (.aload_n 0, 1) := by decide +kernel
theorem dX0_isBarred_17 : decode cX0_isBarred 17 = .ok (.getfield 9, 3) := by decide +kernel
theorem dX0_isBarred_20 : decode cX0_isBarred 20 = .ok (.iconst 2, 1) := by decide +kernel
theorem dX0_isBarred_21 : decode cX0_isBarred 21 = .ok (.iload_n 1, 1) := by decide +kernel
theorem dX0_isBarred_22 : decode cX0_isBarred 22 = .ok (.imul, 1) := by decide +kernel
theorem dX0_isBarred_23 : decode cX0_isBarred 23 = .ok (.iload_n 2, 1) := by decide +kernel
theorem dX0_isBarred_24 : decode cX0_isBarred 24 = .ok (.bipush 6, 2) := by decide +kernel
theorem dX0_isBarred_26 : decode cX0_isBarred 26 = .ok (.ishr, 1) := by decide +kernel
theorem dX0_isBarred_27 : decode cX0_isBarred 27 = .ok (.iadd, 1) := by decide +kernel
theorem dX0_isBarred_28 : decode cX0_isBarred 28 = .ok (.laload, 1) := by decide +kernel
theorem dX0_isBarred_29 : decode cX0_isBarred 29 = .ok (.iload_n 2, 1) := by decide +kernel
theorem dX0_isBarred_30 : decode cX0_isBarred 30 = .ok (.bipush 63, 2) := by decide +kernel
theorem dX0_isBarred_32 : decode cX0_isBarred 32 = .ok (.iand, 1) := by decide +kernel
theorem dX0_isBarred_33 : decode cX0_isBarred 33 = .ok (.lushr, 1) := by decide +kernel
theorem dX0_isBarred_34 : decode cX0_isBarred 34 = .ok (.lconst 1, 1) := by decide +kernel
theorem dX0_isBarred_35 : decode cX0_isBarred 35 = .ok (.land, 1) := by decide +kernel
theorem dX0_isBarred_36 : decode cX0_isBarred 36 = .ok (.lconst 0, 1) := by decide +kernel
theorem dX0_isBarred_37 : decode cX0_isBarred 37 = .ok (.lcmp, 1) := by decide +kernel
theorem dX0_isBarred_38 : decode cX0_isBarred 38 = .ok (.ifCond .eq 7, 3) := by decide +kernel
theorem dX0_isBarred_41 : decode cX0_isBarred 41 = .ok (.iconst 1, 1) := by decide +kernel
theorem dX0_isBarred_42 : decode cX0_isBarred 42 = .ok (.goto 4, 3) := by decide +kernel
theorem dX0_isBarred_45 : decode cX0_isBarred 45 = .ok (.iconst 0, 1) := by decide +kernel
theorem dX0_isBarred_46 : decode cX0_isBarred 46 = .ok (.ireturn, 1) := by decide +kernel
theorem dX0_turn_0 : decode cX0_turn 0 = .ok (.iload_n 1, 1) := by decide +kernel
theorem dX0_turn_1 : decode cX0_turn 1 = .ok (.invokestatic 15, 3) := by decide +kernel
theorem dX0_turn_4 : decode cX0_turn 4 = .ok (.ifCond .eq 55, 3) := by decide +kernel
theorem dX0_turn_7 : decode cX0_turn 7 = .ok (.iload_n 2, 1) := by decide +kernel
theorem dX0_turn_8 : decode cX0_turn 8 = .ok (.invokestatic 15, 3) := by decide +kernel
theorem dX0_turn_11 : decode cX0_turn 11 = .ok (.ifCond .eq 48, 3) := by decide +kernel
theorem dX0_turn_14 : decode cX0_turn 14 = .ok (.aload_n 0, 1) := by decide +kernel
theorem dX0_turn_15 : decode cX0_turn 15 = .ok (.dup, 1) := by decide +kernel
theorem dX0_turn_16 : decode cX0_turn 16 = .ok (.getfield 19, 3) := by decide +kernel
theorem dX0_turn_19 : decode cX0_turn 19 = .ok (.aload_n 0, 1) := by decide +kernel
theorem dX0_turn_20 : decode cX0_turn 20 = .ok (.iload_n 1, 1) := by decide +kernel
theorem dX0_turn_21 : decode cX0_turn 21 = .ok (.iload_n 2, 1) := by decide +kernel
theorem dX0_turn_22 : decode cX0_turn 22 = .ok (.invokevirtual 23, 3) := by decide +kernel
theorem dX0_turn_25 : decode cX0_turn 25 = .ok (.ifCond .eq 7, 3) := by decide +kernel
theorem dX0_turn_28 : decode cX0_turn 28 = .ok (.iconst (-1), 1) := by decide +kernel
theorem dX0_turn_29 : decode cX0_turn 29 = .ok (.goto 4, 3) := by decide +kernel
theorem dX0_turn_32 : decode cX0_turn 32 = .ok (.iconst 1, 1) := by decide +kernel
theorem dX0_turn_33 : decode cX0_turn 33 = .ok (.iadd, 1) := by decide +kernel
theorem dX0_turn_34 : decode cX0_turn 34 = .ok (.putfield 19, 3) := by decide +kernel
theorem dX0_turn_37 : decode cX0_turn 37 = .ok (.aload_n 0, 1) := by decide +kernel
theorem dX0_turn_38 : decode cX0_turn 38 = .ok (.getfield 9, 3) := by decide +kernel
theorem dX0_turn_41 : decode cX0_turn 41 = .ok (.iconst 2, 1) := by decide +kernel
theorem dX0_turn_42 : decode cX0_turn 42 = .ok (.iload_n 1, 1) := by decide +kernel
theorem dX0_turn_43 : decode cX0_turn 43 = .ok (.imul, 1) := by decide +kernel
theorem dX0_turn_44 : decode cX0_turn 44 = .ok (.iload_n 2, 1) := by decide +kernel
theorem dX0_turn_45 : decode cX0_turn 45 = .ok (.bipush 6, 2) := by decide +kernel
theorem dX0_turn_47 : decode cX0_turn 47 = .ok (.ishr, 1) := by decide +kernel
theorem dX0_turn_48 : decode cX0_turn 48 = .ok (.iadd, 1) := by decide +kernel
theorem dX0_turn_49 : decode cX0_turn 49 = .ok (.dup2, 1) := by decide +kernel
theorem dX0_turn_50 : decode cX0_turn 50 = .ok (.laload, 1) := by decide +kernel
theorem dX0_turn_51 : decode cX0_turn 51 = .ok (.lconst 1, 1) := by decide +kernel
theorem dX0_turn_52 : decode cX0_turn 52 = .ok (.iload_n 2, 1) := by decide +kernel
theorem dX0_turn_53 : decode cX0_turn 53 = .ok (.bipush 63, 2) := by decide +kernel
theorem dX0_turn_55 : decode cX0_turn 55 = .ok (.iand, 1) := by decide +kernel
theorem dX0_turn_56 : decode cX0_turn 56 = .ok (.lshl, 1) := by decide +kernel
theorem dX0_turn_57 : decode cX0_turn 57 = .ok (.lxor, 1) := by decide +kernel
theorem dX0_turn_58 : decode cX0_turn 58 = .ok (.lastore, 1) := by decide +kernel
theorem dX0_turn_59 : decode cX0_turn 59 = .ok (.return_, 1) := by decide +kernel
theorem dX0_breaksIn_0 : decode cX0_breaksIn 0 = .ok (.iconst 0, 1) := by decide +kernel
theorem dX0_breaksIn_1 : decode cX0_breaksIn 1 = .ok (.istore_n 3, 1) := by decide +kernel
theorem dX0_breaksIn_2 : decode cX0_breaksIn 2 = .ok (.aload_n 1, 1) := by decide +kernel
theorem dX0_breaksIn_3 : decode cX0_breaksIn 3 = .ok (.iload_n 2, 1) := by decide +kernel
theorem dX0_breaksIn_4 : decode cX0_breaksIn 4 = .ok (.invokevirtual 27, 3) := by decide +kernel
theorem dX0_breaksIn_7 : decode cX0_breaksIn 7 = .ok (.istore 4, 2) := by decide +kernel
theorem dX0_breaksIn_9 : decode cX0_breaksIn 9 = .ok (.iconst 1, 1) := by decide +kernel
theorem dX0_breaksIn_10 : decode cX0_breaksIn 10 = .ok (.istore 5, 2) := by decide +kernel
theorem dX0_breaksIn_12 : decode cX0_breaksIn 12 = .ok (.iload 5, 2) := by decide +kernel
theorem dX0_breaksIn_14 : decode cX0_breaksIn 14 = .ok (.iload 4, 2) := by decide +kernel
theorem dX0_breaksIn_16 : decode cX0_breaksIn 16 = .ok (.if_icmp .ge 42, 3) := by decide +kernel
theorem dX0_breaksIn_19 : decode cX0_breaksIn 19 = .ok (.aload_n 0, 1) := by decide +kernel
theorem dX0_breaksIn_20 : decode cX0_breaksIn 20 = .ok (.getfield 19, 3) := by decide +kernel
theorem dX0_breaksIn_23 : decode cX0_breaksIn 23 = .ok (.ifCond .le 35, 3) := by decide +kernel
theorem dX0_breaksIn_26 : decode cX0_breaksIn 26 = .ok (.aload_n 0, 1) := by decide +kernel
theorem dX0_breaksIn_27 : decode cX0_breaksIn 27 = .ok (.aload_n 1, 1) := by decide +kernel
theorem dX0_breaksIn_28 : decode cX0_breaksIn 28 = .ok (.iload_n 2, 1) := by decide +kernel
theorem dX0_breaksIn_29 : decode cX0_breaksIn 29 = .ok (.iload 5, 2) := by decide +kernel
theorem dX0_breaksIn_31 : decode cX0_breaksIn 31 = .ok (.iconst 1, 1) := by decide +kernel
theorem dX0_breaksIn_32 : decode cX0_breaksIn 32 = .ok (.isub, 1) := by decide +kernel
theorem dX0_breaksIn_33 : decode cX0_breaksIn 33 = .ok (.invokevirtual 33, 3) := by decide +kernel
theorem dX0_breaksIn_36 : decode cX0_breaksIn 36 = .ok (.aload_n 1, 1) := by decide +kernel
theorem dX0_breaksIn_37 : decode cX0_breaksIn 37 = .ok (.iload_n 2, 1) := by decide +kernel
theorem dX0_breaksIn_38 : decode cX0_breaksIn 38 = .ok (.iload 5, 2) := by decide +kernel
theorem dX0_breaksIn_40 : decode cX0_breaksIn 40 = .ok (.invokevirtual 33, 3) := by decide +kernel
theorem dX0_breaksIn_43 : decode cX0_breaksIn 43 = .ok (.invokevirtual 23, 3) := by decide +kernel
theorem dX0_breaksIn_46 : decode cX0_breaksIn 46 = .ok (.ifCond .eq 6, 3) := by decide +kernel
theorem dX0_breaksIn_49 : decode cX0_breaksIn 49 = .ok (.iinc 3 1, 3) := by decide +kernel
theorem dX0_breaksIn_52 : decode cX0_breaksIn 52 = .ok (.iinc 5 1, 3) := by decide +kernel
theorem dX0_breaksIn_55 : decode cX0_breaksIn 55 = .ok (.goto (-43), 3) := by decide +kernel
theorem dX0_breaksIn_58 : decode cX0_breaksIn 58 = .ok (.iload_n 3, 1) := by decide +kernel
theorem dX0_breaksIn_59 : decode cX0_breaksIn 59 = .ok (.ireturn, 1) := by decide +kernel
theorem dX1_init_0 : decode cX1_init 0 = .ok (.aload_n 0, 1) := by decide +kernel
theorem dX1_init_1 : decode cX1_init 1 = .ok (.invokespecial 3, 3) := by decide +kernel
theorem dX1_init_4 : decode cX1_init 4 = .ok (.aload_n 0, 1) := by decide +kernel
theorem dX1_init_5 : decode cX1_init 5 = .ok (.aload_n 1, 1) := by decide +kernel
theorem dX1_init_6 : decode cX1_init 6 = .ok (.putfield 9, 3) := by decide +kernel
theorem dX1_init_9 : decode cX1_init 9 = .ok (.aload_n 0, 1) := by decide +kernel
theorem dX1_init_10 : decode cX1_init 10 = .ok (.aload_n 2, 1) := by decide +kernel
theorem dX1_init_11 : decode cX1_init 11 = .ok (.putfield 15, 3) := by decide +kernel
theorem dX1_init_14 : decode cX1_init 14 = .ok (.aload_n 0, 1) := by decide +kernel
theorem dX1_init_15 : decode cX1_init 15 = .ok (.aload_n 3, 1) := by decide +kernel
theorem dX1_init_16 : decode cX1_init 16 = .ok (.putfield 19, 3) := by decide +kernel
theorem dX1_init_19 : decode cX1_init 19 = .ok (.aload_n 0, 1) := by decide +kernel
theorem dX1_init_20 : decode cX1_init 20 = .ok (.aload 4, 2) := by decide +kernel
theorem dX1_init_22 : decode cX1_init 22 = .ok (.putfield 23, 3) := by decide +kernel
theorem dX1_init_25 : decode cX1_init 25 = .ok (.aload_n 0, 1) := by decide +kernel
theorem dX1_init_26 : decode cX1_init 26 = .ok (.aload 5, 2) := by decide +kernel
theorem dX1_init_28 : decode cX1_init 28 = .ok (.putfield 27, 3) := by decide +kernel
theorem dX1_init_31 : decode cX1_init 31 = .ok (.return_, 1) := by decide +kernel
theorem dX1_hasCopy_0 : decode cX1_hasCopy 0 = .ok (.iload_n 1, 1) := by decide +kernel
theorem dX1_hasCopy_1 : decode cX1_hasCopy 1 = .ok (.ifCond .lt 15, 3) := by decide +kernel
theorem dX1_hasCopy_4 : decode cX1_hasCopy 4 = .ok (.iload_n 1, 1) := by decide +kernel
theorem dX1_hasCopy_5 : decode cX1_hasCopy 5 = .ok (.aload_n 0, 1) := by decide +kernel
theorem dX1_hasCopy_6 : decode cX1_hasCopy 6 = .ok (.getfield 31, 3) := by decide +kernel
theorem dX1_hasCopy_9 : decode cX1_hasCopy 9 = .ok (.if_icmp .ge 7, 3) := by decide +kernel
theorem dX1_hasCopy_12 : decode cX1_hasCopy 12 = .ok (.iconst 1, 1) := by decide +kernel
theorem dX1_hasCopy_13 : decode cX1_hasCopy 13 = .ok (.goto 4, 3) := by decide +kernel
theorem dX1_hasCopy_16 : decode cX1_hasCopy 16 = .ok (.iconst 0, 1) := by decide +kernel
theorem dX1_hasCopy_17 : decode cX1_hasCopy 17 = .ok (.ireturn, 1) := by decide +kernel
theorem dX1_isTime_0 : decode cX1_isTime 0 = .ok (.aload_n 0, 1) := by decide +kernel
theorem dX1_isTime_1 : decode cX1_isTime 1 = .ok (.getfield 19, 3) := by decide +kernel
theorem dX1_isTime_4 : decode cX1_isTime 4 = .ok (.iload_n 1, 1) := by decide +kernel
theorem dX1_isTime_5 : decode cX1_isTime 5 = .ok (.aload_n 0, 1) := by decide +kernel
theorem dX1_isTime_6 : decode cX1_isTime 6 = .ok (.getfield 15, 3) := by decide +kernel
theorem dX1_isTime_9 : decode cX1_isTime 9 = .ok (.iload_n 2, 1) := by decide +kernel
theorem dX1_isTime_10 : decode cX1_isTime 10 = .ok (.invokevirtual 35, 3) := by decide +kernel
theorem dX1_isTime_13 : decode cX1_isTime 13 = .ok (.iload_n 2, 1) := by decide +kernel
theorem dX1_isTime_14 : decode cX1_isTime 14 = .ok (.invokevirtual 41, 3) := by decide +kernel
theorem dX1_isTime_17 : decode cX1_isTime 17 = .ok (.ireturn, 1) := by decide +kernel
theorem dX1_timesOf_0 : decode cX1_timesOf 0 = .ok (.iconst 0, 1) := by decide +kernel
theorem dX1_timesOf_1 : decode cX1_timesOf 1 = .ok (.istore_n 2, 1) := by decide +kernel
theorem dX1_timesOf_2 : decode cX1_timesOf 2 = .ok (.iconst 0, 1) := by decide +kernel
theorem dX1_timesOf_3 : decode cX1_timesOf 3 = .ok (.istore_n 3, 1) := by decide +kernel
theorem dX1_timesOf_4 : decode cX1_timesOf 4 = .ok (.iload_n 3, 1) := by decide +kernel
theorem dX1_timesOf_5 : decode cX1_timesOf 5 = .ok (.aload_n 0, 1) := by decide +kernel
theorem dX1_timesOf_6 : decode cX1_timesOf 6 = .ok (.getfield 9, 3) := by decide +kernel
theorem dX1_timesOf_9 : decode cX1_timesOf 9 = .ok (.invokevirtual 47, 3) := by decide +kernel
theorem dX1_timesOf_12 : decode cX1_timesOf 12 = .ok (.if_icmp .ge 28, 3) := by decide +kernel
theorem dX1_timesOf_15 : decode cX1_timesOf 15 = .ok (.aload_n 0, 1) := by decide +kernel
theorem dX1_timesOf_16 : decode cX1_timesOf 16 = .ok (.iload_n 1, 1) := by decide +kernel
theorem dX1_timesOf_17 : decode cX1_timesOf 17 = .ok (.aload_n 0, 1) := by decide +kernel
theorem dX1_timesOf_18 : decode cX1_timesOf 18 = .ok (.getfield 9, 3) := by decide +kernel
theorem dX1_timesOf_21 : decode cX1_timesOf 21 = .ok (.iload_n 3, 1) := by decide +kernel
theorem dX1_timesOf_22 : decode cX1_timesOf 22 = .ok (.invokevirtual 53, 3) := by decide +kernel
theorem dX1_timesOf_25 : decode cX1_timesOf 25 = .ok (.invokevirtual 57, 3) := by decide +kernel
theorem dX1_timesOf_28 : decode cX1_timesOf 28 = .ok (.ifCond .eq 6, 3) := by decide +kernel
theorem dX1_timesOf_31 : decode cX1_timesOf 31 = .ok (.iinc 2 1, 3) := by decide +kernel
theorem dX1_timesOf_34 : decode cX1_timesOf 34 = .ok (.iinc 3 1, 3) := by decide +kernel
theorem dX1_timesOf_37 : decode cX1_timesOf 37 = .ok (.goto (-33), 3) := by decide +kernel
theorem dX1_timesOf_40 : decode cX1_timesOf 40 = .ok (.iload_n 2, 1) := by decide +kernel
theorem dX1_timesOf_41 : decode cX1_timesOf 41 = .ok (.ireturn, 1) := by decide +kernel
theorem dX1_timeAt_0 : decode cX1_timeAt 0 = .ok (.iload_n 2, 1) := by decide +kernel
theorem dX1_timeAt_1 : decode cX1_timeAt 1 = .ok (.istore_n 3, 1) := by decide +kernel
theorem dX1_timeAt_2 : decode cX1_timeAt 2 = .ok (.iconst 0, 1) := by decide +kernel
theorem dX1_timeAt_3 : decode cX1_timeAt 3 = .ok (.istore 4, 2) := by decide +kernel
theorem dX1_timeAt_5 : decode cX1_timeAt 5 = .ok (.iload 4, 2) := by decide +kernel
theorem dX1_timeAt_7 : decode cX1_timeAt 7 = .ok (.aload_n 0, 1) := by decide +kernel
theorem dX1_timeAt_8 : decode cX1_timeAt 8 = .ok (.getfield 9, 3) := by decide +kernel
theorem dX1_timeAt_11 : decode cX1_timeAt 11 = .ok (.invokevirtual 47, 3) := by decide +kernel
theorem dX1_timeAt_14 : decode cX1_timeAt 14 = .ok (.if_icmp .ge 47, 3) := by decide +kernel
theorem dX1_timeAt_17 : decode cX1_timeAt 17 = .ok (.iload_n 2, 1) := by decide +kernel
theorem dX1_timeAt_18 : decode cX1_timeAt 18 = .ok (.ifCond .lt 43, 3) := by decide +kernel
theorem dX1_timeAt_21 : decode cX1_timeAt 21 = .ok (.aload_n 0, 1) := by decide +kernel
theorem dX1_timeAt_22 : decode cX1_timeAt 22 = .ok (.iload_n 1, 1) := by decide +kernel
theorem dX1_timeAt_23 : decode cX1_timeAt 23 = .ok (.aload_n 0, 1) := by decide +kernel
theorem dX1_timeAt_24 : decode cX1_timeAt 24 = .ok (.getfield 9, 3) := by decide +kernel
theorem dX1_timeAt_27 : decode cX1_timeAt 27 = .ok (.iload 4, 2) := by decide +kernel
theorem dX1_timeAt_29 : decode cX1_timeAt 29 = .ok (.invokevirtual 53, 3) := by decide +kernel
theorem dX1_timeAt_32 : decode cX1_timeAt 32 = .ok (.invokevirtual 57, 3) := by decide +kernel
theorem dX1_timeAt_35 : decode cX1_timeAt 35 = .ok (.ifCond .eq 20, 3) := by decide +kernel
theorem dX1_timeAt_38 : decode cX1_timeAt 38 = .ok (.iload_n 3, 1) := by decide +kernel
theorem dX1_timeAt_39 : decode cX1_timeAt 39 = .ok (.ifCond .ne 13, 3) := by decide +kernel
theorem dX1_timeAt_42 : decode cX1_timeAt 42 = .ok (.aload_n 0, 1) := by decide +kernel
theorem dX1_timeAt_43 : decode cX1_timeAt 43 = .ok (.getfield 9, 3) := by decide +kernel
theorem dX1_timeAt_46 : decode cX1_timeAt 46 = .ok (.iload 4, 2) := by decide +kernel
theorem dX1_timeAt_48 : decode cX1_timeAt 48 = .ok (.invokevirtual 53, 3) := by decide +kernel
theorem dX1_timeAt_51 : decode cX1_timeAt 51 = .ok (.ireturn, 1) := by decide +kernel
theorem dX1_timeAt_52 : decode cX1_timeAt 52 = .ok (.iinc 3 (-1), 3) := by decide +kernel
theorem dX1_timeAt_55 : decode cX1_timeAt 55 = .ok (.iinc 4 1, 3) := by decide +kernel
theorem dX1_timeAt_58 : decode cX1_timeAt 58 = .ok (.goto (-53), 3) := by decide +kernel
theorem dX1_timeAt_61 : decode cX1_timeAt 61 = .ok (.iconst (-1), 1) := by decide +kernel
theorem dX1_timeAt_62 : decode cX1_timeAt 62 = .ok (.ireturn, 1) := by decide +kernel
theorem dX1_rowsOfTimes_0 : decode cX1_rowsOfTimes 0 = .ok (.aload_n 0, 1) := by decide +kernel
theorem dX1_rowsOfTimes_1 : decode cX1_rowsOfTimes 1 = .ok (.getfield 31, 3) := by decide +kernel
theorem dX1_rowsOfTimes_4 : decode cX1_rowsOfTimes 4 = .ok (.ifCond .ne 5, 3) := by decide +kernel
theorem dX1_rowsOfTimes_7 : decode cX1_rowsOfTimes 7 = .ok (.lconst 1, 1) := by decide +kernel
theorem dX1_rowsOfTimes_8 : decode cX1_rowsOfTimes 8 = .ok (.lreturn, 1) := by decide +kernel
theorem dX1_rowsOfTimes_9 : decode cX1_rowsOfTimes 9 = .ok (.aload_n 0, 1) := by decide +kernel
theorem dX1_rowsOfTimes_10 : decode cX1_rowsOfTimes 10 = .ok (.aload_n 0, 1) := by decide +kernel
theorem dX1_rowsOfTimes_11 : decode cX1_rowsOfTimes 11 = .ok (.getfield 31, 3) := by decide +kernel
theorem dX1_rowsOfTimes_14 : decode cX1_rowsOfTimes 14 = .ok (.iconst 1, 1) := by decide +kernel
theorem dX1_rowsOfTimes_15 : decode cX1_rowsOfTimes 15 = .ok (.isub, 1) := by decide +kernel
theorem dX1_rowsOfTimes_16 : decode cX1_rowsOfTimes 16 = .ok (.invokevirtual 61, 3) := by decide +kernel
theorem dX1_rowsOfTimes_19 : decode cX1_rowsOfTimes 19 = .ok (.lconst 0, 1) := by decide +kernel
theorem dX1_rowsOfTimes_20 : decode cX1_rowsOfTimes 20 = .ok (.lstore_n 1, 1) := by decide +kernel
theorem dX1_rowsOfTimes_21 : decode cX1_rowsOfTimes 21 = .ok (.iconst 0, 1) := by decide +kernel
theorem dX1_rowsOfTimes_22 : decode cX1_rowsOfTimes 22 = .ok (.istore_n 3, 1) := by decide +kernel
theorem dX1_rowsOfTimes_23 : decode cX1_rowsOfTimes 23 = .ok (.iload_n 3, 1) := by decide +kernel
theorem dX1_rowsOfTimes_24 : decode cX1_rowsOfTimes 24 = .ok (.aload_n 0, 1) := by decide +kernel
theorem dX1_rowsOfTimes_25 : decode cX1_rowsOfTimes 25 = .ok (.getfield 9, 3) := by decide +kernel
theorem dX1_rowsOfTimes_28 : decode cX1_rowsOfTimes 28 = .ok (.invokevirtual 47, 3) := by decide +kernel
theorem dX1_rowsOfTimes_31 : decode cX1_rowsOfTimes 31 = .ok (.if_icmp .ge 25, 3) := by decide +kernel
theorem dX1_rowsOfTimes_34 : decode cX1_rowsOfTimes 34 = .ok (.lload_n 1, 1) := by decide +kernel
theorem dX1_rowsOfTimes_35 : decode cX1_rowsOfTimes 35 = .ok (.aload_n 0, 1) := by decide +kernel
theorem dX1_rowsOfTimes_36 : decode cX1_rowsOfTimes 36 = .ok (.getfield 27, 3) := by decide +kernel
theorem dX1_rowsOfTimes_39 : decode cX1_rowsOfTimes 39 = .ok (.aload_n 0, 1) := by decide +kernel
theorem dX1_rowsOfTimes_40 : decode cX1_rowsOfTimes 40 = .ok (.getfield 9, 3) := by decide +kernel
theorem dX1_rowsOfTimes_43 : decode cX1_rowsOfTimes 43 = .ok (.iload_n 3, 1) := by decide +kernel
theorem dX1_rowsOfTimes_44 : decode cX1_rowsOfTimes 44 = .ok (.invokevirtual 53, 3) := by decide +kernel
theorem dX1_rowsOfTimes_47 : decode cX1_rowsOfTimes 47 = .ok (.laload, 1) := by decide +kernel
theorem dX1_rowsOfTimes_48 : decode cX1_rowsOfTimes 48 = .ok (.ladd, 1) := by decide +kernel
theorem dX1_rowsOfTimes_49 : decode cX1_rowsOfTimes 49 = .ok (.lstore_n 1, 1) := by decide +kernel
theorem dX1_rowsOfTimes_50 : decode cX1_rowsOfTimes 50 = .ok (.iinc 3 1, 3) := by decide +kernel
theorem dX1_rowsOfTimes_53 : decode cX1_rowsOfTimes 53 = .ok (.goto (-30), 3) := by decide +kernel
theorem dX1_rowsOfTimes_56 : decode cX1_rowsOfTimes 56 = .ok (.lload_n 1, 1) := by decide +kernel
theorem dX1_rowsOfTimes_57 : decode cX1_rowsOfTimes 57 = .ok (.lreturn, 1) := by decide +kernel
theorem dX1_outermost_0 : decode cX1_outermost 0 = .ok (.aload_n 0, 1) := by decide +kernel
theorem dX1_outermost_1 : decode cX1_outermost 1 = .ok (.iload_n 1, 1) := by decide +kernel
theorem dX1_outermost_2 : decode cX1_outermost 2 = .ok (.invokevirtual 61, 3) := by decide +kernel
theorem dX1_outermost_5 : decode cX1_outermost 5 = .ok (.aload_n 0, 1) := by decide +kernel
theorem dX1_outermost_6 : decode cX1_outermost 6 = .ok (.iload_n 1, 1) := by decide +kernel
theorem dX1_outermost_7 : decode cX1_outermost 7 = .ok (.invokevirtual 65, 3) := by decide +kernel
theorem dX1_outermost_10 : decode cX1_outermost 10 = .ok (.iconst (-1), 1) := by decide +kernel
theorem dX1_outermost_11 : decode cX1_outermost 11 = .ok (.istore_n 3, 1) := by decide +kernel
theorem dX1_outermost_12 : decode cX1_outermost 12 = .ok (.iconst 0, 1) := by decide +kernel
theorem dX1_outermost_13 : decode cX1_outermost 13 = .ok (.istore 4, 2) := by decide +kernel
theorem dX1_outermost_15 : decode cX1_outermost 15 = .ok (.iload 4, 2) := by decide +kernel
theorem dX1_outermost_17 : decode cX1_outermost 17 = .ok (.aload_n 0, 1) := by decide +kernel
theorem dX1_outermost_18 : decode cX1_outermost 18 = .ok (.getfield 9, 3) := by decide +kernel
theorem dX1_outermost_21 : decode cX1_outermost 21 = .ok (.invokevirtual 47, 3) := by decide +kernel
theorem dX1_outermost_24 : decode cX1_outermost 24 = .ok (.if_icmp .ge 61, 3) := by decide +kernel
theorem dX1_outermost_27 : decode cX1_outermost 27 = .ok (.aload_n 0, 1) := by decide +kernel
theorem dX1_outermost_28 : decode cX1_outermost 28 = .ok (.getfield 9, 3) := by decide +kernel
theorem dX1_outermost_31 : decode cX1_outermost 31 = .ok (.iload 4, 2) := by decide +kernel
theorem dX1_outermost_33 : decode cX1_outermost 33 = .ok (.invokevirtual 53, 3) := by decide +kernel
theorem dX1_outermost_36 : decode cX1_outermost 36 = .ok (.istore 5, 2) := by decide +kernel
theorem dX1_outermost_38 : decode cX1_outermost 38 = .ok (.aload_n 0, 1) := by decide +kernel
theorem dX1_outermost_39 : decode cX1_outermost 39 = .ok (.getfield 27, 3) := by decide +kernel
theorem dX1_outermost_42 : decode cX1_outermost 42 = .ok (.iload 5, 2) := by decide +kernel
theorem dX1_outermost_44 : decode cX1_outermost 44 = .ok (.laload, 1) := by decide +kernel
theorem dX1_outermost_45 : decode cX1_outermost 45 = .ok (.lconst 0, 1) := by decide +kernel
theorem dX1_outermost_46 : decode cX1_outermost 46 = .ok (.lcmp, 1) := by decide +kernel
theorem dX1_outermost_47 : decode cX1_outermost 47 = .ok (.ifCond .le 32, 3) := by decide +kernel
theorem dX1_outermost_50 : decode cX1_outermost 50 = .ok (.aload_n 0, 1) := by decide +kernel
theorem dX1_outermost_51 : decode cX1_outermost 51 = .ok (.getfield 27, 3) := by decide +kernel
theorem dX1_outermost_54 : decode cX1_outermost 54 = .ok (.sipush 1024, 3) := by decide +kernel
theorem dX1_outermost_57 : decode cX1_outermost 57 = .ok (.iload 5, 2) := by decide +kernel
theorem dX1_outermost_59 : decode cX1_outermost 59 = .ok (.iadd, 1) := by decide +kernel
theorem dX1_outermost_60 : decode cX1_outermost 60 = .ok (.laload, 1) := by decide +kernel
theorem dX1_outermost_61 : decode cX1_outermost 61 = .ok (.lconst 0, 1) := by decide +kernel
theorem dX1_outermost_62 : decode cX1_outermost 62 = .ok (.lcmp, 1) := by decide +kernel
theorem dX1_outermost_63 : decode cX1_outermost 63 = .ok (.ifCond .le 16, 3) := by decide +kernel
theorem dX1_outermost_66 : decode cX1_outermost 66 = .ok (.iload 5, 2) := by decide +kernel
theorem dX1_outermost_68 : decode cX1_outermost 68 = .ok (.iload_n 3, 1) := by decide +kernel
theorem dX1_outermost_69 : decode cX1_outermost 69 = .ok (.iload_n 2, 1) := by decide +kernel
theorem dX1_outermost_70 : decode cX1_outermost 70 = .ok (.invokestatic 68, 3) := by decide +kernel
theorem dX1_outermost_73 : decode cX1_outermost 73 = .ok (.ifCond .eq 6, 3) := by decide +kernel
theorem dX1_outermost_76 : decode cX1_outermost 76 = .ok (.iload 5, 2) := by decide +kernel
theorem dX1_outermost_78 : decode cX1_outermost 78 = .ok (.istore_n 3, 1) := by decide +kernel
theorem dX1_outermost_79 : decode cX1_outermost 79 = .ok (.iinc 4 1, 3) := by decide +kernel
theorem dX1_outermost_82 : decode cX1_outermost 82 = .ok (.goto (-67), 3) := by decide +kernel
theorem dX1_outermost_85 : decode cX1_outermost 85 = .ok (.iload_n 3, 1) := by decide +kernel
theorem dX1_outermost_86 : decode cX1_outermost 86 = .ok (.ireturn, 1) := by decide +kernel
theorem dX1_isFurther_0 : decode cX1_isFurther 0 = .ok (.iload_n 0, 1) := by decide +kernel
theorem dX1_isFurther_1 : decode cX1_isFurther 1 = .ok (.invokestatic 72, 3) := by decide +kernel
theorem dX1_isFurther_4 : decode cX1_isFurther 4 = .ok (.iconst 0, 1) := by decide +kernel
theorem dX1_isFurther_5 : decode cX1_isFurther 5 = .ok (.iload_n 1, 1) := by decide +kernel
theorem dX1_isFurther_6 : decode cX1_isFurther 6 = .ok (.invokestatic 77, 3) := by decide +kernel
theorem dX1_isFurther_9 : decode cX1_isFurther 9 = .ok (.invokestatic 72, 3) := by decide +kernel
theorem dX1_isFurther_12 : decode cX1_isFurther 12 = .ok (.isub, 1) := by decide +kernel
theorem dX1_isFurther_13 : decode cX1_isFurther 13 = .ok (.istore_n 3, 1) := by decide +kernel
theorem dX1_isFurther_14 : decode cX1_isFurther 14 = .ok (.iload_n 1, 1) := by decide +kernel
theorem dX1_isFurther_15 : decode cX1_isFurther 15 = .ok (.iconst (-1), 1) := by decide +kernel
theorem dX1_isFurther_16 : decode cX1_isFurther 16 = .ok (.if_icmp .eq 18, 3) := by decide +kernel
theorem dX1_isFurther_19 : decode cX1_isFurther 19 = .ok (.iload_n 2, 1) := by decide +kernel
theorem dX1_isFurther_20 : decode cX1_isFurther 20 = .ok (.ifCond .eq 10, 3) := by decide +kernel
theorem dX1_isFurther_23 : decode cX1_isFurther 23 = .ok (.iload_n 3, 1) := by decide +kernel
theorem dX1_isFurther_24 : decode cX1_isFurther 24 = .ok (.ifCond .le 14, 3) := by decide +kernel
theorem dX1_isFurther_27 : decode cX1_isFurther 27 = .ok (.goto 7, 3) := by decide +kernel
theorem dX1_isFurther_30 : decode cX1_isFurther 30 = .ok (.iload_n 3, 1) := by decide +kernel
theorem dX1_isFurther_31 : decode cX1_isFurther 31 = .ok (.ifCond .ge 7, 3) := by decide +kernel
theorem dX1_isFurther_34 : decode cX1_isFurther 34 = .ok (.iconst 1, 1) := by decide +kernel
theorem dX1_isFurther_35 : decode cX1_isFurther 35 = .ok (.goto 4, 3) := by decide +kernel
theorem dX1_isFurther_38 : decode cX1_isFurther 38 = .ok (.iconst 0, 1) := by decide +kernel
theorem dX1_isFurther_39 : decode cX1_isFurther 39 = .ok (.ireturn, 1) := by decide +kernel
theorem dX1_countUpTo_0 : decode cX1_countUpTo 0 = .ok (.aload_n 0, 1) := by decide +kernel
theorem dX1_countUpTo_1 : decode cX1_countUpTo 1 = .ok (.iconst 0, 1) := by decide +kernel
theorem dX1_countUpTo_2 : decode cX1_countUpTo 2 = .ok (.invokevirtual 83, 3) := by decide +kernel
theorem dX1_countUpTo_5 : decode cX1_countUpTo 5 = .ok (.aload_n 0, 1) := by decide +kernel
theorem dX1_countUpTo_6 : decode cX1_countUpTo 6 = .ok (.iconst 0, 1) := by decide +kernel
theorem dX1_countUpTo_7 : decode cX1_countUpTo 7 = .ok (.iconst 0, 1) := by decide +kernel
theorem dX1_countUpTo_8 : decode cX1_countUpTo 8 = .ok (.invokevirtual 86, 3) := by decide +kernel
theorem dX1_countUpTo_11 : decode cX1_countUpTo 11 = .ok (.iconst 1, 1) := by decide +kernel
theorem dX1_countUpTo_12 : decode cX1_countUpTo 12 = .ok (.istore_n 2, 1) := by decide +kernel
theorem dX1_countUpTo_13 : decode cX1_countUpTo 13 = .ok (.iload_n 2, 1) := by decide +kernel
theorem dX1_countUpTo_14 : decode cX1_countUpTo 14 = .ok (.iload_n 1, 1) := by decide +kernel
theorem dX1_countUpTo_15 : decode cX1_countUpTo 15 = .ok (.if_icmp .gt 47, 3) := by decide +kernel
theorem dX1_countUpTo_18 : decode cX1_countUpTo 18 = .ok (.iload_n 2, 1) := by decide +kernel
theorem dX1_countUpTo_19 : decode cX1_countUpTo 19 = .ok (.iconst 4, 1) := by decide +kernel
theorem dX1_countUpTo_20 : decode cX1_countUpTo 20 = .ok (.if_icmp .ge 42, 3) := by decide +kernel
theorem dX1_countUpTo_23 : decode cX1_countUpTo 23 = .ok (.iconst 0, 1) := by decide +kernel
theorem dX1_countUpTo_24 : decode cX1_countUpTo 24 = .ok (.istore_n 3, 1) := by decide +kernel
theorem dX1_countUpTo_25 : decode cX1_countUpTo 25 = .ok (.iload_n 3, 1) := by decide +kernel
theorem dX1_countUpTo_26 : decode cX1_countUpTo 26 = .ok (.aload_n 0, 1) := by decide +kernel
theorem dX1_countUpTo_27 : decode cX1_countUpTo 27 = .ok (.getfield 9, 3) := by decide +kernel
theorem dX1_countUpTo_30 : decode cX1_countUpTo 30 = .ok (.getfield 90, 3) := by decide +kernel
theorem dX1_countUpTo_33 : decode cX1_countUpTo 33 = .ok (.getfield 94, 3) := by decide +kernel
theorem dX1_countUpTo_36 : decode cX1_countUpTo 36 = .ok (.if_icmp .ge 14, 3) := by decide +kernel
theorem dX1_countUpTo_39 : decode cX1_countUpTo 39 = .ok (.aload_n 0, 1) := by decide +kernel
theorem dX1_countUpTo_40 : decode cX1_countUpTo 40 = .ok (.iload_n 3, 1) := by decide +kernel
theorem dX1_countUpTo_41 : decode cX1_countUpTo 41 = .ok (.invokevirtual 99, 3) := by decide +kernel
theorem dX1_countUpTo_44 : decode cX1_countUpTo 44 = .ok (.iinc 3 1, 3) := by decide +kernel
theorem dX1_countUpTo_47 : decode cX1_countUpTo 47 = .ok (.goto (-22), 3) := by decide +kernel
theorem dX1_countUpTo_50 : decode cX1_countUpTo 50 = .ok (.aload_n 0, 1) := by decide +kernel
theorem dX1_countUpTo_51 : decode cX1_countUpTo 51 = .ok (.iload_n 2, 1) := by decide +kernel
theorem dX1_countUpTo_52 : decode cX1_countUpTo 52 = .ok (.iconst 0, 1) := by decide +kernel
theorem dX1_countUpTo_53 : decode cX1_countUpTo 53 = .ok (.invokevirtual 86, 3) := by decide +kernel
theorem dX1_countUpTo_56 : decode cX1_countUpTo 56 = .ok (.iinc 2 1, 3) := by decide +kernel
theorem dX1_countUpTo_59 : decode cX1_countUpTo 59 = .ok (.goto (-46), 3) := by decide +kernel
theorem dX1_countUpTo_62 : decode cX1_countUpTo 62 = .ok (.return_, 1) := by decide +kernel
theorem dX1_countFrom_0 : decode cX1_countFrom 0 = .ok (.aload_n 0, 1) := by decide +kernel
theorem dX1_countFrom_1 : decode cX1_countFrom 1 = .ok (.sipush 1024, 3) := by decide +kernel
theorem dX1_countFrom_4 : decode cX1_countFrom 4 = .ok (.invokevirtual 83, 3) := by decide +kernel
theorem dX1_countFrom_7 : decode cX1_countFrom 7 = .ok (.aload_n 0, 1) := by decide +kernel
theorem dX1_countFrom_8 : decode cX1_countFrom 8 = .ok (.aload_n 0, 1) := by decide +kernel
theorem dX1_countFrom_9 : decode cX1_countFrom 9 = .ok (.getfield 31, 3) := by decide +kernel
theorem dX1_countFrom_12 : decode cX1_countFrom 12 = .ok (.iconst 1, 1) := by decide +kernel
theorem dX1_countFrom_13 : decode cX1_countFrom 13 = .ok (.isub, 1) := by decide +kernel
theorem dX1_countFrom_14 : decode cX1_countFrom 14 = .ok (.sipush 1024, 3) := by decide +kernel
theorem dX1_countFrom_17 : decode cX1_countFrom 17 = .ok (.invokevirtual 86, 3) := by decide +kernel
theorem dX1_countFrom_20 : decode cX1_countFrom 20 = .ok (.aload_n 0, 1) := by decide +kernel
theorem dX1_countFrom_21 : decode cX1_countFrom 21 = .ok (.getfield 31, 3) := by decide +kernel
theorem dX1_countFrom_24 : decode cX1_countFrom 24 = .ok (.iconst 2, 1) := by decide +kernel
theorem dX1_countFrom_25 : decode cX1_countFrom 25 = .ok (.isub, 1) := by decide +kernel
theorem dX1_countFrom_26 : decode cX1_countFrom 26 = .ok (.istore_n 2, 1) := by decide +kernel
theorem dX1_countFrom_27 : decode cX1_countFrom 27 = .ok (.iload_n 2, 1) := by decide +kernel
theorem dX1_countFrom_28 : decode cX1_countFrom 28 = .ok (.iload_n 1, 1) := by decide +kernel
theorem dX1_countFrom_29 : decode cX1_countFrom 29 = .ok (.if_icmp .lt 48, 3) := by decide +kernel
theorem dX1_countFrom_32 : decode cX1_countFrom 32 = .ok (.iload_n 2, 1) := by decide +kernel
theorem dX1_countFrom_33 : decode cX1_countFrom 33 = .ok (.ifCond .lt 44, 3) := by decide +kernel
theorem dX1_countFrom_36 : decode cX1_countFrom 36 = .ok (.iconst 0, 1) := by decide +kernel
theorem dX1_countFrom_37 : decode cX1_countFrom 37 = .ok (.istore_n 3, 1) := by decide +kernel
theorem dX1_countFrom_38 : decode cX1_countFrom 38 = .ok (.iload_n 3, 1) := by decide +kernel
theorem dX1_countFrom_39 : decode cX1_countFrom 39 = .ok (.aload_n 0, 1) := by decide +kernel
theorem dX1_countFrom_40 : decode cX1_countFrom 40 = .ok (.getfield 9, 3) := by decide +kernel
theorem dX1_countFrom_43 : decode cX1_countFrom 43 = .ok (.getfield 90, 3) := by decide +kernel
theorem dX1_countFrom_46 : decode cX1_countFrom 46 = .ok (.getfield 94, 3) := by decide +kernel
theorem dX1_countFrom_49 : decode cX1_countFrom 49 = .ok (.if_icmp .ge 14, 3) := by decide +kernel
theorem dX1_countFrom_52 : decode cX1_countFrom 52 = .ok (.aload_n 0, 1) := by decide +kernel
theorem dX1_countFrom_53 : decode cX1_countFrom 53 = .ok (.iload_n 3, 1) := by decide +kernel
theorem dX1_countFrom_54 : decode cX1_countFrom 54 = .ok (.invokevirtual 102, 3) := by decide +kernel
theorem dX1_countFrom_57 : decode cX1_countFrom 57 = .ok (.iinc 3 1, 3) := by decide +kernel
theorem dX1_countFrom_60 : decode cX1_countFrom 60 = .ok (.goto (-22), 3) := by decide +kernel
theorem dX1_countFrom_63 : decode cX1_countFrom 63 = .ok (.aload_n 0, 1) := by decide +kernel
theorem dX1_countFrom_64 : decode cX1_countFrom 64 = .ok (.iload_n 2, 1) := by decide +kernel
theorem dX1_countFrom_65 : decode cX1_countFrom 65 = .ok (.sipush 1024, 3) := by decide +kernel
theorem dX1_countFrom_68 : decode cX1_countFrom 68 = .ok (.invokevirtual 86, 3) := by decide +kernel
theorem dX1_countFrom_71 : decode cX1_countFrom 71 = .ok (.iinc 2 (-1), 3) := by decide +kernel
theorem dX1_countFrom_74 : decode cX1_countFrom 74 = .ok (.goto (-47), 3) := by decide +kernel
theorem dX1_countFrom_77 : decode cX1_countFrom 77 = .ok (.return_, 1) := by decide +kernel
theorem dX1_allowAll_0 : decode cX1_allowAll 0 = .ok (.iconst 0, 1) := by decide +kernel
theorem dX1_allowAll_1 : decode cX1_allowAll 1 = .ok (.istore_n 2, 1) := by decide +kernel
theorem dX1_allowAll_2 : decode cX1_allowAll 2 = .ok (.iload_n 2, 1) := by decide +kernel
theorem dX1_allowAll_3 : decode cX1_allowAll 3 = .ok (.sipush 1024, 3) := by decide +kernel
theorem dX1_allowAll_6 : decode cX1_allowAll 6 = .ok (.if_icmp .ge 18, 3) := by decide +kernel
theorem dX1_allowAll_9 : decode cX1_allowAll 9 = .ok (.aload_n 0, 1) := by decide +kernel
theorem dX1_allowAll_10 : decode cX1_allowAll 10 = .ok (.getfield 27, 3) := by decide +kernel
theorem dX1_allowAll_13 : decode cX1_allowAll 13 = .ok (.iload_n 1, 1) := by decide +kernel
theorem dX1_allowAll_14 : decode cX1_allowAll 14 = .ok (.iload_n 2, 1) := by decide +kernel
theorem dX1_allowAll_15 : decode cX1_allowAll 15 = .ok (.iadd, 1) := by decide +kernel
theorem dX1_allowAll_16 : decode cX1_allowAll 16 = .ok (.lconst 1, 1) := by decide +kernel
theorem dX1_allowAll_17 : decode cX1_allowAll 17 = .ok (.lastore, 1) := by decide +kernel
theorem dX1_allowAll_18 : decode cX1_allowAll 18 = .ok (.iinc 2 1, 3) := by decide +kernel
theorem dX1_allowAll_21 : decode cX1_allowAll 21 = .ok (.goto (-19), 3) := by decide +kernel
theorem dX1_allowAll_24 : decode cX1_allowAll 24 = .ok (.return_, 1) := by decide +kernel
theorem dX1_keepTimes_0 : decode cX1_keepTimes 0 = .ok (.iconst 0, 1) := by decide +kernel
theorem dX1_keepTimes_1 : decode cX1_keepTimes 1 = .ok (.istore_n 3, 1) := by decide +kernel
theorem dX1_keepTimes_2 : decode cX1_keepTimes 2 = .ok (.iload_n 3, 1) := by decide +kernel
theorem dX1_keepTimes_3 : decode cX1_keepTimes 3 = .ok (.aload_n 0, 1) := by decide +kernel
theorem dX1_keepTimes_4 : decode cX1_keepTimes 4 = .ok (.getfield 9, 3) := by decide +kernel
theorem dX1_keepTimes_7 : decode cX1_keepTimes 7 = .ok (.invokevirtual 105, 3) := by decide +kernel
theorem dX1_keepTimes_10 : decode cX1_keepTimes 10 = .ok (.if_icmp .gt 79, 3) := by decide +kernel
theorem dX1_keepTimes_13 : decode cX1_keepTimes 13 = .ok (.iload_n 3, 1) := by decide +kernel
theorem dX1_keepTimes_14 : decode cX1_keepTimes 14 = .ok (.sipush 1024, 3) := by decide +kernel
theorem dX1_keepTimes_17 : decode cX1_keepTimes 17 = .ok (.if_icmp .ge 72, 3) := by decide +kernel
theorem dX1_keepTimes_20 : decode cX1_keepTimes 20 = .ok (.aload_n 0, 1) := by decide +kernel
theorem dX1_keepTimes_21 : decode cX1_keepTimes 21 = .ok (.getfield 9, 3) := by decide +kernel
theorem dX1_keepTimes_24 : decode cX1_keepTimes 24 = .ok (.iload_n 3, 1) := by decide +kernel
theorem dX1_keepTimes_25 : decode cX1_keepTimes 25 = .ok (.invokevirtual 108, 3) := by decide +kernel
theorem dX1_keepTimes_28 : decode cX1_keepTimes 28 = .ok (.ifCond .eq 27, 3) := by decide +kernel
theorem dX1_keepTimes_31 : decode cX1_keepTimes 31 = .ok (.aload_n 0, 1) := by decide +kernel
theorem dX1_keepTimes_32 : decode cX1_keepTimes 32 = .ok (.getfield 19, 3) := by decide +kernel
theorem dX1_keepTimes_35 : decode cX1_keepTimes 35 = .ok (.iload_n 1, 1) := by decide +kernel
theorem dX1_keepTimes_36 : decode cX1_keepTimes 36 = .ok (.aload_n 0, 1) := by decide +kernel
theorem dX1_keepTimes_37 : decode cX1_keepTimes 37 = .ok (.getfield 15, 3) := by decide +kernel
theorem dX1_keepTimes_40 : decode cX1_keepTimes 40 = .ok (.iload_n 3, 1) := by decide +kernel
theorem dX1_keepTimes_41 : decode cX1_keepTimes 41 = .ok (.invokevirtual 35, 3) := by decide +kernel
theorem dX1_keepTimes_44 : decode cX1_keepTimes 44 = .ok (.iload_n 3, 1) := by decide +kernel
theorem dX1_keepTimes_45 : decode cX1_keepTimes 45 = .ok (.invokevirtual 41, 3) := by decide +kernel
theorem dX1_keepTimes_48 : decode cX1_keepTimes 48 = .ok (.ifCond .eq 7, 3) := by decide +kernel
theorem dX1_keepTimes_51 : decode cX1_keepTimes 51 = .ok (.iconst 1, 1) := by decide +kernel
theorem dX1_keepTimes_52 : decode cX1_keepTimes 52 = .ok (.goto 4, 3) := by decide +kernel
theorem dX1_keepTimes_55 : decode cX1_keepTimes 55 = .ok (.iconst 0, 1) := by decide +kernel
theorem dX1_keepTimes_56 : decode cX1_keepTimes 56 = .ok (.istore 4, 2) := by decide +kernel
theorem dX1_keepTimes_58 : decode cX1_keepTimes 58 = .ok (.aload_n 0, 1) := by decide +kernel
theorem dX1_keepTimes_59 : decode cX1_keepTimes 59 = .ok (.getfield 27, 3) := by decide +kernel
theorem dX1_keepTimes_62 : decode cX1_keepTimes 62 = .ok (.iload_n 2, 1) := by decide +kernel
theorem dX1_keepTimes_63 : decode cX1_keepTimes 63 = .ok (.iload_n 3, 1) := by decide +kernel
theorem dX1_keepTimes_64 : decode cX1_keepTimes 64 = .ok (.iadd, 1) := by decide +kernel
theorem dX1_keepTimes_65 : decode cX1_keepTimes 65 = .ok (.iload 4, 2) := by decide +kernel
theorem dX1_keepTimes_67 : decode cX1_keepTimes 67 = .ok (.ifCond .eq 14, 3) := by decide +kernel
theorem dX1_keepTimes_70 : decode cX1_keepTimes 70 = .ok (.aload_n 0, 1) := by decide +kernel
theorem dX1_keepTimes_71 : decode cX1_keepTimes 71 = .ok (.getfield 27, 3) := by decide +kernel
theorem dX1_keepTimes_74 : decode cX1_keepTimes 74 = .ok (.iload_n 2, 1) := by decide +kernel
theorem dX1_keepTimes_75 : decode cX1_keepTimes 75 = .ok (.iload_n 3, 1) := by decide +kernel
theorem dX1_keepTimes_76 : decode cX1_keepTimes 76 = .ok (.iadd, 1) := by decide +kernel
theorem dX1_keepTimes_77 : decode cX1_keepTimes 77 = .ok (.laload, 1) := by decide +kernel
theorem dX1_keepTimes_78 : decode cX1_keepTimes 78 = .ok (.goto 4, 3) := by decide +kernel
theorem dX1_keepTimes_81 : decode cX1_keepTimes 81 = .ok (.lconst 0, 1) := by decide +kernel
theorem dX1_keepTimes_82 : decode cX1_keepTimes 82 = .ok (.lastore, 1) := by decide +kernel
theorem dX1_keepTimes_83 : decode cX1_keepTimes 83 = .ok (.iinc 3 1, 3) := by decide +kernel
theorem dX1_keepTimes_86 : decode cX1_keepTimes 86 = .ok (.goto (-84), 3) := by decide +kernel
theorem dX1_keepTimes_89 : decode cX1_keepTimes 89 = .ok (.return_, 1) := by decide +kernel
theorem dX1_addFromWithout_0 : decode cX1_addFromWithout 0 = .ok (.iconst 0, 1) := by decide +kernel
theorem dX1_addFromWithout_1 : decode cX1_addFromWithout 1 = .ok (.istore_n 2, 1) := by decide +kernel
theorem dX1_addFromWithout_2 : decode cX1_addFromWithout 2 = .ok (.iload_n 2, 1) := by decide +kernel
theorem dX1_addFromWithout_3 : decode cX1_addFromWithout 3 = .ok (.aload_n 0, 1) := by decide +kernel
theorem dX1_addFromWithout_4 : decode cX1_addFromWithout 4 = .ok (.getfield 9, 3) := by decide +kernel
theorem dX1_addFromWithout_7 : decode cX1_addFromWithout 7 = .ok (.invokevirtual 105, 3) := by decide +kernel
theorem dX1_addFromWithout_10 : decode cX1_addFromWithout 10 = .ok (.if_icmp .gt 43, 3) := by decide +kernel
theorem dX1_addFromWithout_13 : decode cX1_addFromWithout 13 = .ok (.iload_n 2, 1) := by decide +kernel
theorem dX1_addFromWithout_14 : decode cX1_addFromWithout 14 = .ok (.sipush 1024, 3) := by decide +kernel
theorem dX1_addFromWithout_17 : decode cX1_addFromWithout 17 = .ok (.if_icmp .ge 36, 3) := by decide +kernel
theorem dX1_addFromWithout_20 : decode cX1_addFromWithout 20 = .ok (.iload_n 2, 1) := by decide +kernel
theorem dX1_addFromWithout_21 : decode cX1_addFromWithout 21 = .ok (.iload_n 1, 1) := by decide +kernel
theorem dX1_addFromWithout_22 : decode cX1_addFromWithout 22 = .ok (.ishr, 1) := by decide +kernel
theorem dX1_addFromWithout_23 : decode cX1_addFromWithout 23 = .ok (.iconst 1, 1) := by decide +kernel
theorem dX1_addFromWithout_24 : decode cX1_addFromWithout 24 = .ok (.iand, 1) := by decide +kernel
theorem dX1_addFromWithout_25 : decode cX1_addFromWithout 25 = .ok (.ifCond .eq 22, 3) := by decide +kernel
theorem dX1_addFromWithout_28 : decode cX1_addFromWithout 28 = .ok (.aload_n 0, 1) := by decide +kernel
theorem dX1_addFromWithout_29 : decode cX1_addFromWithout 29 = .ok (.getfield 27, 3) := by decide +kernel
theorem dX1_addFromWithout_32 : decode cX1_addFromWithout 32 = .ok (.iload_n 2, 1) := by decide +kernel
theorem dX1_addFromWithout_33 : decode cX1_addFromWithout 33 = .ok (.dup2, 1) := by decide +kernel
theorem dX1_addFromWithout_34 : decode cX1_addFromWithout 34 = .ok (.laload, 1) := by decide +kernel
theorem dX1_addFromWithout_35 : decode cX1_addFromWithout 35 = .ok (.aload_n 0, 1) := by decide +kernel
theorem dX1_addFromWithout_36 : decode cX1_addFromWithout 36 = .ok (.getfield 27, 3) := by decide +kernel
theorem dX1_addFromWithout_39 : decode cX1_addFromWithout 39 = .ok (.iload_n 2, 1) := by decide +kernel
theorem dX1_addFromWithout_40 : decode cX1_addFromWithout 40 = .ok (.iconst 1, 1) := by decide +kernel
theorem dX1_addFromWithout_41 : decode cX1_addFromWithout 41 = .ok (.iload_n 1, 1) := by decide +kernel
theorem dX1_addFromWithout_42 : decode cX1_addFromWithout 42 = .ok (.ishl, 1) := by decide +kernel
theorem dX1_addFromWithout_43 : decode cX1_addFromWithout 43 = .ok (.ixor, 1) := by decide +kernel
theorem dX1_addFromWithout_44 : decode cX1_addFromWithout 44 = .ok (.laload, 1) := by decide +kernel
theorem dX1_addFromWithout_45 : decode cX1_addFromWithout 45 = .ok (.ladd, 1) := by decide +kernel
theorem dX1_addFromWithout_46 : decode cX1_addFromWithout 46 = .ok (.lastore, 1) := by decide +kernel
theorem dX1_addFromWithout_47 : decode cX1_addFromWithout 47 = .ok (.iinc 2 1, 3) := by decide +kernel
theorem dX1_addFromWithout_50 : decode cX1_addFromWithout 50 = .ok (.goto (-48), 3) := by decide +kernel
theorem dX1_addFromWithout_53 : decode cX1_addFromWithout 53 = .ok (.return_, 1) := by decide +kernel
theorem dX1_addFromWith_0 : decode cX1_addFromWith 0 = .ok (.iconst 0, 1) := by decide +kernel
theorem dX1_addFromWith_1 : decode cX1_addFromWith 1 = .ok (.istore_n 2, 1) := by decide +kernel
theorem dX1_addFromWith_2 : decode cX1_addFromWith 2 = .ok (.iload_n 2, 1) := by decide +kernel
theorem dX1_addFromWith_3 : decode cX1_addFromWith 3 = .ok (.aload_n 0, 1) := by decide +kernel
theorem dX1_addFromWith_4 : decode cX1_addFromWith 4 = .ok (.getfield 9, 3) := by decide +kernel
theorem dX1_addFromWith_7 : decode cX1_addFromWith 7 = .ok (.invokevirtual 105, 3) := by decide +kernel
theorem dX1_addFromWith_10 : decode cX1_addFromWith 10 = .ok (.if_icmp .gt 51, 3) := by decide +kernel
theorem dX1_addFromWith_13 : decode cX1_addFromWith 13 = .ok (.iload_n 2, 1) := by decide +kernel
theorem dX1_addFromWith_14 : decode cX1_addFromWith 14 = .ok (.sipush 1024, 3) := by decide +kernel
theorem dX1_addFromWith_17 : decode cX1_addFromWith 17 = .ok (.if_icmp .ge 44, 3) := by decide +kernel
theorem dX1_addFromWith_20 : decode cX1_addFromWith 20 = .ok (.iload_n 2, 1) := by decide +kernel
theorem dX1_addFromWith_21 : decode cX1_addFromWith 21 = .ok (.iload_n 1, 1) := by decide +kernel
theorem dX1_addFromWith_22 : decode cX1_addFromWith 22 = .ok (.ishr, 1) := by decide +kernel
theorem dX1_addFromWith_23 : decode cX1_addFromWith 23 = .ok (.iconst 1, 1) := by decide +kernel
theorem dX1_addFromWith_24 : decode cX1_addFromWith 24 = .ok (.iand, 1) := by decide +kernel
theorem dX1_addFromWith_25 : decode cX1_addFromWith 25 = .ok (.ifCond .ne 30, 3) := by decide +kernel
theorem dX1_addFromWith_28 : decode cX1_addFromWith 28 = .ok (.aload_n 0, 1) := by decide +kernel
theorem dX1_addFromWith_29 : decode cX1_addFromWith 29 = .ok (.getfield 27, 3) := by decide +kernel
theorem dX1_addFromWith_32 : decode cX1_addFromWith 32 = .ok (.sipush 1024, 3) := by decide +kernel
theorem dX1_addFromWith_35 : decode cX1_addFromWith 35 = .ok (.iload_n 2, 1) := by decide +kernel
theorem dX1_addFromWith_36 : decode cX1_addFromWith 36 = .ok (.iadd, 1) := by decide +kernel
theorem dX1_addFromWith_37 : decode cX1_addFromWith 37 = .ok (.dup2, 1) := by decide +kernel
theorem dX1_addFromWith_38 : decode cX1_addFromWith 38 = .ok (.laload, 1) := by decide +kernel
theorem dX1_addFromWith_39 : decode cX1_addFromWith 39 = .ok (.aload_n 0, 1) := by decide +kernel
theorem dX1_addFromWith_40 : decode cX1_addFromWith 40 = .ok (.getfield 27, 3) := by decide +kernel
theorem dX1_addFromWith_43 : decode cX1_addFromWith 43 = .ok (.sipush 1024, 3) := by decide +kernel
theorem dX1_addFromWith_46 : decode cX1_addFromWith 46 = .ok (.iload_n 2, 1) := by decide +kernel
theorem dX1_addFromWith_47 : decode cX1_addFromWith 47 = .ok (.iconst 1, 1) := by decide +kernel
theorem dX1_addFromWith_48 : decode cX1_addFromWith 48 = .ok (.iload_n 1, 1) := by decide +kernel
theorem dX1_addFromWith_49 : decode cX1_addFromWith 49 = .ok (.ishl, 1) := by decide +kernel
theorem dX1_addFromWith_50 : decode cX1_addFromWith 50 = .ok (.ior, 1) := by decide +kernel
theorem dX1_addFromWith_51 : decode cX1_addFromWith 51 = .ok (.iadd, 1) := by decide +kernel
theorem dX1_addFromWith_52 : decode cX1_addFromWith 52 = .ok (.laload, 1) := by decide +kernel
theorem dX1_addFromWith_53 : decode cX1_addFromWith 53 = .ok (.ladd, 1) := by decide +kernel
theorem dX1_addFromWith_54 : decode cX1_addFromWith 54 = .ok (.lastore, 1) := by decide +kernel
theorem dX1_addFromWith_55 : decode cX1_addFromWith 55 = .ok (.iinc 2 1, 3) := by decide +kernel
theorem dX1_addFromWith_58 : decode cX1_addFromWith 58 = .ok (.goto (-56), 3) := by decide +kernel
theorem dX1_addFromWith_61 : decode cX1_addFromWith 61 = .ok (.return_, 1) := by decide +kernel
theorem dX1_nearestSet_0 : decode cX1_nearestSet 0 = .ok (.iconst 0, 1) := by decide +kernel
theorem dX1_nearestSet_1 : decode cX1_nearestSet 1 = .ok (.istore_n 2, 1) := by decide +kernel
theorem dX1_nearestSet_2 : decode cX1_nearestSet 2 = .ok (.aload_n 0, 1) := by decide +kernel
theorem dX1_nearestSet_3 : decode cX1_nearestSet 3 = .ok (.getfield 23, 3) := by decide +kernel
theorem dX1_nearestSet_6 : decode cX1_nearestSet 6 = .ok (.aload_n 0, 1) := by decide +kernel
theorem dX1_nearestSet_7 : decode cX1_nearestSet 7 = .ok (.getfield 19, 3) := by decide +kernel
theorem dX1_nearestSet_10 : decode cX1_nearestSet 10 = .ok (.iload_n 1, 1) := by decide +kernel
theorem dX1_nearestSet_11 : decode cX1_nearestSet 11 = .ok (.aload_n 0, 1) := by decide +kernel
theorem dX1_nearestSet_12 : decode cX1_nearestSet 12 = .ok (.getfield 15, 3) := by decide +kernel
theorem dX1_nearestSet_15 : decode cX1_nearestSet 15 = .ok (.iconst 0, 1) := by decide +kernel
theorem dX1_nearestSet_16 : decode cX1_nearestSet 16 = .ok (.invokevirtual 35, 3) := by decide +kernel
theorem dX1_nearestSet_19 : decode cX1_nearestSet 19 = .ok (.iconst 0, 1) := by decide +kernel
theorem dX1_nearestSet_20 : decode cX1_nearestSet 20 = .ok (.invokevirtual 112, 3) := by decide +kernel
theorem dX1_nearestSet_23 : decode cX1_nearestSet 23 = .ok (.istore_n 3, 1) := by decide +kernel
theorem dX1_nearestSet_24 : decode cX1_nearestSet 24 = .ok (.iconst 1, 1) := by decide +kernel
theorem dX1_nearestSet_25 : decode cX1_nearestSet 25 = .ok (.istore 4, 2) := by decide +kernel
theorem dX1_nearestSet_27 : decode cX1_nearestSet 27 = .ok (.iload 4, 2) := by decide +kernel
theorem dX1_nearestSet_29 : decode cX1_nearestSet 29 = .ok (.aload_n 0, 1) := by decide +kernel
theorem dX1_nearestSet_30 : decode cX1_nearestSet 30 = .ok (.getfield 9, 3) := by decide +kernel
theorem dX1_nearestSet_33 : decode cX1_nearestSet 33 = .ok (.invokevirtual 47, 3) := by decide +kernel
theorem dX1_nearestSet_36 : decode cX1_nearestSet 36 = .ok (.if_icmp .ge 61, 3) := by decide +kernel
theorem dX1_nearestSet_39 : decode cX1_nearestSet 39 = .ok (.iload_n 3, 1) := by decide +kernel
theorem dX1_nearestSet_40 : decode cX1_nearestSet 40 = .ok (.ifCond .le 57, 3) := by decide +kernel
theorem dX1_nearestSet_43 : decode cX1_nearestSet 43 = .ok (.aload_n 0, 1) := by decide +kernel
theorem dX1_nearestSet_44 : decode cX1_nearestSet 44 = .ok (.getfield 9, 3) := by decide +kernel
theorem dX1_nearestSet_47 : decode cX1_nearestSet 47 = .ok (.iload 4, 2) := by decide +kernel
theorem dX1_nearestSet_49 : decode cX1_nearestSet 49 = .ok (.invokevirtual 53, 3) := by decide +kernel
theorem dX1_nearestSet_52 : decode cX1_nearestSet 52 = .ok (.istore 5, 2) := by decide +kernel
theorem dX1_nearestSet_54 : decode cX1_nearestSet 54 = .ok (.aload_n 0, 1) := by decide +kernel
theorem dX1_nearestSet_55 : decode cX1_nearestSet 55 = .ok (.getfield 23, 3) := by decide +kernel
theorem dX1_nearestSet_58 : decode cX1_nearestSet 58 = .ok (.aload_n 0, 1) := by decide +kernel
theorem dX1_nearestSet_59 : decode cX1_nearestSet 59 = .ok (.getfield 19, 3) := by decide +kernel
theorem dX1_nearestSet_62 : decode cX1_nearestSet 62 = .ok (.iload_n 1, 1) := by decide +kernel
theorem dX1_nearestSet_63 : decode cX1_nearestSet 63 = .ok (.aload_n 0, 1) := by decide +kernel
theorem dX1_nearestSet_64 : decode cX1_nearestSet 64 = .ok (.getfield 15, 3) := by decide +kernel
theorem dX1_nearestSet_67 : decode cX1_nearestSet 67 = .ok (.iload 5, 2) := by decide +kernel
theorem dX1_nearestSet_69 : decode cX1_nearestSet 69 = .ok (.invokevirtual 35, 3) := by decide +kernel
theorem dX1_nearestSet_72 : decode cX1_nearestSet 72 = .ok (.iload 5, 2) := by decide +kernel
theorem dX1_nearestSet_74 : decode cX1_nearestSet 74 = .ok (.invokevirtual 112, 3) := by decide +kernel
theorem dX1_nearestSet_77 : decode cX1_nearestSet 77 = .ok (.istore 6, 2) := by decide +kernel
theorem dX1_nearestSet_79 : decode cX1_nearestSet 79 = .ok (.iload 6, 2) := by decide +kernel
theorem dX1_nearestSet_81 : decode cX1_nearestSet 81 = .ok (.iload_n 3, 1) := by decide +kernel
theorem dX1_nearestSet_82 : decode cX1_nearestSet 82 = .ok (.if_icmp .ge 9, 3) := by decide +kernel
theorem dX1_nearestSet_85 : decode cX1_nearestSet 85 = .ok (.iload 6, 2) := by decide +kernel
theorem dX1_nearestSet_87 : decode cX1_nearestSet 87 = .ok (.istore_n 3, 1) := by decide +kernel
theorem dX1_nearestSet_88 : decode cX1_nearestSet 88 = .ok (.iload 5, 2) := by decide +kernel
theorem dX1_nearestSet_90 : decode cX1_nearestSet 90 = .ok (.istore_n 2, 1) := by decide +kernel
theorem dX1_nearestSet_91 : decode cX1_nearestSet 91 = .ok (.iinc 4 1, 3) := by decide +kernel
theorem dX1_nearestSet_94 : decode cX1_nearestSet 94 = .ok (.goto (-67), 3) := by decide +kernel
theorem dX1_nearestSet_97 : decode cX1_nearestSet 97 = .ok (.iload_n 2, 1) := by decide +kernel
theorem dX1_nearestSet_98 : decode cX1_nearestSet 98 = .ok (.ireturn, 1) := by decide +kernel
theorem dX2_init_0 : decode cX2_init 0 = .ok (.aload_n 0, 1) := by decide +kernel
theorem dX2_init_1 : decode cX2_init 1 = .ok (.invokespecial 3, 3) := by decide +kernel
theorem dX2_init_4 : decode cX2_init 4 = .ok (.aload_n 0, 1) := by decide +kernel
theorem dX2_init_5 : decode cX2_init 5 = .ok (.bipush 100, 2) := by decide +kernel
theorem dX2_init_7 : decode cX2_init 7 = .ok (.newarray .long, 2) := by decide +kernel
theorem dX2_init_9 : decode cX2_init 9 = .ok (.putfield 9, 3) := by decide +kernel
theorem dX2_init_12 : decode cX2_init 12 = .ok (.return_, 1) := by decide +kernel
theorem dX2_between_0 : decode cX2_between 0 = .ok (.aload_n 1, 1) := by decide +kernel
theorem dX2_between_1 : decode cX2_between 1 = .ok (.iload_n 2, 1) := by decide +kernel
theorem dX2_between_2 : decode cX2_between 2 = .ok (.invokevirtual 15, 3) := by decide +kernel
theorem dX2_between_5 : decode cX2_between 5 = .ok (.istore 5, 2) := by decide +kernel
theorem dX2_between_7 : decode cX2_between 7 = .ok (.aload_n 3, 1) := by decide +kernel
theorem dX2_between_8 : decode cX2_between 8 = .ok (.iload 4, 2) := by decide +kernel
theorem dX2_between_10 : decode cX2_between 10 = .ok (.invokevirtual 15, 3) := by decide +kernel
theorem dX2_between_13 : decode cX2_between 13 = .ok (.istore 6, 2) := by decide +kernel
theorem dX2_between_15 : decode cX2_between 15 = .ok (.iload 5, 2) := by decide +kernel
theorem dX2_between_17 : decode cX2_between 17 = .ok (.ifCond .ne 6, 3) := by decide +kernel
theorem dX2_between_20 : decode cX2_between 20 = .ok (.iload 6, 2) := by decide +kernel
theorem dX2_between_22 : decode cX2_between 22 = .ok (.ireturn, 1) := by decide +kernel
theorem dX2_between_23 : decode cX2_between 23 = .ok (.aload_n 0, 1) := by decide +kernel
theorem dX2_between_24 : decode cX2_between 24 = .ok (.getfield 9, 3) := by decide +kernel
theorem dX2_between_27 : decode cX2_between 27 = .ok (.lconst 0, 1) := by decide +kernel
theorem dX2_between_28 : decode cX2_between 28 = .ok (.invokestatic 21, 3) := by decide +kernel
theorem dX2_between_31 : decode cX2_between 31 = .ok (.iconst 0, 1) := by decide +kernel
theorem dX2_between_32 : decode cX2_between 32 = .ok (.istore 7, 2) := by decide +kernel
theorem dX2_between_34 : decode cX2_between 34 = .ok (.iload 7, 2) := by decide +kernel
theorem dX2_between_36 : decode cX2_between 36 = .ok (.iload 5, 2) := by decide +kernel
theorem dX2_between_38 : decode cX2_between 38 = .ok (.if_icmp .ge 40, 3) := by decide +kernel
theorem dX2_between_41 : decode cX2_between 41 = .ok (.aload_n 1, 1) := by decide +kernel
theorem dX2_between_42 : decode cX2_between 42 = .ok (.iload_n 2, 1) := by decide +kernel
theorem dX2_between_43 : decode cX2_between 43 = .ok (.iload 7, 2) := by decide +kernel
theorem dX2_between_45 : decode cX2_between 45 = .ok (.invokevirtual 27, 3) := by decide +kernel
theorem dX2_between_48 : decode cX2_between 48 = .ok (.istore 8, 2) := by decide +kernel
theorem dX2_between_50 : decode cX2_between 50 = .ok (.iload 8, 2) := by decide +kernel
theorem dX2_between_52 : decode cX2_between 52 = .ok (.invokestatic 31, 3) := by decide +kernel
theorem dX2_between_55 : decode cX2_between 55 = .ok (.ifCond .eq 17, 3) := by decide +kernel
theorem dX2_between_58 : decode cX2_between 58 = .ok (.aload_n 0, 1) := by decide +kernel
theorem dX2_between_59 : decode cX2_between 59 = .ok (.getfield 9, 3) := by decide +kernel
theorem dX2_between_62 : decode cX2_between 62 = .ok (.iload 8, 2) := by decide +kernel
theorem dX2_between_64 : decode cX2_between 64 = .ok (.dup2, 1) := by decide +kernel
theorem dX2_between_65 : decode cX2_between 65 = .ok (.laload, 1) := by decide +kernel
theorem dX2_between_66 : decode cX2_between 66 = .ok (.lconst 1, 1) := by decide +kernel
theorem dX2_between_67 : decode cX2_between 67 = .ok (.iload 7, 2) := by decide +kernel
theorem dX2_between_69 : decode cX2_between 69 = .ok (.lshl, 1) := by decide +kernel
theorem dX2_between_70 : decode cX2_between 70 = .ok (.lor, 1) := by decide +kernel
theorem dX2_between_71 : decode cX2_between 71 = .ok (.lastore, 1) := by decide +kernel
theorem dX2_between_72 : decode cX2_between 72 = .ok (.iinc 7 1, 3) := by decide +kernel
theorem dX2_between_75 : decode cX2_between 75 = .ok (.goto (-41), 3) := by decide +kernel
theorem dX2_between_78 : decode cX2_between 78 = .ok (.aload_n 0, 1) := by decide +kernel
theorem dX2_between_79 : decode cX2_between 79 = .ok (.iload 5, 2) := by decide +kernel
theorem dX2_between_81 : decode cX2_between 81 = .ok (.aload_n 3, 1) := by decide +kernel
theorem dX2_between_82 : decode cX2_between 82 = .ok (.iload 4, 2) := by decide +kernel
theorem dX2_between_84 : decode cX2_between 84 = .ok (.iload 6, 2) := by decide +kernel
theorem dX2_between_86 : decode cX2_between 86 = .ok (.invokevirtual 35, 3) := by decide +kernel
theorem dX2_between_89 : decode cX2_between 89 = .ok (.ireturn, 1) := by decide +kernel
theorem dX2_lastCell_0 : decode cX2_lastCell 0 = .ok (.ldc2_w 39, 3) := by decide +kernel
theorem dX2_lastCell_3 : decode cX2_lastCell 3 = .ok (.lstore 5, 2) := by decide +kernel
theorem dX2_lastCell_5 : decode cX2_lastCell 5 = .ok (.lconst 0, 1) := by decide +kernel
theorem dX2_lastCell_6 : decode cX2_lastCell 6 = .ok (.lstore 7, 2) := by decide +kernel
theorem dX2_lastCell_8 : decode cX2_lastCell 8 = .ok (.iload_n 1, 1) := by decide +kernel
theorem dX2_lastCell_9 : decode cX2_lastCell 9 = .ok (.istore 9, 2) := by decide +kernel
theorem dX2_lastCell_11 : decode cX2_lastCell 11 = .ok (.iconst 0, 1) := by decide +kernel
theorem dX2_lastCell_12 : decode cX2_lastCell 12 = .ok (.istore 10, 2) := by decide +kernel
theorem dX2_lastCell_14 : decode cX2_lastCell 14 = .ok (.iload 10, 2) := by decide +kernel
theorem dX2_lastCell_16 : decode cX2_lastCell 16 = .ok (.iload 4, 2) := by decide +kernel
theorem dX2_lastCell_18 : decode cX2_lastCell 18 = .ok (.if_icmp .ge 138, 3) := by decide +kernel
theorem dX2_lastCell_21 : decode cX2_lastCell 21 = .ok (.aload_n 2, 1) := by decide +kernel
theorem dX2_lastCell_22 : decode cX2_lastCell 22 = .ok (.iload_n 3, 1) := by decide +kernel
theorem dX2_lastCell_23 : decode cX2_lastCell 23 = .ok (.iload 10, 2) := by decide +kernel
theorem dX2_lastCell_25 : decode cX2_lastCell 25 = .ok (.invokevirtual 27, 3) := by decide +kernel
theorem dX2_lastCell_28 : decode cX2_lastCell 28 = .ok (.istore 11, 2) := by decide +kernel
theorem dX2_lastCell_30 : decode cX2_lastCell 30 = .ok (.iload 11, 2) := by decide +kernel
theorem dX2_lastCell_32 : decode cX2_lastCell 32 = .ok (.invokestatic 31, 3) := by decide +kernel
theorem dX2_lastCell_35 : decode cX2_lastCell 35 = .ok (.ifCond .eq 13, 3) := by decide +kernel
theorem dX2_lastCell_38 : decode cX2_lastCell 38 = .ok (.aload_n 0, 1) := by decide +kernel
theorem dX2_lastCell_39 : decode cX2_lastCell 39 = .ok (.getfield 9, 3) := by decide +kernel
theorem dX2_lastCell_42 : decode cX2_lastCell 42 = .ok (.iload 11, 2) := by decide +kernel
theorem dX2_lastCell_44 : decode cX2_lastCell 44 = .ok (.laload, 1) := by decide +kernel
theorem dX2_lastCell_45 : decode cX2_lastCell 45 = .ok (.goto 4, 3) := by decide +kernel
theorem dX2_lastCell_48 : decode cX2_lastCell 48 = .ok (.lconst 0, 1) := by decide +kernel
theorem dX2_lastCell_49 : decode cX2_lastCell 49 = .ok (.lstore 12, 2) := by decide +kernel
theorem dX2_lastCell_51 : decode cX2_lastCell 51 = .ok (.lload 12, 2) := by decide +kernel
theorem dX2_lastCell_53 : decode cX2_lastCell 53 = .ok (.lload 5, 2) := by decide +kernel
theorem dX2_lastCell_55 : decode cX2_lastCell 55 = .ok (.land, 1) := by decide +kernel
theorem dX2_lastCell_56 : decode cX2_lastCell 56 = .ok (.lload 5, 2) := by decide +kernel
theorem dX2_lastCell_58 : decode cX2_lastCell 58 = .ok (.ladd, 1) := by decide +kernel
theorem dX2_lastCell_59 : decode cX2_lastCell 59 = .ok (.lload 5, 2) := by decide +kernel
theorem dX2_lastCell_61 : decode cX2_lastCell 61 = .ok (.lxor, 1) := by decide +kernel
theorem dX2_lastCell_62 : decode cX2_lastCell 62 = .ok (.lload 12, 2) := by decide +kernel
theorem dX2_lastCell_64 : decode cX2_lastCell 64 = .ok (.lor, 1) := by decide +kernel
theorem dX2_lastCell_65 : decode cX2_lastCell 65 = .ok (.lstore 14, 2) := by decide +kernel
theorem dX2_lastCell_67 : decode cX2_lastCell 67 = .ok (.lload 7, 2) := by decide +kernel
theorem dX2_lastCell_69 : decode cX2_lastCell 69 = .ok (.lload 14, 2) := by decide +kernel
theorem dX2_lastCell_71 : decode cX2_lastCell 71 = .ok (.lload 5, 2) := by decide +kernel
theorem dX2_lastCell_73 : decode cX2_lastCell 73 = .ok (.lor, 1) := by decide +kernel
theorem dX2_lastCell_74 : decode cX2_lastCell 74 = .ok (.ldc2_w 39, 3) := by decide +kernel
theorem dX2_lastCell_77 : decode cX2_lastCell 77 = .ok (.lxor, 1) := by decide +kernel
theorem dX2_lastCell_78 : decode cX2_lastCell 78 = .ok (.lor, 1) := by decide +kernel
theorem dX2_lastCell_79 : decode cX2_lastCell 79 = .ok (.lstore 16, 2) := by decide +kernel
theorem dX2_lastCell_81 : decode cX2_lastCell 81 = .ok (.lload 5, 2) := by decide +kernel
theorem dX2_lastCell_83 : decode cX2_lastCell 83 = .ok (.lload 14, 2) := by decide +kernel
theorem dX2_lastCell_85 : decode cX2_lastCell 85 = .ok (.land, 1) := by decide +kernel
theorem dX2_lastCell_86 : decode cX2_lastCell 86 = .ok (.lstore 18, 2) := by decide +kernel
theorem dX2_lastCell_88 : decode cX2_lastCell 88 = .ok (.iload 9, 2) := by decide +kernel
theorem dX2_lastCell_90 : decode cX2_lastCell 90 = .ok (.lload 16, 2) := by decide +kernel
theorem dX2_lastCell_92 : decode cX2_lastCell 92 = .ok (.iload_n 1, 1) := by decide +kernel
theorem dX2_lastCell_93 : decode cX2_lastCell 93 = .ok (.iconst 1, 1) := by decide +kernel
theorem dX2_lastCell_94 : decode cX2_lastCell 94 = .ok (.isub, 1) := by decide +kernel
theorem dX2_lastCell_95 : decode cX2_lastCell 95 = .ok (.lushr, 1) := by decide +kernel
theorem dX2_lastCell_96 : decode cX2_lastCell 96 = .ok (.lconst 1, 1) := by decide +kernel
theorem dX2_lastCell_97 : decode cX2_lastCell 97 = .ok (.land, 1) := by decide +kernel
theorem dX2_lastCell_98 : decode cX2_lastCell 98 = .ok (.l2i, 1) := by decide +kernel
theorem dX2_lastCell_99 : decode cX2_lastCell 99 = .ok (.lload 18, 2) := by decide +kernel
theorem dX2_lastCell_101 : decode cX2_lastCell 101 = .ok (.iload_n 1, 1) := by decide +kernel
theorem dX2_lastCell_102 : decode cX2_lastCell 102 = .ok (.iconst 1, 1) := by decide +kernel
theorem dX2_lastCell_103 : decode cX2_lastCell 103 = .ok (.isub, 1) := by decide +kernel
theorem dX2_lastCell_104 : decode cX2_lastCell 104 = .ok (.lushr, 1) := by decide +kernel
theorem dX2_lastCell_105 : decode cX2_lastCell 105 = .ok (.lconst 1, 1) := by decide +kernel
theorem dX2_lastCell_106 : decode cX2_lastCell 106 = .ok (.land, 1) := by decide +kernel
theorem dX2_lastCell_107 : decode cX2_lastCell 107 = .ok (.l2i, 1) := by decide +kernel
theorem dX2_lastCell_108 : decode cX2_lastCell 108 = .ok (.isub, 1) := by decide +kernel
theorem dX2_lastCell_109 : decode cX2_lastCell 109 = .ok (.iadd, 1) := by decide +kernel
theorem dX2_lastCell_110 : decode cX2_lastCell 110 = .ok (.istore 9, 2) := by decide +kernel
theorem dX2_lastCell_112 : decode cX2_lastCell 112 = .ok (.lload 12, 2) := by decide +kernel
theorem dX2_lastCell_114 : decode cX2_lastCell 114 = .ok (.lload 7, 2) := by decide +kernel
theorem dX2_lastCell_116 : decode cX2_lastCell 116 = .ok (.lor, 1) := by decide +kernel
theorem dX2_lastCell_117 : decode cX2_lastCell 117 = .ok (.lstore 20, 2) := by decide +kernel
theorem dX2_lastCell_119 : decode cX2_lastCell 119 = .ok (.lload 16, 2) := by decide +kernel
theorem dX2_lastCell_121 : decode cX2_lastCell 121 = .ok (.iconst 1, 1) := by decide +kernel
theorem dX2_lastCell_122 : decode cX2_lastCell 122 = .ok (.lshl, 1) := by decide +kernel
theorem dX2_lastCell_123 : decode cX2_lastCell 123 = .ok (.lconst 1, 1) := by decide +kernel
theorem dX2_lastCell_124 : decode cX2_lastCell 124 = .ok (.lor, 1) := by decide +kernel
theorem dX2_lastCell_125 : decode cX2_lastCell 125 = .ok (.lstore 16, 2) := by decide +kernel
theorem dX2_lastCell_127 : decode cX2_lastCell 127 = .ok (.lload 18, 2) := by decide +kernel
theorem dX2_lastCell_129 : decode cX2_lastCell 129 = .ok (.iconst 1, 1) := by decide +kernel
theorem dX2_lastCell_130 : decode cX2_lastCell 130 = .ok (.lshl, 1) := by decide +kernel
theorem dX2_lastCell_131 : decode cX2_lastCell 131 = .ok (.lload 20, 2) := by decide +kernel
theorem dX2_lastCell_133 : decode cX2_lastCell 133 = .ok (.lload 16, 2) := by decide +kernel
theorem dX2_lastCell_135 : decode cX2_lastCell 135 = .ok (.lor, 1) := by decide +kernel
theorem dX2_lastCell_136 : decode cX2_lastCell 136 = .ok (.ldc2_w 39, 3) := by decide +kernel
theorem dX2_lastCell_139 : decode cX2_lastCell 139 = .ok (.lxor, 1) := by decide +kernel
theorem dX2_lastCell_140 : decode cX2_lastCell 140 = .ok (.lor, 1) := by decide +kernel
theorem dX2_lastCell_141 : decode cX2_lastCell 141 = .ok (.lstore 5, 2) := by decide +kernel
theorem dX2_lastCell_143 : decode cX2_lastCell 143 = .ok (.lload 16, 2) := by decide +kernel
theorem dX2_lastCell_145 : decode cX2_lastCell 145 = .ok (.lload 20, 2) := by decide +kernel
theorem dX2_lastCell_147 : decode cX2_lastCell 147 = .ok (.land, 1) := by decide +kernel
theorem dX2_lastCell_148 : decode cX2_lastCell 148 = .ok (.lstore 7, 2) := by decide +kernel
theorem dX2_lastCell_150 : decode cX2_lastCell 150 = .ok (.iinc 10 1, 3) := by decide +kernel
theorem dX2_lastCell_153 : decode cX2_lastCell 153 = .ok (.goto (-139), 3) := by decide +kernel
theorem dX2_lastCell_156 : decode cX2_lastCell 156 = .ok (.iload 9, 2) := by decide +kernel
theorem dX2_lastCell_158 : decode cX2_lastCell 158 = .ok (.ireturn, 1) := by decide +kernel
theorem dX3_init_0 : decode cX3_init 0 = .ok (.aload_n 0, 1) := by decide +kernel
theorem dX3_init_1 : decode cX3_init 1 = .ok (.invokespecial 3, 3) := by decide +kernel
theorem dX3_init_4 : decode cX3_init 4 = .ok (.aload_n 0, 1) := by decide +kernel
theorem dX3_init_5 : decode cX3_init 5 = .ok (.bipush 10, 2) := by decide +kernel
theorem dX3_init_7 : decode cX3_init 7 = .ok (.newarray .int, 2) := by decide +kernel
theorem dX3_init_9 : decode cX3_init 9 = .ok (.putfield 9, 3) := by decide +kernel
theorem dX3_init_12 : decode cX3_init 12 = .ok (.aload_n 0, 1) := by decide +kernel
theorem dX3_init_13 : decode cX3_init 13 = .ok (.iconst 4, 1) := by decide +kernel
theorem dX3_init_14 : decode cX3_init 14 = .ok (.newarray .int, 2) := by decide +kernel
theorem dX3_init_16 : decode cX3_init 16 = .ok (.putfield 15, 3) := by decide +kernel
theorem dX3_init_19 : decode cX3_init 19 = .ok (.aload_n 0, 1) := by decide +kernel
theorem dX3_init_20 : decode cX3_init 20 = .ok (.bipush 10, 2) := by decide +kernel
theorem dX3_init_22 : decode cX3_init 22 = .ok (.newarray .int, 2) := by decide +kernel
theorem dX3_init_24 : decode cX3_init 24 = .ok (.putfield 18, 3) := by decide +kernel
theorem dX3_init_27 : decode cX3_init 27 = .ok (.aload_n 0, 1) := by decide +kernel
theorem dX3_init_28 : decode cX3_init 28 = .ok (.bipush 10, 2) := by decide +kernel
theorem dX3_init_30 : decode cX3_init 30 = .ok (.newarray .int, 2) := by decide +kernel
theorem dX3_init_32 : decode cX3_init 32 = .ok (.putfield 21, 3) := by decide +kernel
theorem dX3_init_35 : decode cX3_init 35 = .ok (.aload_n 0, 1) := by decide +kernel
theorem dX3_init_36 : decode cX3_init 36 = .ok (.bipush 10, 2) := by decide +kernel
theorem dX3_init_38 : decode cX3_init 38 = .ok (.newarray .int, 2) := by decide +kernel
theorem dX3_init_40 : decode cX3_init 40 = .ok (.putfield 24, 3) := by decide +kernel
theorem dX3_init_43 : decode cX3_init 43 = .ok (.aload_n 0, 1) := by decide +kernel
theorem dX3_init_44 : decode cX3_init 44 = .ok (.sipush 1024, 3) := by decide +kernel
theorem dX3_init_47 : decode cX3_init 47 = .ok (.newarray .int, 2) := by decide +kernel
theorem dX3_init_49 : decode cX3_init 49 = .ok (.putfield 27, 3) := by decide +kernel
theorem dX3_init_52 : decode cX3_init 52 = .ok (.aload_n 0, 1) := by decide +kernel
theorem dX3_init_53 : decode cX3_init 53 = .ok (.iconst (-1), 1) := by decide +kernel
theorem dX3_init_54 : decode cX3_init 54 = .ok (.putfield 30, 3) := by decide +kernel
theorem dX3_init_57 : decode cX3_init 57 = .ok (.aload_n 0, 1) := by decide +kernel
theorem dX3_init_58 : decode cX3_init 58 = .ok (.aload_n 1, 1) := by decide +kernel
theorem dX3_init_59 : decode cX3_init 59 = .ok (.putfield 34, 3) := by decide +kernel
theorem dX3_init_62 : decode cX3_init 62 = .ok (.return_, 1) := by decide +kernel
theorem dX3_startOn_0 : decode cX3_startOn 0 = .ok (.aload_n 0, 1) := by decide +kernel
theorem dX3_startOn_1 : decode cX3_startOn 1 = .ok (.aload_n 1, 1) := by decide +kernel
theorem dX3_startOn_2 : decode cX3_startOn 2 = .ok (.putfield 34, 3) := by decide +kernel
theorem dX3_startOn_5 : decode cX3_startOn 5 = .ok (.aload_n 0, 1) := by decide +kernel
theorem dX3_startOn_6 : decode cX3_startOn 6 = .ok (.getfield 9, 3) := by decide +kernel
theorem dX3_startOn_9 : decode cX3_startOn 9 = .ok (.iconst 0, 1) := by decide +kernel
theorem dX3_startOn_10 : decode cX3_startOn 10 = .ok (.invokestatic 38, 3) := by decide +kernel
theorem dX3_startOn_13 : decode cX3_startOn 13 = .ok (.aload_n 0, 1) := by decide +kernel
theorem dX3_startOn_14 : decode cX3_startOn 14 = .ok (.getfield 15, 3) := by decide +kernel
theorem dX3_startOn_17 : decode cX3_startOn 17 = .ok (.iconst 0, 1) := by decide +kernel
theorem dX3_startOn_18 : decode cX3_startOn 18 = .ok (.invokestatic 38, 3) := by decide +kernel
theorem dX3_startOn_21 : decode cX3_startOn 21 = .ok (.aload_n 0, 1) := by decide +kernel
theorem dX3_startOn_22 : decode cX3_startOn 22 = .ok (.invokevirtual 44, 3) := by decide +kernel
theorem dX3_startOn_25 : decode cX3_startOn 25 = .ok (.pop, 1) := by decide +kernel
theorem dX3_startOn_26 : decode cX3_startOn 26 = .ok (.return_, 1) := by decide +kernel
theorem dX3_hasMark_0 : decode cX3_hasMark 0 = .ok (.iload_n 1, 1) := by decide +kernel
theorem dX3_hasMark_1 : decode cX3_hasMark 1 = .ok (.ifCond .lt 24, 3) := by decide +kernel
theorem dX3_hasMark_4 : decode cX3_hasMark 4 = .ok (.iload_n 1, 1) := by decide +kernel
theorem dX3_hasMark_5 : decode cX3_hasMark 5 = .ok (.aload_n 0, 1) := by decide +kernel
theorem dX3_hasMark_6 : decode cX3_hasMark 6 = .ok (.getfield 34, 3) := by decide +kernel
theorem dX3_hasMark_9 : decode cX3_hasMark 9 = .ok (.getfield 48, 3) := by decide +kernel
theorem dX3_hasMark_12 : decode cX3_hasMark 12 = .ok (.if_icmp .ge 13, 3) := by decide +kernel
theorem dX3_hasMark_15 : decode cX3_hasMark 15 = .ok (.iload_n 1, 1) := by decide +kernel
theorem dX3_hasMark_16 : decode cX3_hasMark 16 = .ok (.bipush 10, 2) := by decide +kernel
theorem dX3_hasMark_18 : decode cX3_hasMark 18 = .ok (.if_icmp .ge 7, 3) := by decide +kernel
theorem dX3_hasMark_21 : decode cX3_hasMark 21 = .ok (.iconst 1, 1) := by decide +kernel
theorem dX3_hasMark_22 : decode cX3_hasMark 22 = .ok (.goto 4, 3) := by decide +kernel
theorem dX3_hasMark_25 : decode cX3_hasMark 25 = .ok (.iconst 0, 1) := by decide +kernel
theorem dX3_hasMark_26 : decode cX3_hasMark 26 = .ok (.ireturn, 1) := by decide +kernel
theorem dX3_hasBits_0 : decode cX3_hasBits 0 = .ok (.iload_n 1, 1) := by decide +kernel
theorem dX3_hasBits_1 : decode cX3_hasBits 1 = .ok (.ifCond .lt 15, 3) := by decide +kernel
theorem dX3_hasBits_4 : decode cX3_hasBits 4 = .ok (.iload_n 1, 1) := by decide +kernel
theorem dX3_hasBits_5 : decode cX3_hasBits 5 = .ok (.aload_n 0, 1) := by decide +kernel
theorem dX3_hasBits_6 : decode cX3_hasBits 6 = .ok (.invokevirtual 53, 3) := by decide +kernel
theorem dX3_hasBits_9 : decode cX3_hasBits 9 = .ok (.if_icmp .gt 7, 3) := by decide +kernel
theorem dX3_hasBits_12 : decode cX3_hasBits 12 = .ok (.iconst 1, 1) := by decide +kernel
theorem dX3_hasBits_13 : decode cX3_hasBits 13 = .ok (.goto 4, 3) := by decide +kernel
theorem dX3_hasBits_16 : decode cX3_hasBits 16 = .ok (.iconst 0, 1) := by decide +kernel
theorem dX3_hasBits_17 : decode cX3_hasBits 17 = .ok (.ireturn, 1) := by decide +kernel
theorem dX3_full_0 : decode cX3_full 0 = .ok (.iconst 1, 1) := by decide +kernel
theorem dX3_full_1 : decode cX3_full 1 = .ok (.aload_n 0, 1) := by decide +kernel
theorem dX3_full_2 : decode cX3_full 2 = .ok (.getfield 34, 3) := by decide +kernel
theorem dX3_full_5 : decode cX3_full 5 = .ok (.getfield 48, 3) := by decide +kernel
theorem dX3_full_8 : decode cX3_full 8 = .ok (.ishl, 1) := by decide +kernel
theorem dX3_full_9 : decode cX3_full 9 = .ok (.iconst 1, 1) := by decide +kernel
theorem dX3_full_10 : decode cX3_full 10 = .ok (.isub, 1) := by decide +kernel
theorem dX3_full_11 : decode cX3_full 11 = .ok (.ireturn, 1) := by decide +kernel
theorem dX3_settle_0 : decode cX3_settle 0 = .ok (.iconst 0, 1) := by decide +kernel
theorem dX3_settle_1 : decode cX3_settle 1 = .ok (.istore_n 1, 1) := by decide +kernel
theorem dX3_settle_2 : decode cX3_settle 2 = .ok (.iload_n 1, 1) := by decide +kernel
theorem dX3_settle_3 : decode cX3_settle 3 = .ok (.aload_n 0, 1) := by decide +kernel
theorem dX3_settle_4 : decode cX3_settle 4 = .ok (.getfield 34, 3) := by decide +kernel
theorem dX3_settle_7 : decode cX3_settle 7 = .ok (.getfield 48, 3) := by decide +kernel
theorem dX3_settle_10 : decode cX3_settle 10 = .ok (.if_icmp .ge 30, 3) := by decide +kernel
theorem dX3_settle_13 : decode cX3_settle 13 = .ok (.aload_n 0, 1) := by decide +kernel
theorem dX3_settle_14 : decode cX3_settle 14 = .ok (.getfield 24, 3) := by decide +kernel
theorem dX3_settle_17 : decode cX3_settle 17 = .ok (.iload_n 1, 1) := by decide +kernel
theorem dX3_settle_18 : decode cX3_settle 18 = .ok (.aload_n 0, 1) := by decide +kernel
theorem dX3_settle_19 : decode cX3_settle 19 = .ok (.getfield 34, 3) := by decide +kernel
theorem dX3_settle_22 : decode cX3_settle 22 = .ok (.getfield 57, 3) := by decide +kernel
theorem dX3_settle_25 : decode cX3_settle 25 = .ok (.iload_n 1, 1) := by decide +kernel
theorem dX3_settle_26 : decode cX3_settle 26 = .ok (.iaload, 1) := by decide +kernel
theorem dX3_settle_27 : decode cX3_settle 27 = .ok (.aload_n 0, 1) := by decide +kernel
theorem dX3_settle_28 : decode cX3_settle 28 = .ok (.iload_n 1, 1) := by decide +kernel
theorem dX3_settle_29 : decode cX3_settle 29 = .ok (.invokevirtual 59, 3) := by decide +kernel
theorem dX3_settle_32 : decode cX3_settle 32 = .ok (.ior, 1) := by decide +kernel
theorem dX3_settle_33 : decode cX3_settle 33 = .ok (.iastore, 1) := by decide +kernel
theorem dX3_settle_34 : decode cX3_settle 34 = .ok (.iinc 1 1, 3) := by decide +kernel
theorem dX3_settle_37 : decode cX3_settle 37 = .ok (.goto (-35), 3) := by decide +kernel
theorem dX3_settle_40 : decode cX3_settle 40 = .ok (.iconst 0, 1) := by decide +kernel
theorem dX3_settle_41 : decode cX3_settle 41 = .ok (.istore_n 1, 1) := by decide +kernel
theorem dX3_settle_42 : decode cX3_settle 42 = .ok (.iload_n 1, 1) := by decide +kernel
theorem dX3_settle_43 : decode cX3_settle 43 = .ok (.aload_n 0, 1) := by decide +kernel
theorem dX3_settle_44 : decode cX3_settle 44 = .ok (.getfield 34, 3) := by decide +kernel
theorem dX3_settle_47 : decode cX3_settle 47 = .ok (.getfield 48, 3) := by decide +kernel
theorem dX3_settle_50 : decode cX3_settle 50 = .ok (.if_icmp .ge 56, 3) := by decide +kernel
theorem dX3_settle_53 : decode cX3_settle 53 = .ok (.iconst 0, 1) := by decide +kernel
theorem dX3_settle_54 : decode cX3_settle 54 = .ok (.istore_n 2, 1) := by decide +kernel
theorem dX3_settle_55 : decode cX3_settle 55 = .ok (.iload_n 2, 1) := by decide +kernel
theorem dX3_settle_56 : decode cX3_settle 56 = .ok (.aload_n 0, 1) := by decide +kernel
theorem dX3_settle_57 : decode cX3_settle 57 = .ok (.getfield 34, 3) := by decide +kernel
theorem dX3_settle_60 : decode cX3_settle 60 = .ok (.getfield 48, 3) := by decide +kernel
theorem dX3_settle_63 : decode cX3_settle 63 = .ok (.if_icmp .ge 37, 3) := by decide +kernel
theorem dX3_settle_66 : decode cX3_settle 66 = .ok (.aload_n 0, 1) := by decide +kernel
theorem dX3_settle_67 : decode cX3_settle 67 = .ok (.getfield 24, 3) := by decide +kernel
theorem dX3_settle_70 : decode cX3_settle 70 = .ok (.iload_n 2, 1) := by decide +kernel
theorem dX3_settle_71 : decode cX3_settle 71 = .ok (.iaload, 1) := by decide +kernel
theorem dX3_settle_72 : decode cX3_settle 72 = .ok (.iload_n 1, 1) := by decide +kernel
theorem dX3_settle_73 : decode cX3_settle 73 = .ok (.ishr, 1) := by decide +kernel
theorem dX3_settle_74 : decode cX3_settle 74 = .ok (.iconst 1, 1) := by decide +kernel
theorem dX3_settle_75 : decode cX3_settle 75 = .ok (.iand, 1) := by decide +kernel
theorem dX3_settle_76 : decode cX3_settle 76 = .ok (.ifCond .eq 18, 3) := by decide +kernel
theorem dX3_settle_79 : decode cX3_settle 79 = .ok (.aload_n 0, 1) := by decide +kernel
theorem dX3_settle_80 : decode cX3_settle 80 = .ok (.getfield 24, 3) := by decide +kernel
theorem dX3_settle_83 : decode cX3_settle 83 = .ok (.iload_n 2, 1) := by decide +kernel
theorem dX3_settle_84 : decode cX3_settle 84 = .ok (.dup2, 1) := by decide +kernel
theorem dX3_settle_85 : decode cX3_settle 85 = .ok (.iaload, 1) := by decide +kernel
theorem dX3_settle_86 : decode cX3_settle 86 = .ok (.aload_n 0, 1) := by decide +kernel
theorem dX3_settle_87 : decode cX3_settle 87 = .ok (.getfield 24, 3) := by decide +kernel
theorem dX3_settle_90 : decode cX3_settle 90 = .ok (.iload_n 1, 1) := by decide +kernel
theorem dX3_settle_91 : decode cX3_settle 91 = .ok (.iaload, 1) := by decide +kernel
theorem dX3_settle_92 : decode cX3_settle 92 = .ok (.ior, 1) := by decide +kernel
theorem dX3_settle_93 : decode cX3_settle 93 = .ok (.iastore, 1) := by decide +kernel
theorem dX3_settle_94 : decode cX3_settle 94 = .ok (.iinc 2 1, 3) := by decide +kernel
theorem dX3_settle_97 : decode cX3_settle 97 = .ok (.goto (-42), 3) := by decide +kernel
theorem dX3_settle_100 : decode cX3_settle 100 = .ok (.iinc 1 1, 3) := by decide +kernel
theorem dX3_settle_103 : decode cX3_settle 103 = .ok (.goto (-61), 3) := by decide +kernel
theorem dX3_settle_106 : decode cX3_settle 106 = .ok (.iconst 0, 1) := by decide +kernel
theorem dX3_settle_107 : decode cX3_settle 107 = .ok (.istore_n 1, 1) := by decide +kernel
theorem dX3_settle_108 : decode cX3_settle 108 = .ok (.iload_n 1, 1) := by decide +kernel
theorem dX3_settle_109 : decode cX3_settle 109 = .ok (.aload_n 0, 1) := by decide +kernel
theorem dX3_settle_110 : decode cX3_settle 110 = .ok (.getfield 34, 3) := by decide +kernel
theorem dX3_settle_113 : decode cX3_settle 113 = .ok (.getfield 48, 3) := by decide +kernel
theorem dX3_settle_116 : decode cX3_settle 116 = .ok (.if_icmp .ge 24, 3) := by decide +kernel
theorem dX3_settle_119 : decode cX3_settle 119 = .ok (.aload_n 0, 1) := by decide +kernel
theorem dX3_settle_120 : decode cX3_settle 120 = .ok (.getfield 24, 3) := by decide +kernel
theorem dX3_settle_123 : decode cX3_settle 123 = .ok (.iload_n 1, 1) := by decide +kernel
theorem dX3_settle_124 : decode cX3_settle 124 = .ok (.iaload, 1) := by decide +kernel
theorem dX3_settle_125 : decode cX3_settle 125 = .ok (.iload_n 1, 1) := by decide +kernel
theorem dX3_settle_126 : decode cX3_settle 126 = .ok (.ishr, 1) := by decide +kernel
theorem dX3_settle_127 : decode cX3_settle 127 = .ok (.iconst 1, 1) := by decide +kernel
theorem dX3_settle_128 : decode cX3_settle 128 = .ok (.iand, 1) := by decide +kernel
theorem dX3_settle_129 : decode cX3_settle 129 = .ok (.ifCond .eq 5, 3) := by decide +kernel
theorem dX3_settle_132 : decode cX3_settle 132 = .ok (.iconst 0, 1) := by decide +kernel
theorem dX3_settle_133 : decode cX3_settle 133 = .ok (.ireturn, 1) := by decide +kernel
theorem dX3_settle_134 : decode cX3_settle 134 = .ok (.iinc 1 1, 3) := by decide +kernel
theorem dX3_settle_137 : decode cX3_settle 137 = .ok (.goto (-29), 3) := by decide +kernel
theorem dX3_settle_140 : decode cX3_settle 140 = .ok (.aload_n 0, 1) := by decide +kernel
theorem dX3_settle_141 : decode cX3_settle 141 = .ok (.invokevirtual 63, 3) := by decide +kernel
theorem dX3_settle_144 : decode cX3_settle 144 = .ok (.iconst 1, 1) := by decide +kernel
theorem dX3_settle_145 : decode cX3_settle 145 = .ok (.ireturn, 1) := by decide +kernel
theorem dX3_inEarlierInks_0 : decode cX3_inEarlierInks 0 = .ok (.iconst 0, 1) := by decide +kernel
theorem dX3_inEarlierInks_1 : decode cX3_inEarlierInks 1 = .ok (.istore_n 2, 1) := by decide +kernel
theorem dX3_inEarlierInks_2 : decode cX3_inEarlierInks 2 = .ok (.iconst 0, 1) := by decide +kernel
theorem dX3_inEarlierInks_3 : decode cX3_inEarlierInks 3 = .ok (.istore_n 3, 1) := by decide +kernel
theorem dX3_inEarlierInks_4 : decode cX3_inEarlierInks 4 = .ok (.iload_n 3, 1) := by decide +kernel
theorem dX3_inEarlierInks_5 : decode cX3_inEarlierInks 5 = .ok (.aload_n 0, 1) := by decide +kernel
theorem dX3_inEarlierInks_6 : decode cX3_inEarlierInks 6 = .ok (.getfield 34, 3) := by decide +kernel
theorem dX3_inEarlierInks_9 : decode cX3_inEarlierInks 9 = .ok (.getfield 48, 3) := by decide +kernel
theorem dX3_inEarlierInks_12 : decode cX3_inEarlierInks 12 = .ok (.if_icmp .ge 38, 3) := by decide +kernel
theorem dX3_inEarlierInks_15 : decode cX3_inEarlierInks 15 = .ok (.aload_n 0, 1) := by decide +kernel
theorem dX3_inEarlierInks_16 : decode cX3_inEarlierInks 16 = .ok (.getfield 15, 3) := by decide +kernel
theorem dX3_inEarlierInks_19 : decode cX3_inEarlierInks 19 = .ok (.aload_n 0, 1) := by decide +kernel
theorem dX3_inEarlierInks_20 : decode cX3_inEarlierInks 20 = .ok (.getfield 9, 3) := by decide +kernel
theorem dX3_inEarlierInks_23 : decode cX3_inEarlierInks 23 = .ok (.iload_n 3, 1) := by decide +kernel
theorem dX3_inEarlierInks_24 : decode cX3_inEarlierInks 24 = .ok (.iaload, 1) := by decide +kernel
theorem dX3_inEarlierInks_25 : decode cX3_inEarlierInks 25 = .ok (.iaload, 1) := by decide +kernel
theorem dX3_inEarlierInks_26 : decode cX3_inEarlierInks 26 = .ok (.aload_n 0, 1) := by decide +kernel
theorem dX3_inEarlierInks_27 : decode cX3_inEarlierInks 27 = .ok (.getfield 9, 3) := by decide +kernel
theorem dX3_inEarlierInks_30 : decode cX3_inEarlierInks 30 = .ok (.iload_n 1, 1) := by decide +kernel
theorem dX3_inEarlierInks_31 : decode cX3_inEarlierInks 31 = .ok (.iaload, 1) := by decide +kernel
theorem dX3_inEarlierInks_32 : decode cX3_inEarlierInks 32 = .ok (.ishr, 1) := by decide +kernel
theorem dX3_inEarlierInks_33 : decode cX3_inEarlierInks 33 = .ok (.iconst 1, 1) := by decide +kernel
theorem dX3_inEarlierInks_34 : decode cX3_inEarlierInks 34 = .ok (.iand, 1) := by decide +kernel
theorem dX3_inEarlierInks_35 : decode cX3_inEarlierInks 35 = .ok (.ifCond .eq 9, 3) := by decide +kernel
theorem dX3_inEarlierInks_38 : decode cX3_inEarlierInks 38 = .ok (.iload_n 2, 1) := by decide +kernel
theorem dX3_inEarlierInks_39 : decode cX3_inEarlierInks 39 = .ok (.iconst 1, 1) := by decide +kernel
theorem dX3_inEarlierInks_40 : decode cX3_inEarlierInks 40 = .ok (.iload_n 3, 1) := by decide +kernel
theorem dX3_inEarlierInks_41 : decode cX3_inEarlierInks 41 = .ok (.ishl, 1) := by decide +kernel
theorem dX3_inEarlierInks_42 : decode cX3_inEarlierInks 42 = .ok (.ior, 1) := by decide +kernel
theorem dX3_inEarlierInks_43 : decode cX3_inEarlierInks 43 = .ok (.istore_n 2, 1) := by decide +kernel
theorem dX3_inEarlierInks_44 : decode cX3_inEarlierInks 44 = .ok (.iinc 3 1, 3) := by decide +kernel
theorem dX3_inEarlierInks_47 : decode cX3_inEarlierInks 47 = .ok (.goto (-43), 3) := by decide +kernel
theorem dX3_inEarlierInks_50 : decode cX3_inEarlierInks 50 = .ok (.iload_n 2, 1) := by decide +kernel
theorem dX3_inEarlierInks_51 : decode cX3_inEarlierInks 51 = .ok (.ireturn, 1) := by decide +kernel
theorem dX3_keepTrial_0 : decode cX3_keepTrial 0 = .ok (.aload_n 0, 1) := by decide +kernel
theorem dX3_keepTrial_1 : decode cX3_keepTrial 1 = .ok (.getfield 21, 3) := by decide +kernel
theorem dX3_keepTrial_4 : decode cX3_keepTrial 4 = .ok (.iconst 0, 1) := by decide +kernel
theorem dX3_keepTrial_5 : decode cX3_keepTrial 5 = .ok (.invokestatic 38, 3) := by decide +kernel
theorem dX3_keepTrial_8 : decode cX3_keepTrial 8 = .ok (.iconst 0, 1) := by decide +kernel
theorem dX3_keepTrial_9 : decode cX3_keepTrial 9 = .ok (.istore_n 1, 1) := by decide +kernel
theorem dX3_keepTrial_10 : decode cX3_keepTrial 10 = .ok (.iload_n 1, 1) := by decide +kernel
theorem dX3_keepTrial_11 : decode cX3_keepTrial 11 = .ok (.aload_n 0, 1) := by decide +kernel
theorem dX3_keepTrial_12 : decode cX3_keepTrial 12 = .ok (.getfield 34, 3) := by decide +kernel
theorem dX3_keepTrial_15 : decode cX3_keepTrial 15 = .ok (.getfield 48, 3) := by decide +kernel
theorem dX3_keepTrial_18 : decode cX3_keepTrial 18 = .ok (.if_icmp .ge 65, 3) := by decide +kernel
theorem dX3_keepTrial_21 : decode cX3_keepTrial 21 = .ok (.aload_n 0, 1) := by decide +kernel
theorem dX3_keepTrial_22 : decode cX3_keepTrial 22 = .ok (.getfield 18, 3) := by decide +kernel
theorem dX3_keepTrial_25 : decode cX3_keepTrial 25 = .ok (.iload_n 1, 1) := by decide +kernel
theorem dX3_keepTrial_26 : decode cX3_keepTrial 26 = .ok (.aload_n 0, 1) := by decide +kernel
theorem dX3_keepTrial_27 : decode cX3_keepTrial 27 = .ok (.getfield 24, 3) := by decide +kernel
theorem dX3_keepTrial_30 : decode cX3_keepTrial 30 = .ok (.iload_n 1, 1) := by decide +kernel
theorem dX3_keepTrial_31 : decode cX3_keepTrial 31 = .ok (.iaload, 1) := by decide +kernel
theorem dX3_keepTrial_32 : decode cX3_keepTrial 32 = .ok (.iastore, 1) := by decide +kernel
theorem dX3_keepTrial_33 : decode cX3_keepTrial 33 = .ok (.iconst 0, 1) := by decide +kernel
theorem dX3_keepTrial_34 : decode cX3_keepTrial 34 = .ok (.istore_n 2, 1) := by decide +kernel
theorem dX3_keepTrial_35 : decode cX3_keepTrial 35 = .ok (.iload_n 2, 1) := by decide +kernel
theorem dX3_keepTrial_36 : decode cX3_keepTrial 36 = .ok (.aload_n 0, 1) := by decide +kernel
theorem dX3_keepTrial_37 : decode cX3_keepTrial 37 = .ok (.getfield 34, 3) := by decide +kernel
theorem dX3_keepTrial_40 : decode cX3_keepTrial 40 = .ok (.getfield 48, 3) := by decide +kernel
theorem dX3_keepTrial_43 : decode cX3_keepTrial 43 = .ok (.if_icmp .ge 34, 3) := by decide +kernel
theorem dX3_keepTrial_46 : decode cX3_keepTrial 46 = .ok (.aload_n 0, 1) := by decide +kernel
theorem dX3_keepTrial_47 : decode cX3_keepTrial 47 = .ok (.getfield 24, 3) := by decide +kernel
theorem dX3_keepTrial_50 : decode cX3_keepTrial 50 = .ok (.iload_n 1, 1) := by decide +kernel
theorem dX3_keepTrial_51 : decode cX3_keepTrial 51 = .ok (.iaload, 1) := by decide +kernel
theorem dX3_keepTrial_52 : decode cX3_keepTrial 52 = .ok (.iload_n 2, 1) := by decide +kernel
theorem dX3_keepTrial_53 : decode cX3_keepTrial 53 = .ok (.ishr, 1) := by decide +kernel
theorem dX3_keepTrial_54 : decode cX3_keepTrial 54 = .ok (.iconst 1, 1) := by decide +kernel
theorem dX3_keepTrial_55 : decode cX3_keepTrial 55 = .ok (.iand, 1) := by decide +kernel
theorem dX3_keepTrial_56 : decode cX3_keepTrial 56 = .ok (.ifCond .eq 15, 3) := by decide +kernel
theorem dX3_keepTrial_59 : decode cX3_keepTrial 59 = .ok (.aload_n 0, 1) := by decide +kernel
theorem dX3_keepTrial_60 : decode cX3_keepTrial 60 = .ok (.getfield 21, 3) := by decide +kernel
theorem dX3_keepTrial_63 : decode cX3_keepTrial 63 = .ok (.iload_n 2, 1) := by decide +kernel
theorem dX3_keepTrial_64 : decode cX3_keepTrial 64 = .ok (.dup2, 1) := by decide +kernel
theorem dX3_keepTrial_65 : decode cX3_keepTrial 65 = .ok (.iaload, 1) := by decide +kernel
theorem dX3_keepTrial_66 : decode cX3_keepTrial 66 = .ok (.iconst 1, 1) := by decide +kernel
theorem dX3_keepTrial_67 : decode cX3_keepTrial 67 = .ok (.iload_n 1, 1) := by decide +kernel
theorem dX3_keepTrial_68 : decode cX3_keepTrial 68 = .ok (.ishl, 1) := by decide +kernel
theorem dX3_keepTrial_69 : decode cX3_keepTrial 69 = .ok (.ior, 1) := by decide +kernel
theorem dX3_keepTrial_70 : decode cX3_keepTrial 70 = .ok (.iastore, 1) := by decide +kernel
theorem dX3_keepTrial_71 : decode cX3_keepTrial 71 = .ok (.iinc 2 1, 3) := by decide +kernel
theorem dX3_keepTrial_74 : decode cX3_keepTrial 74 = .ok (.goto (-39), 3) := by decide +kernel
theorem dX3_keepTrial_77 : decode cX3_keepTrial 77 = .ok (.iinc 1 1, 3) := by decide +kernel
theorem dX3_keepTrial_80 : decode cX3_keepTrial 80 = .ok (.goto (-70), 3) := by decide +kernel
theorem dX3_keepTrial_83 : decode cX3_keepTrial 83 = .ok (.aload_n 0, 1) := by decide +kernel
theorem dX3_keepTrial_84 : decode cX3_keepTrial 84 = .ok (.dup, 1) := by decide +kernel
theorem dX3_keepTrial_85 : decode cX3_keepTrial 85 = .ok (.getfield 66, 3) := by decide +kernel
theorem dX3_keepTrial_88 : decode cX3_keepTrial 88 = .ok (.iconst 1, 1) := by decide +kernel
theorem dX3_keepTrial_89 : decode cX3_keepTrial 89 = .ok (.iadd, 1) := by decide +kernel
theorem dX3_keepTrial_90 : decode cX3_keepTrial 90 = .ok (.putfield 66, 3) := by decide +kernel
theorem dX3_keepTrial_93 : decode cX3_keepTrial 93 = .ok (.return_, 1) := by decide +kernel
theorem dX3_inksInUse_0 : decode cX3_inksInUse 0 = .ok (.iconst 0, 1) := by decide +kernel
theorem dX3_inksInUse_1 : decode cX3_inksInUse 1 = .ok (.istore_n 1, 1) := by decide +kernel
theorem dX3_inksInUse_2 : decode cX3_inksInUse 2 = .ok (.iconst 0, 1) := by decide +kernel
theorem dX3_inksInUse_3 : decode cX3_inksInUse 3 = .ok (.istore_n 2, 1) := by decide +kernel
theorem dX3_inksInUse_4 : decode cX3_inksInUse 4 = .ok (.iload_n 2, 1) := by decide +kernel
theorem dX3_inksInUse_5 : decode cX3_inksInUse 5 = .ok (.aload_n 0, 1) := by decide +kernel
theorem dX3_inksInUse_6 : decode cX3_inksInUse 6 = .ok (.getfield 34, 3) := by decide +kernel
theorem dX3_inksInUse_9 : decode cX3_inksInUse 9 = .ok (.getfield 48, 3) := by decide +kernel
theorem dX3_inksInUse_12 : decode cX3_inksInUse 12 = .ok (.if_icmp .ge 20, 3) := by decide +kernel
theorem dX3_inksInUse_15 : decode cX3_inksInUse 15 = .ok (.iload_n 1, 1) := by decide +kernel
theorem dX3_inksInUse_16 : decode cX3_inksInUse 16 = .ok (.iconst 1, 1) := by decide +kernel
theorem dX3_inksInUse_17 : decode cX3_inksInUse 17 = .ok (.aload_n 0, 1) := by decide +kernel
theorem dX3_inksInUse_18 : decode cX3_inksInUse 18 = .ok (.getfield 9, 3) := by decide +kernel
theorem dX3_inksInUse_21 : decode cX3_inksInUse 21 = .ok (.iload_n 2, 1) := by decide +kernel
theorem dX3_inksInUse_22 : decode cX3_inksInUse 22 = .ok (.iaload, 1) := by decide +kernel
theorem dX3_inksInUse_23 : decode cX3_inksInUse 23 = .ok (.ishl, 1) := by decide +kernel
theorem dX3_inksInUse_24 : decode cX3_inksInUse 24 = .ok (.ior, 1) := by decide +kernel
theorem dX3_inksInUse_25 : decode cX3_inksInUse 25 = .ok (.istore_n 1, 1) := by decide +kernel
theorem dX3_inksInUse_26 : decode cX3_inksInUse 26 = .ok (.iinc 2 1, 3) := by decide +kernel
theorem dX3_inksInUse_29 : decode cX3_inksInUse 29 = .ok (.goto (-25), 3) := by decide +kernel
theorem dX3_inksInUse_32 : decode cX3_inksInUse 32 = .ok (.iload_n 1, 1) := by decide +kernel
theorem dX3_inksInUse_33 : decode cX3_inksInUse 33 = .ok (.invokestatic 69, 3) := by decide +kernel
theorem dX3_inksInUse_36 : decode cX3_inksInUse 36 = .ok (.ireturn, 1) := by decide +kernel
theorem dX3_isGood_0 : decode cX3_isGood 0 = .ok (.iconst 0, 1) := by decide +kernel
theorem dX3_isGood_1 : decode cX3_isGood 1 = .ok (.istore_n 2, 1) := by decide +kernel
theorem dX3_isGood_2 : decode cX3_isGood 2 = .ok (.iload_n 2, 1) := by decide +kernel
theorem dX3_isGood_3 : decode cX3_isGood 3 = .ok (.aload_n 0, 1) := by decide +kernel
theorem dX3_isGood_4 : decode cX3_isGood 4 = .ok (.getfield 34, 3) := by decide +kernel
theorem dX3_isGood_7 : decode cX3_isGood 7 = .ok (.getfield 48, 3) := by decide +kernel
theorem dX3_isGood_10 : decode cX3_isGood 10 = .ok (.if_icmp .ge 32, 3) := by decide +kernel
theorem dX3_isGood_13 : decode cX3_isGood 13 = .ok (.iload_n 1, 1) := by decide +kernel
theorem dX3_isGood_14 : decode cX3_isGood 14 = .ok (.iload_n 2, 1) := by decide +kernel
theorem dX3_isGood_15 : decode cX3_isGood 15 = .ok (.ishr, 1) := by decide +kernel
theorem dX3_isGood_16 : decode cX3_isGood 16 = .ok (.iconst 1, 1) := by decide +kernel
theorem dX3_isGood_17 : decode cX3_isGood 17 = .ok (.iand, 1) := by decide +kernel
theorem dX3_isGood_18 : decode cX3_isGood 18 = .ok (.ifCond .eq 18, 3) := by decide +kernel
theorem dX3_isGood_21 : decode cX3_isGood 21 = .ok (.aload_n 0, 1) := by decide +kernel
theorem dX3_isGood_22 : decode cX3_isGood 22 = .ok (.getfield 18, 3) := by decide +kernel
theorem dX3_isGood_25 : decode cX3_isGood 25 = .ok (.iload_n 2, 1) := by decide +kernel
theorem dX3_isGood_26 : decode cX3_isGood 26 = .ok (.iaload, 1) := by decide +kernel
theorem dX3_isGood_27 : decode cX3_isGood 27 = .ok (.iload_n 1, 1) := by decide +kernel
theorem dX3_isGood_28 : decode cX3_isGood 28 = .ok (.iconst (-1), 1) := by decide +kernel
theorem dX3_isGood_29 : decode cX3_isGood 29 = .ok (.ixor, 1) := by decide +kernel
theorem dX3_isGood_30 : decode cX3_isGood 30 = .ok (.iand, 1) := by decide +kernel
theorem dX3_isGood_31 : decode cX3_isGood 31 = .ok (.ifCond .eq 5, 3) := by decide +kernel
theorem dX3_isGood_34 : decode cX3_isGood 34 = .ok (.iconst 0, 1) := by decide +kernel
theorem dX3_isGood_35 : decode cX3_isGood 35 = .ok (.ireturn, 1) := by decide +kernel
theorem dX3_isGood_36 : decode cX3_isGood 36 = .ok (.iinc 2 1, 3) := by decide +kernel
theorem dX3_isGood_39 : decode cX3_isGood 39 = .ok (.goto (-37), 3) := by decide +kernel
theorem dX3_isGood_42 : decode cX3_isGood 42 = .ok (.iconst 1, 1) := by decide +kernel
theorem dX3_isGood_43 : decode cX3_isGood 43 = .ok (.ireturn, 1) := by decide +kernel
theorem dX3_refuse_0 : decode cX3_refuse 0 = .ok (.aload_n 0, 1) := by decide +kernel
theorem dX3_refuse_1 : decode cX3_refuse 1 = .ok (.iload_n 1, 1) := by decide +kernel
theorem dX3_refuse_2 : decode cX3_refuse 2 = .ok (.invokevirtual 74, 3) := by decide +kernel
theorem dX3_refuse_5 : decode cX3_refuse 5 = .ok (.ifCond .ne 7, 3) := by decide +kernel
theorem dX3_refuse_8 : decode cX3_refuse 8 = .ok (.sipush (-1001), 3) := by decide +kernel
theorem dX3_refuse_11 : decode cX3_refuse 11 = .ok (.ireturn, 1) := by decide +kernel
theorem dX3_refuse_12 : decode cX3_refuse 12 = .ok (.aload_n 0, 1) := by decide +kernel
theorem dX3_refuse_13 : decode cX3_refuse 13 = .ok (.iload_n 1, 1) := by decide +kernel
theorem dX3_refuse_14 : decode cX3_refuse 14 = .ok (.invokevirtual 78, 3) := by decide +kernel
theorem dX3_refuse_17 : decode cX3_refuse 17 = .ok (.ifCond .eq 7, 3) := by decide +kernel
theorem dX3_refuse_20 : decode cX3_refuse 20 = .ok (.iconst 0, 1) := by decide +kernel
theorem dX3_refuse_21 : decode cX3_refuse 21 = .ok (.goto 6, 3) := by decide +kernel
theorem dX3_refuse_24 : decode cX3_refuse 24 = .ok (.sipush (-1003), 3) := by decide +kernel
theorem dX3_refuse_27 : decode cX3_refuse 27 = .ok (.ireturn, 1) := by decide +kernel
theorem dX3_following_0 : decode cX3_following 0 = .ok (.iconst 0, 1) := by decide +kernel
theorem dX3_following_1 : decode cX3_following 1 = .ok (.istore_n 2, 1) := by decide +kernel
theorem dX3_following_2 : decode cX3_following 2 = .ok (.iconst 0, 1) := by decide +kernel
theorem dX3_following_3 : decode cX3_following 3 = .ok (.istore_n 3, 1) := by decide +kernel
theorem dX3_following_4 : decode cX3_following 4 = .ok (.iload_n 3, 1) := by decide +kernel
theorem dX3_following_5 : decode cX3_following 5 = .ok (.aload_n 0, 1) := by decide +kernel
theorem dX3_following_6 : decode cX3_following 6 = .ok (.getfield 34, 3) := by decide +kernel
theorem dX3_following_9 : decode cX3_following 9 = .ok (.getfield 48, 3) := by decide +kernel
theorem dX3_following_12 : decode cX3_following 12 = .ok (.if_icmp .ge 36, 3) := by decide +kernel
theorem dX3_following_15 : decode cX3_following 15 = .ok (.iload_n 1, 1) := by decide +kernel
theorem dX3_following_16 : decode cX3_following 16 = .ok (.iload_n 3, 1) := by decide +kernel
theorem dX3_following_17 : decode cX3_following 17 = .ok (.ishr, 1) := by decide +kernel
theorem dX3_following_18 : decode cX3_following 18 = .ok (.iconst 1, 1) := by decide +kernel
theorem dX3_following_19 : decode cX3_following 19 = .ok (.iand, 1) := by decide +kernel
theorem dX3_following_20 : decode cX3_following 20 = .ok (.ifCond .ne 22, 3) := by decide +kernel
theorem dX3_following_23 : decode cX3_following 23 = .ok (.aload_n 0, 1) := by decide +kernel
theorem dX3_following_24 : decode cX3_following 24 = .ok (.getfield 18, 3) := by decide +kernel
theorem dX3_following_27 : decode cX3_following 27 = .ok (.iload_n 3, 1) := by decide +kernel
theorem dX3_following_28 : decode cX3_following 28 = .ok (.iaload, 1) := by decide +kernel
theorem dX3_following_29 : decode cX3_following 29 = .ok (.iload_n 1, 1) := by decide +kernel
theorem dX3_following_30 : decode cX3_following 30 = .ok (.iconst (-1), 1) := by decide +kernel
theorem dX3_following_31 : decode cX3_following 31 = .ok (.ixor, 1) := by decide +kernel
theorem dX3_following_32 : decode cX3_following 32 = .ok (.iand, 1) := by decide +kernel
theorem dX3_following_33 : decode cX3_following 33 = .ok (.ifCond .ne 9, 3) := by decide +kernel
theorem dX3_following_36 : decode cX3_following 36 = .ok (.iload_n 2, 1) := by decide +kernel
theorem dX3_following_37 : decode cX3_following 37 = .ok (.iconst 1, 1) := by decide +kernel
theorem dX3_following_38 : decode cX3_following 38 = .ok (.iload_n 3, 1) := by decide +kernel
theorem dX3_following_39 : decode cX3_following 39 = .ok (.ishl, 1) := by decide +kernel
theorem dX3_following_40 : decode cX3_following 40 = .ok (.ior, 1) := by decide +kernel
theorem dX3_following_41 : decode cX3_following 41 = .ok (.istore_n 2, 1) := by decide +kernel
theorem dX3_following_42 : decode cX3_following 42 = .ok (.iinc 3 1, 3) := by decide +kernel
theorem dX3_following_45 : decode cX3_following 45 = .ok (.goto (-41), 3) := by decide +kernel
theorem dX3_following_48 : decode cX3_following 48 = .ok (.iload_n 2, 1) := by decide +kernel
theorem dX3_following_49 : decode cX3_following 49 = .ok (.ireturn, 1) := by decide +kernel
theorem dX3_goodCount_0 : decode cX3_goodCount 0 = .ok (.aload_n 0, 1) := by decide +kernel
theorem dX3_goodCount_1 : decode cX3_goodCount 1 = .ok (.getfield 30, 3) := by decide +kernel
theorem dX3_goodCount_4 : decode cX3_goodCount 4 = .ok (.aload_n 0, 1) := by decide +kernel
theorem dX3_goodCount_5 : decode cX3_goodCount 5 = .ok (.getfield 66, 3) := by decide +kernel
theorem dX3_goodCount_8 : decode cX3_goodCount 8 = .ok (.if_icmp .eq 67, 3) := by decide +kernel
theorem dX3_goodCount_11 : decode cX3_goodCount 11 = .ok (.aload_n 0, 1) := by decide +kernel
theorem dX3_goodCount_12 : decode cX3_goodCount 12 = .ok (.aload_n 0, 1) := by decide +kernel
theorem dX3_goodCount_13 : decode cX3_goodCount 13 = .ok (.getfield 66, 3) := by decide +kernel
theorem dX3_goodCount_16 : decode cX3_goodCount 16 = .ok (.putfield 30, 3) := by decide +kernel
theorem dX3_goodCount_19 : decode cX3_goodCount 19 = .ok (.aload_n 0, 1) := by decide +kernel
theorem dX3_goodCount_20 : decode cX3_goodCount 20 = .ok (.iconst 0, 1) := by decide +kernel
theorem dX3_goodCount_21 : decode cX3_goodCount 21 = .ok (.putfield 81, 3) := by decide +kernel
theorem dX3_goodCount_24 : decode cX3_goodCount 24 = .ok (.iconst 0, 1) := by decide +kernel
theorem dX3_goodCount_25 : decode cX3_goodCount 25 = .ok (.istore_n 1, 1) := by decide +kernel
theorem dX3_goodCount_26 : decode cX3_goodCount 26 = .ok (.iload_n 1, 1) := by decide +kernel
theorem dX3_goodCount_27 : decode cX3_goodCount 27 = .ok (.aload_n 0, 1) := by decide +kernel
theorem dX3_goodCount_28 : decode cX3_goodCount 28 = .ok (.invokevirtual 53, 3) := by decide +kernel
theorem dX3_goodCount_31 : decode cX3_goodCount 31 = .ok (.if_icmp .gt 44, 3) := by decide +kernel
theorem dX3_goodCount_34 : decode cX3_goodCount 34 = .ok (.iload_n 1, 1) := by decide +kernel
theorem dX3_goodCount_35 : decode cX3_goodCount 35 = .ok (.sipush 1024, 3) := by decide +kernel
theorem dX3_goodCount_38 : decode cX3_goodCount 38 = .ok (.if_icmp .ge 37, 3) := by decide +kernel
theorem dX3_goodCount_41 : decode cX3_goodCount 41 = .ok (.aload_n 0, 1) := by decide +kernel
theorem dX3_goodCount_42 : decode cX3_goodCount 42 = .ok (.iload_n 1, 1) := by decide +kernel
theorem dX3_goodCount_43 : decode cX3_goodCount 43 = .ok (.invokevirtual 78, 3) := by decide +kernel
theorem dX3_goodCount_46 : decode cX3_goodCount 46 = .ok (.ifCond .eq 23, 3) := by decide +kernel
theorem dX3_goodCount_49 : decode cX3_goodCount 49 = .ok (.aload_n 0, 1) := by decide +kernel
theorem dX3_goodCount_50 : decode cX3_goodCount 50 = .ok (.getfield 27, 3) := by decide +kernel
theorem dX3_goodCount_53 : decode cX3_goodCount 53 = .ok (.aload_n 0, 1) := by decide +kernel
theorem dX3_goodCount_54 : decode cX3_goodCount 54 = .ok (.getfield 81, 3) := by decide +kernel
theorem dX3_goodCount_57 : decode cX3_goodCount 57 = .ok (.iload_n 1, 1) := by decide +kernel
theorem dX3_goodCount_58 : decode cX3_goodCount 58 = .ok (.iastore, 1) := by decide +kernel
theorem dX3_goodCount_59 : decode cX3_goodCount 59 = .ok (.aload_n 0, 1) := by decide +kernel
theorem dX3_goodCount_60 : decode cX3_goodCount 60 = .ok (.dup, 1) := by decide +kernel
theorem dX3_goodCount_61 : decode cX3_goodCount 61 = .ok (.getfield 81, 3) := by decide +kernel
theorem dX3_goodCount_64 : decode cX3_goodCount 64 = .ok (.iconst 1, 1) := by decide +kernel
theorem dX3_goodCount_65 : decode cX3_goodCount 65 = .ok (.iadd, 1) := by decide +kernel
theorem dX3_goodCount_66 : decode cX3_goodCount 66 = .ok (.putfield 81, 3) := by decide +kernel
theorem dX3_goodCount_69 : decode cX3_goodCount 69 = .ok (.iinc 1 1, 3) := by decide +kernel
theorem dX3_goodCount_72 : decode cX3_goodCount 72 = .ok (.goto (-46), 3) := by decide +kernel
theorem dX3_goodCount_75 : decode cX3_goodCount 75 = .ok (.aload_n 0, 1) := by decide +kernel
theorem dX3_goodCount_76 : decode cX3_goodCount 76 = .ok (.getfield 81, 3) := by decide +kernel
theorem dX3_goodCount_79 : decode cX3_goodCount 79 = .ok (.ireturn, 1) := by decide +kernel
theorem dX3_goodAt_0 : decode cX3_goodAt 0 = .ok (.iload_n 1, 1) := by decide +kernel
theorem dX3_goodAt_1 : decode cX3_goodAt 1 = .ok (.ifCond .lt 11, 3) := by decide +kernel
theorem dX3_goodAt_4 : decode cX3_goodAt 4 = .ok (.iload_n 1, 1) := by decide +kernel
theorem dX3_goodAt_5 : decode cX3_goodAt 5 = .ok (.aload_n 0, 1) := by decide +kernel
theorem dX3_goodAt_6 : decode cX3_goodAt 6 = .ok (.invokevirtual 84, 3) := by decide +kernel
theorem dX3_goodAt_9 : decode cX3_goodAt 9 = .ok (.if_icmp .lt 7, 3) := by decide +kernel
theorem dX3_goodAt_12 : decode cX3_goodAt 12 = .ok (.iconst (-1), 1) := by decide +kernel
theorem dX3_goodAt_13 : decode cX3_goodAt 13 = .ok (.goto 9, 3) := by decide +kernel
theorem dX3_goodAt_16 : decode cX3_goodAt 16 = .ok (.aload_n 0, 1) := by decide +kernel
theorem dX3_goodAt_17 : decode cX3_goodAt 17 = .ok (.getfield 27, 3) := by decide +kernel
theorem dX3_goodAt_20 : decode cX3_goodAt 20 = .ok (.iload_n 1, 1) := by decide +kernel
theorem dX3_goodAt_21 : decode cX3_goodAt 21 = .ok (.iaload, 1) := by decide +kernel
theorem dX3_goodAt_22 : decode cX3_goodAt 22 = .ok (.ireturn, 1) := by decide +kernel
