theorem dX12_session_4 : decode cX12_session 4 = .ok (.getfield 141, 3) := by decide +kernel
theorem dX12_session_7 : decode cX12_session 7 = .ok (.iconst 1, 1) := by decide +kernel
theorem dX12_session_8 : decode cX12_session 8 = .ok (.isub, 1) := by decide +kernel
theorem dX12_session_9 : decode cX12_session 9 = .ok (.i2l, 1) := by decide +kernel
theorem dX12_session_10 : decode cX12_session 10 = .ok (.invokestatic 144, 3) := by decide +kernel
theorem dX12_session_13 : decode cX12_session 13 = .ok (.ifCond .ne 5, 3) := by decide +kernel
theorem dX12_session_16 : decode cX12_session 16 = .ok (.iconst (-1), 1) := by decide +kernel
theorem dX12_session_17 : decode cX12_session 17 = .ok (.ireturn, 1) := by decide +kernel
theorem dX12_session_18 : decode cX12_session 18 = .ok (.aload_n 0, 1) := by decide +kernel
theorem dX12_session_19 : decode cX12_session 19 = .ok (.invokevirtual 322, 3) := by decide +kernel
theorem dX12_session_22 : decode cX12_session 22 = .ok (.iconst 0, 1) := by decide +kernel
theorem dX12_session_23 : decode cX12_session 23 = .ok (.istore_n 2, 1) := by decide +kernel
theorem dX12_session_24 : decode cX12_session 24 = .ok (.iconst 0, 1) := by decide +kernel
theorem dX12_session_25 : decode cX12_session 25 = .ok (.istore_n 3, 1) := by decide +kernel
theorem dX12_session_26 : decode cX12_session 26 = .ok (.iconst (-1), 1) := by decide +kernel
theorem dX12_session_27 : decode cX12_session 27 = .ok (.istore 4, 2) := by decide +kernel
theorem dX12_session_29 : decode cX12_session 29 = .ok (.iconst 0, 1) := by decide +kernel
theorem dX12_session_30 : decode cX12_session 30 = .ok (.istore 5, 2) := by decide +kernel
theorem dX12_session_32 : decode cX12_session 32 = .ok (.iload 5, 2) := by decide +kernel
theorem dX12_session_34 : decode cX12_session 34 = .ok (.iload_n 1, 1) := by decide +kernel
theorem dX12_session_35 : decode cX12_session 35 = .ok (.if_icmp .gt 148, 3) := by decide +kernel
theorem dX12_session_38 : decode cX12_session 38 = .ok (.iconst (-1), 1) := by decide +kernel
theorem dX12_session_39 : decode cX12_session 39 = .ok (.istore 4, 2) := by decide +kernel
theorem dX12_session_41 : decode cX12_session 41 = .ok (.aload_n 0, 1) := by decide +kernel
theorem dX12_session_42 : decode cX12_session 42 = .ok (.getfield 141, 3) := by decide +kernel
theorem dX12_session_45 : decode cX12_session 45 = .ok (.iconst 1, 1) := by decide +kernel
theorem dX12_session_46 : decode cX12_session 46 = .ok (.isub, 1) := by decide +kernel
theorem dX12_session_47 : decode cX12_session 47 = .ok (.istore 6, 2) := by decide +kernel
theorem dX12_session_49 : decode cX12_session 49 = .ok (.iload 6, 2) := by decide +kernel
theorem dX12_session_51 : decode cX12_session 51 = .ok (.ifCond .lt 111, 3) := by decide +kernel
theorem dX12_session_54 : decode cX12_session 54 = .ok (.iload_n 2, 1) := by decide +kernel
theorem dX12_session_55 : decode cX12_session 55 = .ok (.ifCond .le 18, 3) := by decide +kernel
theorem dX12_session_58 : decode cX12_session 58 = .ok (.aload_n 0, 1) := by decide +kernel
theorem dX12_session_59 : decode cX12_session 59 = .ok (.getfield 25, 3) := by decide +kernel
theorem dX12_session_62 : decode cX12_session 62 = .ok (.iload 6, 2) := by decide +kernel
theorem dX12_session_64 : decode cX12_session 64 = .ok (.iaload, 1) := by decide +kernel
theorem dX12_session_65 : decode cX12_session 65 = .ok (.iload_n 3, 1) := by decide +kernel
theorem dX12_session_66 : decode cX12_session 66 = .ok (.if_icmp .ne 7, 3) := by decide +kernel
theorem dX12_session_69 : decode cX12_session 69 = .ok (.iconst 1, 1) := by decide +kernel
theorem dX12_session_70 : decode cX12_session 70 = .ok (.goto 4, 3) := by decide +kernel
theorem dX12_session_73 : decode cX12_session 73 = .ok (.iconst 0, 1) := by decide +kernel
theorem dX12_session_74 : decode cX12_session 74 = .ok (.istore 7, 2) := by decide +kernel
theorem dX12_session_76 : decode cX12_session 76 = .ok (.aload_n 0, 1) := by decide +kernel
theorem dX12_session_77 : decode cX12_session 77 = .ok (.getfield 78, 3) := by decide +kernel
theorem dX12_session_80 : decode cX12_session 80 = .ok (.iload_n 2, 1) := by decide +kernel
theorem dX12_session_81 : decode cX12_session 81 = .ok (.iaload, 1) := by decide +kernel
theorem dX12_session_82 : decode cX12_session 82 = .ok (.iload 6, 2) := by decide +kernel
theorem dX12_session_84 : decode cX12_session 84 = .ok (.invokestatic 189, 3) := by decide +kernel
theorem dX12_session_87 : decode cX12_session 87 = .ok (.ifCond .eq 52, 3) := by decide +kernel
theorem dX12_session_90 : decode cX12_session 90 = .ok (.aload_n 0, 1) := by decide +kernel
theorem dX12_session_91 : decode cX12_session 91 = .ok (.getfield 88, 3) := by decide +kernel
theorem dX12_session_94 : decode cX12_session 94 = .ok (.iconst 4, 1) := by decide +kernel
theorem dX12_session_95 : decode cX12_session 95 = .ok (.iload_n 2, 1) := by decide +kernel
theorem dX12_session_96 : decode cX12_session 96 = .ok (.iconst 1, 1) := by decide +kernel
theorem dX12_session_97 : decode cX12_session 97 = .ok (.iload 6, 2) := by decide +kernel
theorem dX12_session_99 : decode cX12_session 99 = .ok (.ishl, 1) := by decide +kernel
theorem dX12_session_100 : decode cX12_session 100 = .ok (.ior, 1) := by decide +kernel
theorem dX12_session_101 : decode cX12_session 101 = .ok (.imul, 1) := by decide +kernel
theorem dX12_session_102 : decode cX12_session 102 = .ok (.aload_n 0, 1) := by decide +kernel
theorem dX12_session_103 : decode cX12_session 103 = .ok (.getfield 25, 3) := by decide +kernel
theorem dX12_session_106 : decode cX12_session 106 = .ok (.iload 6, 2) := by decide +kernel
theorem dX12_session_108 : decode cX12_session 108 = .ok (.iaload, 1) := by decide +kernel
theorem dX12_session_109 : decode cX12_session 109 = .ok (.iadd, 1) := by decide +kernel
theorem dX12_session_110 : decode cX12_session 110 = .ok (.iaload, 1) := by decide +kernel
theorem dX12_session_111 : decode cX12_session 111 = .ok (.iload 7, 2) := by decide +kernel
theorem dX12_session_113 : decode cX12_session 113 = .ok (.ifCond .eq 7, 3) := by decide +kernel
theorem dX12_session_116 : decode cX12_session 116 = .ok (.iconst 0, 1) := by decide +kernel
theorem dX12_session_117 : decode cX12_session 117 = .ok (.goto 4, 3) := by decide +kernel
theorem dX12_session_120 : decode cX12_session 120 = .ok (.iconst 1, 1) := by decide +kernel
theorem dX12_session_121 : decode cX12_session 121 = .ok (.iadd, 1) := by decide +kernel
theorem dX12_session_122 : decode cX12_session 122 = .ok (.aload_n 0, 1) := by decide +kernel
theorem dX12_session_123 : decode cX12_session 123 = .ok (.getfield 88, 3) := by decide +kernel
theorem dX12_session_126 : decode cX12_session 126 = .ok (.iconst 4, 1) := by decide +kernel
theorem dX12_session_127 : decode cX12_session 127 = .ok (.iload_n 2, 1) := by decide +kernel
theorem dX12_session_128 : decode cX12_session 128 = .ok (.imul, 1) := by decide +kernel
theorem dX12_session_129 : decode cX12_session 129 = .ok (.iload_n 3, 1) := by decide +kernel
theorem dX12_session_130 : decode cX12_session 130 = .ok (.iadd, 1) := by decide +kernel
theorem dX12_session_131 : decode cX12_session 131 = .ok (.iaload, 1) := by decide +kernel
theorem dX12_session_132 : decode cX12_session 132 = .ok (.if_icmp .ne 7, 3) := by decide +kernel
theorem dX12_session_135 : decode cX12_session 135 = .ok (.iconst 1, 1) := by decide +kernel
theorem dX12_session_136 : decode cX12_session 136 = .ok (.goto 4, 3) := by decide +kernel
theorem dX12_session_139 : decode cX12_session 139 = .ok (.iconst 0, 1) := by decide +kernel
theorem dX12_session_140 : decode cX12_session 140 = .ok (.istore 8, 2) := by decide +kernel
theorem dX12_session_142 : decode cX12_session 142 = .ok (.iload 8, 2) := by decide +kernel
theorem dX12_session_144 : decode cX12_session 144 = .ok (.ifCond .eq 8, 3) := by decide +kernel
theorem dX12_session_147 : decode cX12_session 147 = .ok (.iload 6, 2) := by decide +kernel
theorem dX12_session_149 : decode cX12_session 149 = .ok (.goto 5, 3) := by decide +kernel
theorem dX12_session_152 : decode cX12_session 152 = .ok (.iload 4, 2) := by decide +kernel
theorem dX12_session_154 : decode cX12_session 154 = .ok (.istore 4, 2) := by decide +kernel
theorem dX12_session_156 : decode cX12_session 156 = .ok (.iinc 6 (-1), 3) := by decide +kernel
theorem dX12_session_159 : decode cX12_session 159 = .ok (.goto (-110), 3) := by decide +kernel
theorem dX12_session_162 : decode cX12_session 162 = .ok (.iload_n 2, 1) := by decide +kernel
theorem dX12_session_163 : decode cX12_session 163 = .ok (.iconst 1, 1) := by decide +kernel
theorem dX12_session_164 : decode cX12_session 164 = .ok (.iload 4, 2) := by decide +kernel
theorem dX12_session_166 : decode cX12_session 166 = .ok (.ishl, 1) := by decide +kernel
theorem dX12_session_167 : decode cX12_session 167 = .ok (.ior, 1) := by decide +kernel
theorem dX12_session_168 : decode cX12_session 168 = .ok (.istore_n 2, 1) := by decide +kernel
theorem dX12_session_169 : decode cX12_session 169 = .ok (.aload_n 0, 1) := by decide +kernel
theorem dX12_session_170 : decode cX12_session 170 = .ok (.getfield 25, 3) := by decide +kernel
theorem dX12_session_173 : decode cX12_session 173 = .ok (.iload 4, 2) := by decide +kernel
theorem dX12_session_175 : decode cX12_session 175 = .ok (.iaload, 1) := by decide +kernel
theorem dX12_session_176 : decode cX12_session 176 = .ok (.istore_n 3, 1) := by decide +kernel
theorem dX12_session_177 : decode cX12_session 177 = .ok (.iinc 5 1, 3) := by decide +kernel
theorem dX12_session_180 : decode cX12_session 180 = .ok (.goto (-148), 3) := by decide +kernel
theorem dX12_session_183 : decode cX12_session 183 = .ok (.iload 4, 2) := by decide +kernel
theorem dX12_session_185 : decode cX12_session 185 = .ok (.ireturn, 1) := by decide +kernel
theorem dX12_addWord_0 : decode cX12_addWord 0 = .ok (.aload_n 0, 1) := by decide +kernel
theorem dX12_addWord_1 : decode cX12_addWord 1 = .ok (.getfield 98, 3) := by decide +kernel
theorem dX12_addWord_4 : decode cX12_addWord 4 = .ok (.bipush 40, 2) := by decide +kernel
theorem dX12_addWord_6 : decode cX12_addWord 6 = .ok (.iload_n 1, 1) := by decide +kernel
theorem dX12_addWord_7 : decode cX12_addWord 7 = .ok (.imul, 1) := by decide +kernel
theorem dX12_addWord_8 : decode cX12_addWord 8 = .ok (.aload_n 0, 1) := by decide +kernel
theorem dX12_addWord_9 : decode cX12_addWord 9 = .ok (.getfield 94, 3) := by decide +kernel
theorem dX12_addWord_12 : decode cX12_addWord 12 = .ok (.iload_n 1, 1) := by decide +kernel
theorem dX12_addWord_13 : decode cX12_addWord 13 = .ok (.iaload, 1) := by decide +kernel
theorem dX12_addWord_14 : decode cX12_addWord 14 = .ok (.iadd, 1) := by decide +kernel
theorem dX12_addWord_15 : decode cX12_addWord 15 = .ok (.iload_n 2, 1) := by decide +kernel
theorem dX12_addWord_16 : decode cX12_addWord 16 = .ok (.iastore, 1) := by decide +kernel
theorem dX12_addWord_17 : decode cX12_addWord 17 = .ok (.aload_n 0, 1) := by decide +kernel
theorem dX12_addWord_18 : decode cX12_addWord 18 = .ok (.getfield 94, 3) := by decide +kernel
theorem dX12_addWord_21 : decode cX12_addWord 21 = .ok (.iload_n 1, 1) := by decide +kernel
theorem dX12_addWord_22 : decode cX12_addWord 22 = .ok (.dup2, 1) := by decide +kernel
theorem dX12_addWord_23 : decode cX12_addWord 23 = .ok (.iaload, 1) := by decide +kernel
theorem dX12_addWord_24 : decode cX12_addWord 24 = .ok (.iconst 1, 1) := by decide +kernel
theorem dX12_addWord_25 : decode cX12_addWord 25 = .ok (.iadd, 1) := by decide +kernel
theorem dX12_addWord_26 : decode cX12_addWord 26 = .ok (.iastore, 1) := by decide +kernel
theorem dX12_addWord_27 : decode cX12_addWord 27 = .ok (.aload_n 0, 1) := by decide +kernel
theorem dX12_addWord_28 : decode cX12_addWord 28 = .ok (.getfield 101, 3) := by decide +kernel
theorem dX12_addWord_31 : decode cX12_addWord 31 = .ok (.iload_n 1, 1) := by decide +kernel
theorem dX12_addWord_32 : decode cX12_addWord 32 = .ok (.aload_n 0, 1) := by decide +kernel
theorem dX12_addWord_33 : decode cX12_addWord 33 = .ok (.getfield 101, 3) := by decide +kernel
theorem dX12_addWord_36 : decode cX12_addWord 36 = .ok (.iload_n 1, 1) := by decide +kernel
theorem dX12_addWord_37 : decode cX12_addWord 37 = .ok (.laload, 1) := by decide +kernel
theorem dX12_addWord_38 : decode cX12_addWord 38 = .ok (.ldc2_w 325, 3) := by decide +kernel
theorem dX12_addWord_41 : decode cX12_addWord 41 = .ok (.lmul, 1) := by decide +kernel
theorem dX12_addWord_42 : decode cX12_addWord 42 = .ok (.iload_n 2, 1) := by decide +kernel
theorem dX12_addWord_43 : decode cX12_addWord 43 = .ok (.i2l, 1) := by decide +kernel
theorem dX12_addWord_44 : decode cX12_addWord 44 = .ok (.ladd, 1) := by decide +kernel
theorem dX12_addWord_45 : decode cX12_addWord 45 = .ok (.lconst 1, 1) := by decide +kernel
theorem dX12_addWord_46 : decode cX12_addWord 46 = .ok (.ladd, 1) := by decide +kernel
theorem dX12_addWord_47 : decode cX12_addWord 47 = .ok (.lastore, 1) := by decide +kernel
theorem dX12_addWord_48 : decode cX12_addWord 48 = .ok (.return_, 1) := by decide +kernel
theorem dX12_addRow_0 : decode cX12_addRow 0 = .ok (.aload_n 0, 1) := by decide +kernel
theorem dX12_addRow_1 : decode cX12_addRow 1 = .ok (.getfield 13, 3) := by decide +kernel
theorem dX12_addRow_4 : decode cX12_addRow 4 = .ok (.iload_n 2, 1) := by decide +kernel
theorem dX12_addRow_5 : decode cX12_addRow 5 = .ok (.iaload, 1) := by decide +kernel
theorem dX12_addRow_6 : decode cX12_addRow 6 = .ok (.istore_n 3, 1) := by decide +kernel
theorem dX12_addRow_7 : decode cX12_addRow 7 = .ok (.iload_n 2, 1) := by decide +kernel
theorem dX12_addRow_8 : decode cX12_addRow 8 = .ok (.iconst 1, 1) := by decide +kernel
theorem dX12_addRow_9 : decode cX12_addRow 9 = .ok (.iadd, 1) := by decide +kernel
theorem dX12_addRow_10 : decode cX12_addRow 10 = .ok (.istore 4, 2) := by decide +kernel
theorem dX12_addRow_12 : decode cX12_addRow 12 = .ok (.iload 4, 2) := by decide +kernel
theorem dX12_addRow_14 : decode cX12_addRow 14 = .ok (.aload_n 0, 1) := by decide +kernel
theorem dX12_addRow_15 : decode cX12_addRow 15 = .ok (.getfield 19, 3) := by decide +kernel
theorem dX12_addRow_18 : decode cX12_addRow 18 = .ok (.iload_n 2, 1) := by decide +kernel
theorem dX12_addRow_19 : decode cX12_addRow 19 = .ok (.iaload, 1) := by decide +kernel
theorem dX12_addRow_20 : decode cX12_addRow 20 = .ok (.if_icmp .ge 35, 3) := by decide +kernel
theorem dX12_addRow_23 : decode cX12_addRow 23 = .ok (.iload_n 1, 1) := by decide +kernel
theorem dX12_addRow_24 : decode cX12_addRow 24 = .ok (.aload_n 0, 1) := by decide +kernel
theorem dX12_addRow_25 : decode cX12_addRow 25 = .ok (.getfield 16, 3) := by decide +kernel
theorem dX12_addRow_28 : decode cX12_addRow 28 = .ok (.iload 4, 2) := by decide +kernel
theorem dX12_addRow_30 : decode cX12_addRow 30 = .ok (.iaload, 1) := by decide +kernel
theorem dX12_addRow_31 : decode cX12_addRow 31 = .ok (.invokestatic 189, 3) := by decide +kernel
theorem dX12_addRow_34 : decode cX12_addRow 34 = .ok (.ifCond .eq 13, 3) := by decide +kernel
theorem dX12_addRow_37 : decode cX12_addRow 37 = .ok (.aload_n 0, 1) := by decide +kernel
theorem dX12_addRow_38 : decode cX12_addRow 38 = .ok (.getfield 13, 3) := by decide +kernel
theorem dX12_addRow_41 : decode cX12_addRow 41 = .ok (.iload 4, 2) := by decide +kernel
theorem dX12_addRow_43 : decode cX12_addRow 43 = .ok (.iaload, 1) := by decide +kernel
theorem dX12_addRow_44 : decode cX12_addRow 44 = .ok (.goto 4, 3) := by decide +kernel
theorem dX12_addRow_47 : decode cX12_addRow 47 = .ok (.iload_n 3, 1) := by decide +kernel
theorem dX12_addRow_48 : decode cX12_addRow 48 = .ok (.istore_n 3, 1) := by decide +kernel
theorem dX12_addRow_49 : decode cX12_addRow 49 = .ok (.iinc 4 1, 3) := by decide +kernel
theorem dX12_addRow_52 : decode cX12_addRow 52 = .ok (.goto (-40), 3) := by decide +kernel
theorem dX12_addRow_55 : decode cX12_addRow 55 = .ok (.aload_n 0, 1) := by decide +kernel
theorem dX12_addRow_56 : decode cX12_addRow 56 = .ok (.iload_n 1, 1) := by decide +kernel
theorem dX12_addRow_57 : decode cX12_addRow 57 = .ok (.iload_n 3, 1) := by decide +kernel
theorem dX12_addRow_58 : decode cX12_addRow 58 = .ok (.invokevirtual 327, 3) := by decide +kernel
theorem dX12_addRow_61 : decode cX12_addRow 61 = .ok (.return_, 1) := by decide +kernel
theorem dX12_isStanding_0 : decode cX12_isStanding 0 = .ok (.aload_n 0, 1) := by decide +kernel
theorem dX12_isStanding_1 : decode cX12_isStanding 1 = .ok (.getfield 7, 3) := by decide +kernel
theorem dX12_isStanding_4 : decode cX12_isStanding 4 = .ok (.iload_n 2, 1) := by decide +kernel
theorem dX12_isStanding_5 : decode cX12_isStanding 5 = .ok (.iaload, 1) := by decide +kernel
theorem dX12_isStanding_6 : decode cX12_isStanding 6 = .ok (.iconst 2, 1) := by decide +kernel
theorem dX12_isStanding_7 : decode cX12_isStanding 7 = .ok (.if_icmp .ne 44, 3) := by decide +kernel
theorem dX12_isStanding_10 : decode cX12_isStanding 10 = .ok (.iload_n 1, 1) := by decide +kernel
theorem dX12_isStanding_11 : decode cX12_isStanding 11 = .ok (.aload_n 0, 1) := by decide +kernel
theorem dX12_isStanding_12 : decode cX12_isStanding 12 = .ok (.getfield 13, 3) := by decide +kernel
theorem dX12_isStanding_15 : decode cX12_isStanding 15 = .ok (.iload_n 2, 1) := by decide +kernel
theorem dX12_isStanding_16 : decode cX12_isStanding 16 = .ok (.iaload, 1) := by decide +kernel
theorem dX12_isStanding_17 : decode cX12_isStanding 17 = .ok (.invokestatic 189, 3) := by decide +kernel
theorem dX12_isStanding_20 : decode cX12_isStanding 20 = .ok (.ifCond .eq 25, 3) := by decide +kernel
theorem dX12_isStanding_23 : decode cX12_isStanding 23 = .ok (.aload_n 0, 1) := by decide +kernel
theorem dX12_isStanding_24 : decode cX12_isStanding 24 = .ok (.getfield 16, 3) := by decide +kernel
theorem dX12_isStanding_27 : decode cX12_isStanding 27 = .ok (.iload_n 2, 1) := by decide +kernel
theorem dX12_isStanding_28 : decode cX12_isStanding 28 = .ok (.iaload, 1) := by decide +kernel
theorem dX12_isStanding_29 : decode cX12_isStanding 29 = .ok (.ifCond .lt 20, 3) := by decide +kernel
theorem dX12_isStanding_32 : decode cX12_isStanding 32 = .ok (.iload_n 1, 1) := by decide +kernel
theorem dX12_isStanding_33 : decode cX12_isStanding 33 = .ok (.aload_n 0, 1) := by decide +kernel
theorem dX12_isStanding_34 : decode cX12_isStanding 34 = .ok (.getfield 16, 3) := by decide +kernel
theorem dX12_isStanding_37 : decode cX12_isStanding 37 = .ok (.iload_n 2, 1) := by decide +kernel
theorem dX12_isStanding_38 : decode cX12_isStanding 38 = .ok (.iaload, 1) := by decide +kernel
theorem dX12_isStanding_39 : decode cX12_isStanding 39 = .ok (.invokestatic 189, 3) := by decide +kernel
theorem dX12_isStanding_42 : decode cX12_isStanding 42 = .ok (.ifCond .eq 7, 3) := by decide +kernel
theorem dX12_isStanding_45 : decode cX12_isStanding 45 = .ok (.iconst 1, 1) := by decide +kernel
theorem dX12_isStanding_46 : decode cX12_isStanding 46 = .ok (.goto 4, 3) := by decide +kernel
theorem dX12_isStanding_49 : decode cX12_isStanding 49 = .ok (.iconst 0, 1) := by decide +kernel
theorem dX12_isStanding_50 : decode cX12_isStanding 50 = .ok (.ireturn, 1) := by decide +kernel
theorem dX12_isStanding_51 : decode cX12_isStanding 51 = .ok (.iload_n 1, 1) := by decide +kernel
theorem dX12_isStanding_52 : decode cX12_isStanding 52 = .ok (.aload_n 0, 1) := by decide +kernel
theorem dX12_isStanding_53 : decode cX12_isStanding 53 = .ok (.getfield 13, 3) := by decide +kernel
theorem dX12_isStanding_56 : decode cX12_isStanding 56 = .ok (.iload_n 2, 1) := by decide +kernel
theorem dX12_isStanding_57 : decode cX12_isStanding 57 = .ok (.iaload, 1) := by decide +kernel
theorem dX12_isStanding_58 : decode cX12_isStanding 58 = .ok (.invokestatic 189, 3) := by decide +kernel
theorem dX12_isStanding_61 : decode cX12_isStanding 61 = .ok (.aload_n 0, 1) := by decide +kernel
theorem dX12_isStanding_62 : decode cX12_isStanding 62 = .ok (.getfield 7, 3) := by decide +kernel
theorem dX12_isStanding_65 : decode cX12_isStanding 65 = .ok (.iload_n 2, 1) := by decide +kernel
theorem dX12_isStanding_66 : decode cX12_isStanding 66 = .ok (.iaload, 1) := by decide +kernel
theorem dX12_isStanding_67 : decode cX12_isStanding 67 = .ok (.iconst 1, 1) := by decide +kernel
theorem dX12_isStanding_68 : decode cX12_isStanding 68 = .ok (.if_icmp .ne 7, 3) := by decide +kernel
theorem dX12_isStanding_71 : decode cX12_isStanding 71 = .ok (.iconst 1, 1) := by decide +kernel
theorem dX12_isStanding_72 : decode cX12_isStanding 72 = .ok (.goto 4, 3) := by decide +kernel
theorem dX12_isStanding_75 : decode cX12_isStanding 75 = .ok (.iconst 0, 1) := by decide +kernel
theorem dX12_isStanding_76 : decode cX12_isStanding 76 = .ok (.if_icmp .ne 7, 3) := by decide +kernel
theorem dX12_isStanding_79 : decode cX12_isStanding 79 = .ok (.iconst 1, 1) := by decide +kernel
theorem dX12_isStanding_80 : decode cX12_isStanding 80 = .ok (.goto 4, 3) := by decide +kernel
theorem dX12_isStanding_83 : decode cX12_isStanding 83 = .ok (.iconst 0, 1) := by decide +kernel
theorem dX12_isStanding_84 : decode cX12_isStanding 84 = .ok (.ireturn, 1) := by decide +kernel
theorem dX12_writeText_0 : decode cX12_writeText 0 = .ok (.aload_n 0, 1) := by decide +kernel
theorem dX12_writeText_1 : decode cX12_writeText 1 = .ok (.getfield 94, 3) := by decide +kernel
theorem dX12_writeText_4 : decode cX12_writeText 4 = .ok (.iload_n 1, 1) := by decide +kernel
theorem dX12_writeText_5 : decode cX12_writeText 5 = .ok (.iconst 0, 1) := by decide +kernel
theorem dX12_writeText_6 : decode cX12_writeText 6 = .ok (.iastore, 1) := by decide +kernel
theorem dX12_writeText_7 : decode cX12_writeText 7 = .ok (.aload_n 0, 1) := by decide +kernel
theorem dX12_writeText_8 : decode cX12_writeText 8 = .ok (.getfield 101, 3) := by decide +kernel
theorem dX12_writeText_11 : decode cX12_writeText 11 = .ok (.iload_n 1, 1) := by decide +kernel
theorem dX12_writeText_12 : decode cX12_writeText 12 = .ok (.lconst 0, 1) := by decide +kernel
theorem dX12_writeText_13 : decode cX12_writeText 13 = .ok (.lastore, 1) := by decide +kernel
theorem dX12_writeText_14 : decode cX12_writeText 14 = .ok (.iconst 0, 1) := by decide +kernel
theorem dX12_writeText_15 : decode cX12_writeText 15 = .ok (.istore_n 2, 1) := by decide +kernel
theorem dX12_writeText_16 : decode cX12_writeText 16 = .ok (.aload_n 0, 1) := by decide +kernel
theorem dX12_writeText_17 : decode cX12_writeText 17 = .ok (.getfield 243, 3) := by decide +kernel
theorem dX12_writeText_20 : decode cX12_writeText 20 = .ok (.istore_n 3, 1) := by decide +kernel
theorem dX12_writeText_21 : decode cX12_writeText 21 = .ok (.iconst (-1), 1) := by decide +kernel
theorem dX12_writeText_22 : decode cX12_writeText 22 = .ok (.istore 4, 2) := by decide +kernel
theorem dX12_writeText_24 : decode cX12_writeText 24 = .ok (.iload_n 2, 1) := by decide +kernel
theorem dX12_writeText_25 : decode cX12_writeText 25 = .ok (.iload_n 3, 1) := by decide +kernel
theorem dX12_writeText_26 : decode cX12_writeText 26 = .ok (.if_icmp .lt 8, 3) := by decide +kernel
theorem dX12_writeText_29 : decode cX12_writeText 29 = .ok (.iload 4, 2) := by decide +kernel
theorem dX12_writeText_31 : decode cX12_writeText 31 = .ok (.ifCond .lt 184, 3) := by decide +kernel
theorem dX12_writeText_34 : decode cX12_writeText 34 = .ok (.iload_n 2, 1) := by decide +kernel
theorem dX12_writeText_35 : decode cX12_writeText 35 = .ok (.iload_n 3, 1) := by decide +kernel
theorem dX12_writeText_36 : decode cX12_writeText 36 = .ok (.if_icmp .ne 17, 3) := by decide +kernel
theorem dX12_writeText_39 : decode cX12_writeText 39 = .ok (.iload 4, 2) := by decide +kernel
theorem dX12_writeText_41 : decode cX12_writeText 41 = .ok (.istore_n 2, 1) := by decide +kernel
theorem dX12_writeText_42 : decode cX12_writeText 42 = .ok (.aload_n 0, 1) := by decide +kernel
theorem dX12_writeText_43 : decode cX12_writeText 43 = .ok (.getfield 243, 3) := by decide +kernel
theorem dX12_writeText_46 : decode cX12_writeText 46 = .ok (.istore_n 3, 1) := by decide +kernel
theorem dX12_writeText_47 : decode cX12_writeText 47 = .ok (.iconst (-1), 1) := by decide +kernel
theorem dX12_writeText_48 : decode cX12_writeText 48 = .ok (.istore 4, 2) := by decide +kernel
theorem dX12_writeText_50 : decode cX12_writeText 50 = .ok (.goto (-26), 3) := by decide +kernel
theorem dX12_writeText_53 : decode cX12_writeText 53 = .ok (.aload_n 0, 1) := by decide +kernel
theorem dX12_writeText_54 : decode cX12_writeText 54 = .ok (.getfield 7, 3) := by decide +kernel
theorem dX12_writeText_57 : decode cX12_writeText 57 = .ok (.iload_n 2, 1) := by decide +kernel
theorem dX12_writeText_58 : decode cX12_writeText 58 = .ok (.iaload, 1) := by decide +kernel
theorem dX12_writeText_59 : decode cX12_writeText 59 = .ok (.ifCond .ne 20, 3) := by decide +kernel
theorem dX12_writeText_62 : decode cX12_writeText 62 = .ok (.aload_n 0, 1) := by decide +kernel
theorem dX12_writeText_63 : decode cX12_writeText 63 = .ok (.iload_n 1, 1) := by decide +kernel
theorem dX12_writeText_64 : decode cX12_writeText 64 = .ok (.aload_n 0, 1) := by decide +kernel
theorem dX12_writeText_65 : decode cX12_writeText 65 = .ok (.getfield 13, 3) := by decide +kernel
theorem dX12_writeText_68 : decode cX12_writeText 68 = .ok (.iload_n 2, 1) := by decide +kernel
theorem dX12_writeText_69 : decode cX12_writeText 69 = .ok (.iaload, 1) := by decide +kernel
theorem dX12_writeText_70 : decode cX12_writeText 70 = .ok (.invokevirtual 327, 3) := by decide +kernel
theorem dX12_writeText_73 : decode cX12_writeText 73 = .ok (.iinc 2 1, 3) := by decide +kernel
theorem dX12_writeText_76 : decode cX12_writeText 76 = .ok (.goto (-52), 3) := by decide +kernel
theorem dX12_writeText_79 : decode cX12_writeText 79 = .ok (.aload_n 0, 1) := by decide +kernel
theorem dX12_writeText_80 : decode cX12_writeText 80 = .ok (.getfield 7, 3) := by decide +kernel
theorem dX12_writeText_83 : decode cX12_writeText 83 = .ok (.iload_n 2, 1) := by decide +kernel
theorem dX12_writeText_84 : decode cX12_writeText 84 = .ok (.iaload, 1) := by decide +kernel
theorem dX12_writeText_85 : decode cX12_writeText 85 = .ok (.bipush 6, 2) := by decide +kernel
theorem dX12_writeText_87 : decode cX12_writeText 87 = .ok (.if_icmp .ne 21, 3) := by decide +kernel
theorem dX12_writeText_90 : decode cX12_writeText 90 = .ok (.aload_n 0, 1) := by decide +kernel
theorem dX12_writeText_91 : decode cX12_writeText 91 = .ok (.iload_n 1, 1) := by decide +kernel
theorem dX12_writeText_92 : decode cX12_writeText 92 = .ok (.iload_n 2, 1) := by decide +kernel
theorem dX12_writeText_93 : decode cX12_writeText 93 = .ok (.invokevirtual 331, 3) := by decide +kernel
theorem dX12_writeText_96 : decode cX12_writeText 96 = .ok (.aload_n 0, 1) := by decide +kernel
theorem dX12_writeText_97 : decode cX12_writeText 97 = .ok (.getfield 19, 3) := by decide +kernel
theorem dX12_writeText_100 : decode cX12_writeText 100 = .ok (.iload_n 2, 1) := by decide +kernel
theorem dX12_writeText_101 : decode cX12_writeText 101 = .ok (.iaload, 1) := by decide +kernel
theorem dX12_writeText_102 : decode cX12_writeText 102 = .ok (.iconst 1, 1) := by decide +kernel
theorem dX12_writeText_103 : decode cX12_writeText 103 = .ok (.iadd, 1) := by decide +kernel
theorem dX12_writeText_104 : decode cX12_writeText 104 = .ok (.istore_n 2, 1) := by decide +kernel
theorem dX12_writeText_105 : decode cX12_writeText 105 = .ok (.goto (-81), 3) := by decide +kernel
theorem dX12_writeText_108 : decode cX12_writeText 108 = .ok (.aload_n 0, 1) := by decide +kernel
theorem dX12_writeText_109 : decode cX12_writeText 109 = .ok (.getfield 7, 3) := by decide +kernel
theorem dX12_writeText_112 : decode cX12_writeText 112 = .ok (.iload_n 2, 1) := by decide +kernel
theorem dX12_writeText_113 : decode cX12_writeText 113 = .ok (.iaload, 1) := by decide +kernel
theorem dX12_writeText_114 : decode cX12_writeText 114 = .ok (.iconst 5, 1) := by decide +kernel
theorem dX12_writeText_115 : decode cX12_writeText 115 = .ok (.if_icmp .ne 47, 3) := by decide +kernel
theorem dX12_writeText_118 : decode cX12_writeText 118 = .ok (.iload_n 1, 1) := by decide +kernel
theorem dX12_writeText_119 : decode cX12_writeText 119 = .ok (.aload_n 0, 1) := by decide +kernel
theorem dX12_writeText_120 : decode cX12_writeText 120 = .ok (.getfield 13, 3) := by decide +kernel
theorem dX12_writeText_123 : decode cX12_writeText 123 = .ok (.iload_n 2, 1) := by decide +kernel
theorem dX12_writeText_124 : decode cX12_writeText 124 = .ok (.iaload, 1) := by decide +kernel
theorem dX12_writeText_125 : decode cX12_writeText 125 = .ok (.invokestatic 189, 3) := by decide +kernel
theorem dX12_writeText_128 : decode cX12_writeText 128 = .ok (.ifCond .eq 34, 3) := by decide +kernel
theorem dX12_writeText_131 : decode cX12_writeText 131 = .ok (.iload_n 2, 1) := by decide +kernel
theorem dX12_writeText_132 : decode cX12_writeText 132 = .ok (.iconst 1, 1) := by decide +kernel
theorem dX12_writeText_133 : decode cX12_writeText 133 = .ok (.iadd, 1) := by decide +kernel
theorem dX12_writeText_134 : decode cX12_writeText 134 = .ok (.istore 4, 2) := by decide +kernel
theorem dX12_writeText_136 : decode cX12_writeText 136 = .ok (.aload_n 0, 1) := by decide +kernel
theorem dX12_writeText_137 : decode cX12_writeText 137 = .ok (.getfield 40, 3) := by decide +kernel
theorem dX12_writeText_140 : decode cX12_writeText 140 = .ok (.aload_n 0, 1) := by decide +kernel
theorem dX12_writeText_141 : decode cX12_writeText 141 = .ok (.getfield 13, 3) := by decide +kernel
theorem dX12_writeText_144 : decode cX12_writeText 144 = .ok (.iload_n 2, 1) := by decide +kernel
theorem dX12_writeText_145 : decode cX12_writeText 145 = .ok (.iaload, 1) := by decide +kernel
theorem dX12_writeText_146 : decode cX12_writeText 146 = .ok (.iaload, 1) := by decide +kernel
theorem dX12_writeText_147 : decode cX12_writeText 147 = .ok (.iconst 1, 1) := by decide +kernel
theorem dX12_writeText_148 : decode cX12_writeText 148 = .ok (.iadd, 1) := by decide +kernel
theorem dX12_writeText_149 : decode cX12_writeText 149 = .ok (.istore_n 2, 1) := by decide +kernel
theorem dX12_writeText_150 : decode cX12_writeText 150 = .ok (.aload_n 0, 1) := by decide +kernel
theorem dX12_writeText_151 : decode cX12_writeText 151 = .ok (.getfield 19, 3) := by decide +kernel
theorem dX12_writeText_154 : decode cX12_writeText 154 = .ok (.iload_n 2, 1) := by decide +kernel
theorem dX12_writeText_155 : decode cX12_writeText 155 = .ok (.iconst 1, 1) := by decide +kernel
theorem dX12_writeText_156 : decode cX12_writeText 156 = .ok (.isub, 1) := by decide +kernel
theorem dX12_writeText_157 : decode cX12_writeText 157 = .ok (.iaload, 1) := by decide +kernel
theorem dX12_writeText_158 : decode cX12_writeText 158 = .ok (.istore_n 3, 1) := by decide +kernel
theorem dX12_writeText_159 : decode cX12_writeText 159 = .ok (.goto (-135), 3) := by decide +kernel
theorem dX12_writeText_162 : decode cX12_writeText 162 = .ok (.aload_n 0, 1) := by decide +kernel
theorem dX12_writeText_163 : decode cX12_writeText 163 = .ok (.getfield 7, 3) := by decide +kernel
theorem dX12_writeText_166 : decode cX12_writeText 166 = .ok (.iload_n 2, 1) := by decide +kernel
theorem dX12_writeText_167 : decode cX12_writeText 167 = .ok (.iaload, 1) := by decide +kernel
theorem dX12_writeText_168 : decode cX12_writeText 168 = .ok (.iconst 4, 1) := by decide +kernel
theorem dX12_writeText_169 : decode cX12_writeText 169 = .ok (.if_icmp .eq 13, 3) := by decide +kernel
theorem dX12_writeText_172 : decode cX12_writeText 172 = .ok (.aload_n 0, 1) := by decide +kernel
theorem dX12_writeText_173 : decode cX12_writeText 173 = .ok (.getfield 7, 3) := by decide +kernel
theorem dX12_writeText_176 : decode cX12_writeText 176 = .ok (.iload_n 2, 1) := by decide +kernel
theorem dX12_writeText_177 : decode cX12_writeText 177 = .ok (.iaload, 1) := by decide +kernel
theorem dX12_writeText_178 : decode cX12_writeText 178 = .ok (.iconst 5, 1) := by decide +kernel
theorem dX12_writeText_179 : decode cX12_writeText 179 = .ok (.if_icmp .ne 9, 3) := by decide +kernel
theorem dX12_writeText_182 : decode cX12_writeText 182 = .ok (.iinc 2 1, 3) := by decide +kernel
theorem dX12_writeText_185 : decode cX12_writeText 185 = .ok (.goto (-161), 3) := by decide +kernel
theorem dX12_writeText_188 : decode cX12_writeText 188 = .ok (.aload_n 0, 1) := by decide +kernel
theorem dX12_writeText_189 : decode cX12_writeText 189 = .ok (.iload_n 1, 1) := by decide +kernel
theorem dX12_writeText_190 : decode cX12_writeText 190 = .ok (.iload_n 2, 1) := by decide +kernel
theorem dX12_writeText_191 : decode cX12_writeText 191 = .ok (.invokevirtual 334, 3) := by decide +kernel
theorem dX12_writeText_194 : decode cX12_writeText 194 = .ok (.ifCond .eq 9, 3) := by decide +kernel
theorem dX12_writeText_197 : decode cX12_writeText 197 = .ok (.iload_n 2, 1) := by decide +kernel
theorem dX12_writeText_198 : decode cX12_writeText 198 = .ok (.iconst 1, 1) := by decide +kernel
theorem dX12_writeText_199 : decode cX12_writeText 199 = .ok (.iadd, 1) := by decide +kernel
theorem dX12_writeText_200 : decode cX12_writeText 200 = .ok (.goto 11, 3) := by decide +kernel
theorem dX12_writeText_203 : decode cX12_writeText 203 = .ok (.aload_n 0, 1) := by decide +kernel
theorem dX12_writeText_204 : decode cX12_writeText 204 = .ok (.getfield 19, 3) := by decide +kernel
theorem dX12_writeText_207 : decode cX12_writeText 207 = .ok (.iload_n 2, 1) := by decide +kernel
theorem dX12_writeText_208 : decode cX12_writeText 208 = .ok (.iaload, 1) := by decide +kernel
theorem dX12_writeText_209 : decode cX12_writeText 209 = .ok (.iconst 1, 1) := by decide +kernel
theorem dX12_writeText_210 : decode cX12_writeText 210 = .ok (.iadd, 1) := by decide +kernel
theorem dX12_writeText_211 : decode cX12_writeText 211 = .ok (.istore_n 2, 1) := by decide +kernel
theorem dX12_writeText_212 : decode cX12_writeText 212 = .ok (.goto (-188), 3) := by decide +kernel
theorem dX12_writeText_215 : decode cX12_writeText 215 = .ok (.return_, 1) := by decide +kernel
theorem dX12_findTexts_0 : decode cX12_findTexts 0 = .ok (.iconst 0, 1) := by decide +kernel
theorem dX12_findTexts_1 : decode cX12_findTexts 1 = .ok (.istore_n 1, 1) := by decide +kernel
theorem dX12_findTexts_2 : decode cX12_findTexts 2 = .ok (.iload_n 1, 1) := by decide +kernel
theorem dX12_findTexts_3 : decode cX12_findTexts 3 = .ok (.aload_n 0, 1) := by decide +kernel
theorem dX12_findTexts_4 : decode cX12_findTexts 4 = .ok (.invokevirtual 148, 3) := by decide +kernel
theorem dX12_findTexts_7 : decode cX12_findTexts 7 = .ok (.if_icmp .gt 21, 3) := by decide +kernel
theorem dX12_findTexts_10 : decode cX12_findTexts 10 = .ok (.aload_n 0, 1) := by decide +kernel
theorem dX12_findTexts_11 : decode cX12_findTexts 11 = .ok (.getfield 252, 3) := by decide +kernel
theorem dX12_findTexts_14 : decode cX12_findTexts 14 = .ok (.ifCond .ne 14, 3) := by decide +kernel
theorem dX12_findTexts_17 : decode cX12_findTexts 17 = .ok (.aload_n 0, 1) := by decide +kernel
theorem dX12_findTexts_18 : decode cX12_findTexts 18 = .ok (.iload_n 1, 1) := by decide +kernel
theorem dX12_findTexts_19 : decode cX12_findTexts 19 = .ok (.invokevirtual 337, 3) := by decide +kernel
theorem dX12_findTexts_22 : decode cX12_findTexts 22 = .ok (.iinc 1 1, 3) := by decide +kernel
theorem dX12_findTexts_25 : decode cX12_findTexts 25 = .ok (.goto (-23), 3) := by decide +kernel
theorem dX12_findTexts_28 : decode cX12_findTexts 28 = .ok (.aload_n 0, 1) := by decide +kernel
theorem dX12_findTexts_29 : decode cX12_findTexts 29 = .ok (.iconst 1, 1) := by decide +kernel
theorem dX12_findTexts_30 : decode cX12_findTexts 30 = .ok (.putfield 252, 3) := by decide +kernel
theorem dX12_findTexts_33 : decode cX12_findTexts 33 = .ok (.aload_n 0, 1) := by decide +kernel
theorem dX12_findTexts_34 : decode cX12_findTexts 34 = .ok (.invokevirtual 307, 3) := by decide +kernel
theorem dX12_findTexts_37 : decode cX12_findTexts 37 = .ok (.return_, 1) := by decide +kernel
theorem dX12_areLike_0 : decode cX12_areLike 0 = .ok (.aload_n 0, 1) := by decide +kernel
theorem dX12_areLike_1 : decode cX12_areLike 1 = .ok (.getfield 94, 3) := by decide +kernel
theorem dX12_areLike_4 : decode cX12_areLike 4 = .ok (.iload_n 1, 1) := by decide +kernel
theorem dX12_areLike_5 : decode cX12_areLike 5 = .ok (.iaload, 1) := by decide +kernel
theorem dX12_areLike_6 : decode cX12_areLike 6 = .ok (.aload_n 0, 1) := by decide +kernel
theorem dX12_areLike_7 : decode cX12_areLike 7 = .ok (.getfield 94, 3) := by decide +kernel
theorem dX12_areLike_10 : decode cX12_areLike 10 = .ok (.iload_n 2, 1) := by decide +kernel
theorem dX12_areLike_11 : decode cX12_areLike 11 = .ok (.iaload, 1) := by decide +kernel
theorem dX12_areLike_12 : decode cX12_areLike 12 = .ok (.if_icmp .ne 23, 3) := by decide +kernel
theorem dX12_areLike_15 : decode cX12_areLike 15 = .ok (.aload_n 0, 1) := by decide +kernel
theorem dX12_areLike_16 : decode cX12_areLike 16 = .ok (.getfield 101, 3) := by decide +kernel
theorem dX12_areLike_19 : decode cX12_areLike 19 = .ok (.iload_n 1, 1) := by decide +kernel
theorem dX12_areLike_20 : decode cX12_areLike 20 = .ok (.laload, 1) := by decide +kernel
theorem dX12_areLike_21 : decode cX12_areLike 21 = .ok (.aload_n 0, 1) := by decide +kernel
theorem dX12_areLike_22 : decode cX12_areLike 22 = .ok (.getfield 101, 3) := by decide +kernel
theorem dX12_areLike_25 : decode cX12_areLike 25 = .ok (.iload_n 2, 1) := by decide +kernel
theorem dX12_areLike_26 : decode cX12_areLike 26 = .ok (.laload, 1) := by decide +kernel
theorem dX12_areLike_27 : decode cX12_areLike 27 = .ok (.lcmp, 1) := by decide +kernel
theorem dX12_areLike_28 : decode cX12_areLike 28 = .ok (.ifCond .ne 7, 3) := by decide +kernel
theorem dX12_areLike_31 : decode cX12_areLike 31 = .ok (.iconst 1, 1) := by decide +kernel
theorem dX12_areLike_32 : decode cX12_areLike 32 = .ok (.goto 4, 3) := by decide +kernel
theorem dX12_areLike_35 : decode cX12_areLike 35 = .ok (.iconst 0, 1) := by decide +kernel
theorem dX12_areLike_36 : decode cX12_areLike 36 = .ok (.istore_n 3, 1) := by decide +kernel
theorem dX12_areLike_37 : decode cX12_areLike 37 = .ok (.iconst 0, 1) := by decide +kernel
theorem dX12_areLike_38 : decode cX12_areLike 38 = .ok (.istore 4, 2) := by decide +kernel
theorem dX12_areLike_40 : decode cX12_areLike 40 = .ok (.iload 4, 2) := by decide +kernel
theorem dX12_areLike_42 : decode cX12_areLike 42 = .ok (.aload_n 0, 1) := by decide +kernel
theorem dX12_areLike_43 : decode cX12_areLike 43 = .ok (.getfield 94, 3) := by decide +kernel
theorem dX12_areLike_46 : decode cX12_areLike 46 = .ok (.iload_n 1, 1) := by decide +kernel
theorem dX12_areLike_47 : decode cX12_areLike 47 = .ok (.iaload, 1) := by decide +kernel
theorem dX12_areLike_48 : decode cX12_areLike 48 = .ok (.if_icmp .ge 46, 3) := by decide +kernel
theorem dX12_areLike_51 : decode cX12_areLike 51 = .ok (.iload_n 3, 1) := by decide +kernel
theorem dX12_areLike_52 : decode cX12_areLike 52 = .ok (.ifCond .eq 42, 3) := by decide +kernel
theorem dX12_areLike_55 : decode cX12_areLike 55 = .ok (.aload_n 0, 1) := by decide +kernel
theorem dX12_areLike_56 : decode cX12_areLike 56 = .ok (.getfield 98, 3) := by decide +kernel
theorem dX12_areLike_59 : decode cX12_areLike 59 = .ok (.bipush 40, 2) := by decide +kernel
theorem dX12_areLike_61 : decode cX12_areLike 61 = .ok (.iload_n 1, 1) := by decide +kernel
theorem dX12_areLike_62 : decode cX12_areLike 62 = .ok (.imul, 1) := by decide +kernel
theorem dX12_areLike_63 : decode cX12_areLike 63 = .ok (.iload 4, 2) := by decide +kernel
theorem dX12_areLike_65 : decode cX12_areLike 65 = .ok (.iadd, 1) := by decide +kernel
theorem dX12_areLike_66 : decode cX12_areLike 66 = .ok (.iaload, 1) := by decide +kernel
theorem dX12_areLike_67 : decode cX12_areLike 67 = .ok (.aload_n 0, 1) := by decide +kernel
theorem dX12_areLike_68 : decode cX12_areLike 68 = .ok (.getfield 98, 3) := by decide +kernel
theorem dX12_areLike_71 : decode cX12_areLike 71 = .ok (.bipush 40, 2) := by decide +kernel
theorem dX12_areLike_73 : decode cX12_areLike 73 = .ok (.iload_n 2, 1) := by decide +kernel
theorem dX12_areLike_74 : decode cX12_areLike 74 = .ok (.imul, 1) := by decide +kernel
theorem dX12_areLike_75 : decode cX12_areLike 75 = .ok (.iload 4, 2) := by decide +kernel
theorem dX12_areLike_77 : decode cX12_areLike 77 = .ok (.iadd, 1) := by decide +kernel
theorem dX12_areLike_78 : decode cX12_areLike 78 = .ok (.iaload, 1) := by decide +kernel
theorem dX12_areLike_79 : decode cX12_areLike 79 = .ok (.if_icmp .ne 7, 3) := by decide +kernel
theorem dX12_areLike_82 : decode cX12_areLike 82 = .ok (.iconst 1, 1) := by decide +kernel
theorem dX12_areLike_83 : decode cX12_areLike 83 = .ok (.goto 4, 3) := by decide +kernel
theorem dX12_areLike_86 : decode cX12_areLike 86 = .ok (.iconst 0, 1) := by decide +kernel
theorem dX12_areLike_87 : decode cX12_areLike 87 = .ok (.istore_n 3, 1) := by decide +kernel
theorem dX12_areLike_88 : decode cX12_areLike 88 = .ok (.iinc 4 1, 3) := by decide +kernel
theorem dX12_areLike_91 : decode cX12_areLike 91 = .ok (.goto (-51), 3) := by decide +kernel
theorem dX12_areLike_94 : decode cX12_areLike 94 = .ok (.iload_n 3, 1) := by decide +kernel
theorem dX12_areLike_95 : decode cX12_areLike 95 = .ok (.ireturn, 1) := by decide +kernel
theorem dX12_wordAt_0 : decode cX12_wordAt 0 = .ok (.iload_n 2, 1) := by decide +kernel
theorem dX12_wordAt_1 : decode cX12_wordAt 1 = .ok (.iconst (-1), 1) := by decide +kernel
theorem dX12_wordAt_2 : decode cX12_wordAt 2 = .ok (.if_icmp .ne 12, 3) := by decide +kernel
theorem dX12_wordAt_5 : decode cX12_wordAt 5 = .ok (.aload_n 0, 1) := by decide +kernel
theorem dX12_wordAt_6 : decode cX12_wordAt 6 = .ok (.getfield 94, 3) := by decide +kernel
theorem dX12_wordAt_9 : decode cX12_wordAt 9 = .ok (.iload_n 1, 1) := by decide +kernel
theorem dX12_wordAt_10 : decode cX12_wordAt 10 = .ok (.iaload, 1) := by decide +kernel
theorem dX12_wordAt_11 : decode cX12_wordAt 11 = .ok (.goto 36, 3) := by decide +kernel
theorem dX12_wordAt_14 : decode cX12_wordAt 14 = .ok (.iload_n 2, 1) := by decide +kernel
theorem dX12_wordAt_15 : decode cX12_wordAt 15 = .ok (.i2l, 1) := by decide +kernel
theorem dX12_wordAt_16 : decode cX12_wordAt 16 = .ok (.lconst 0, 1) := by decide +kernel
theorem dX12_wordAt_17 : decode cX12_wordAt 17 = .ok (.aload_n 0, 1) := by decide +kernel
theorem dX12_wordAt_18 : decode cX12_wordAt 18 = .ok (.getfield 94, 3) := by decide +kernel
theorem dX12_wordAt_21 : decode cX12_wordAt 21 = .ok (.iload_n 1, 1) := by decide +kernel
theorem dX12_wordAt_22 : decode cX12_wordAt 22 = .ok (.iaload, 1) := by decide +kernel
theorem dX12_wordAt_23 : decode cX12_wordAt 23 = .ok (.iconst 1, 1) := by decide +kernel
theorem dX12_wordAt_24 : decode cX12_wordAt 24 = .ok (.isub, 1) := by decide +kernel
theorem dX12_wordAt_25 : decode cX12_wordAt 25 = .ok (.i2l, 1) := by decide +kernel
theorem dX12_wordAt_26 : decode cX12_wordAt 26 = .ok (.invokestatic 144, 3) := by decide +kernel
theorem dX12_wordAt_29 : decode cX12_wordAt 29 = .ok (.ifCond .eq 17, 3) := by decide +kernel
theorem dX12_wordAt_32 : decode cX12_wordAt 32 = .ok (.aload_n 0, 1) := by decide +kernel
theorem dX12_wordAt_33 : decode cX12_wordAt 33 = .ok (.getfield 98, 3) := by decide +kernel
theorem dX12_wordAt_36 : decode cX12_wordAt 36 = .ok (.bipush 40, 2) := by decide +kernel
theorem dX12_wordAt_38 : decode cX12_wordAt 38 = .ok (.iload_n 1, 1) := by decide +kernel
theorem dX12_wordAt_39 : decode cX12_wordAt 39 = .ok (.imul, 1) := by decide +kernel
theorem dX12_wordAt_40 : decode cX12_wordAt 40 = .ok (.iload_n 2, 1) := by decide +kernel
theorem dX12_wordAt_41 : decode cX12_wordAt 41 = .ok (.iadd, 1) := by decide +kernel
theorem dX12_wordAt_42 : decode cX12_wordAt 42 = .ok (.iaload, 1) := by decide +kernel
theorem dX12_wordAt_43 : decode cX12_wordAt 43 = .ok (.goto 4, 3) := by decide +kernel
theorem dX12_wordAt_46 : decode cX12_wordAt 46 = .ok (.iconst (-1), 1) := by decide +kernel
theorem dX12_wordAt_47 : decode cX12_wordAt 47 = .ok (.ireturn, 1) := by decide +kernel
theorem dX12_text_0 : decode cX12_text 0 = .ok (.aload_n 0, 1) := by decide +kernel
theorem dX12_text_1 : decode cX12_text 1 = .ok (.iload_n 1, 1) := by decide +kernel
theorem dX12_text_2 : decode cX12_text 2 = .ok (.invokevirtual 310, 3) := by decide +kernel
theorem dX12_text_5 : decode cX12_text 5 = .ok (.ifCond .ne 7, 3) := by decide +kernel
theorem dX12_text_8 : decode cX12_text 8 = .ok (.sipush (-1001), 3) := by decide +kernel
theorem dX12_text_11 : decode cX12_text 11 = .ok (.ireturn, 1) := by decide +kernel
theorem dX12_text_12 : decode cX12_text 12 = .ok (.aload_n 0, 1) := by decide +kernel
theorem dX12_text_13 : decode cX12_text 13 = .ok (.invokevirtual 340, 3) := by decide +kernel
theorem dX12_text_16 : decode cX12_text 16 = .ok (.aload_n 0, 1) := by decide +kernel
theorem dX12_text_17 : decode cX12_text 17 = .ok (.getfield 75, 3) := by decide +kernel
theorem dX12_text_20 : decode cX12_text 20 = .ok (.iload_n 1, 1) := by decide +kernel
theorem dX12_text_21 : decode cX12_text 21 = .ok (.baload, 1) := by decide +kernel
theorem dX12_text_22 : decode cX12_text 22 = .ok (.ifCond .eq 12, 3) := by decide +kernel
theorem dX12_text_25 : decode cX12_text 25 = .ok (.aload_n 0, 1) := by decide +kernel
theorem dX12_text_26 : decode cX12_text 26 = .ok (.iload_n 1, 1) := by decide +kernel
theorem dX12_text_27 : decode cX12_text 27 = .ok (.iload_n 2, 1) := by decide +kernel
theorem dX12_text_28 : decode cX12_text 28 = .ok (.invokevirtual 343, 3) := by decide +kernel
theorem dX12_text_31 : decode cX12_text 31 = .ok (.goto 6, 3) := by decide +kernel
theorem dX12_text_34 : decode cX12_text 34 = .ok (.sipush (-1003), 3) := by decide +kernel
theorem dX12_text_37 : decode cX12_text 37 = .ok (.ireturn, 1) := by decide +kernel
theorem dX12_view_0 : decode cX12_view 0 = .ok (.aload_n 0, 1) := by decide +kernel
theorem dX12_view_1 : decode cX12_view 1 = .ok (.invokevirtual 340, 3) := by decide +kernel
theorem dX12_view_4 : decode cX12_view 4 = .ok (.iconst 0, 1) := by decide +kernel
theorem dX12_view_5 : decode cX12_view 5 = .ok (.istore_n 2, 1) := by decide +kernel
theorem dX12_view_6 : decode cX12_view 6 = .ok (.iconst 0, 1) := by decide +kernel
theorem dX12_view_7 : decode cX12_view 7 = .ok (.istore_n 3, 1) := by decide +kernel
theorem dX12_view_8 : decode cX12_view 8 = .ok (.iload_n 3, 1) := by decide +kernel
theorem dX12_view_9 : decode cX12_view 9 = .ok (.aload_n 0, 1) := by decide +kernel
theorem dX12_view_10 : decode cX12_view 10 = .ok (.invokevirtual 148, 3) := by decide +kernel
theorem dX12_view_13 : decode cX12_view 13 = .ok (.if_icmp .gt 74, 3) := by decide +kernel
theorem dX12_view_16 : decode cX12_view 16 = .ok (.aload_n 0, 1) := by decide +kernel
theorem dX12_view_17 : decode cX12_view 17 = .ok (.getfield 75, 3) := by decide +kernel
theorem dX12_view_20 : decode cX12_view 20 = .ok (.iload_n 3, 1) := by decide +kernel
theorem dX12_view_21 : decode cX12_view 21 = .ok (.baload, 1) := by decide +kernel
theorem dX12_view_22 : decode cX12_view 22 = .ok (.istore 4, 2) := by decide +kernel
theorem dX12_view_24 : decode cX12_view 24 = .ok (.iconst 0, 1) := by decide +kernel
theorem dX12_view_25 : decode cX12_view 25 = .ok (.istore 5, 2) := by decide +kernel
theorem dX12_view_27 : decode cX12_view 27 = .ok (.iload 5, 2) := by decide +kernel
theorem dX12_view_29 : decode cX12_view 29 = .ok (.iload_n 2, 1) := by decide +kernel
theorem dX12_view_30 : decode cX12_view 30 = .ok (.if_icmp .ge 36, 3) := by decide +kernel
theorem dX12_view_33 : decode cX12_view 33 = .ok (.iload 4, 2) := by decide +kernel
theorem dX12_view_35 : decode cX12_view 35 = .ok (.ifCond .eq 31, 3) := by decide +kernel
theorem dX12_view_38 : decode cX12_view 38 = .ok (.aload_n 0, 1) := by decide +kernel
theorem dX12_view_39 : decode cX12_view 39 = .ok (.aload_n 0, 1) := by decide +kernel
theorem dX12_view_40 : decode cX12_view 40 = .ok (.getfield 104, 3) := by decide +kernel
theorem dX12_view_43 : decode cX12_view 43 = .ok (.iload 5, 2) := by decide +kernel
theorem dX12_view_45 : decode cX12_view 45 = .ok (.iaload, 1) := by decide +kernel
theorem dX12_view_46 : decode cX12_view 46 = .ok (.iload_n 3, 1) := by decide +kernel
theorem dX12_view_47 : decode cX12_view 47 = .ok (.invokevirtual 346, 3) := by decide +kernel
theorem dX12_view_50 : decode cX12_view 50 = .ok (.ifCond .ne 7, 3) := by decide +kernel
theorem dX12_view_53 : decode cX12_view 53 = .ok (.iconst 1, 1) := by decide +kernel
theorem dX12_view_54 : decode cX12_view 54 = .ok (.goto 4, 3) := by decide +kernel
theorem dX12_view_57 : decode cX12_view 57 = .ok (.iconst 0, 1) := by decide +kernel
theorem dX12_view_58 : decode cX12_view 58 = .ok (.istore 4, 2) := by decide +kernel
theorem dX12_view_60 : decode cX12_view 60 = .ok (.iinc 5 1, 3) := by decide +kernel
theorem dX12_view_63 : decode cX12_view 63 = .ok (.goto (-36), 3) := by decide +kernel
theorem dX12_view_66 : decode cX12_view 66 = .ok (.iload 4, 2) := by decide +kernel
theorem dX12_view_68 : decode cX12_view 68 = .ok (.ifCond .eq 13, 3) := by decide +kernel
theorem dX12_view_71 : decode cX12_view 71 = .ok (.aload_n 0, 1) := by decide +kernel
theorem dX12_view_72 : decode cX12_view 72 = .ok (.getfield 104, 3) := by decide +kernel
theorem dX12_view_75 : decode cX12_view 75 = .ok (.iload_n 2, 1) := by decide +kernel
theorem dX12_view_76 : decode cX12_view 76 = .ok (.iload_n 3, 1) := by decide +kernel
theorem dX12_view_77 : decode cX12_view 77 = .ok (.iastore, 1) := by decide +kernel
theorem dX12_view_78 : decode cX12_view 78 = .ok (.iinc 2 1, 3) := by decide +kernel
theorem dX12_view_81 : decode cX12_view 81 = .ok (.iinc 3 1, 3) := by decide +kernel
theorem dX12_view_84 : decode cX12_view 84 = .ok (.goto (-76), 3) := by decide +kernel
theorem dX12_view_87 : decode cX12_view 87 = .ok (.iload_n 1, 1) := by decide +kernel
theorem dX12_view_88 : decode cX12_view 88 = .ok (.iconst (-1), 1) := by decide +kernel
theorem dX12_view_89 : decode cX12_view 89 = .ok (.if_icmp .ne 7, 3) := by decide +kernel
theorem dX12_view_92 : decode cX12_view 92 = .ok (.iload_n 2, 1) := by decide +kernel
theorem dX12_view_93 : decode cX12_view 93 = .ok (.goto 26, 3) := by decide +kernel
theorem dX12_view_96 : decode cX12_view 96 = .ok (.iload_n 1, 1) := by decide +kernel
theorem dX12_view_97 : decode cX12_view 97 = .ok (.i2l, 1) := by decide +kernel
theorem dX12_view_98 : decode cX12_view 98 = .ok (.lconst 0, 1) := by decide +kernel
theorem dX12_view_99 : decode cX12_view 99 = .ok (.iload_n 2, 1) := by decide +kernel
theorem dX12_view_100 : decode cX12_view 100 = .ok (.iconst 1, 1) := by decide +kernel
theorem dX12_view_101 : decode cX12_view 101 = .ok (.isub, 1) := by decide +kernel
theorem dX12_view_102 : decode cX12_view 102 = .ok (.i2l, 1) := by decide +kernel
theorem dX12_view_103 : decode cX12_view 103 = .ok (.invokestatic 144, 3) := by decide +kernel
theorem dX12_view_106 : decode cX12_view 106 = .ok (.ifCond .eq 12, 3) := by decide +kernel
theorem dX12_view_109 : decode cX12_view 109 = .ok (.aload_n 0, 1) := by decide +kernel
theorem dX12_view_110 : decode cX12_view 110 = .ok (.getfield 104, 3) := by decide +kernel
theorem dX12_view_113 : decode cX12_view 113 = .ok (.iload_n 1, 1) := by decide +kernel
theorem dX12_view_114 : decode cX12_view 114 = .ok (.iaload, 1) := by decide +kernel
theorem dX12_view_115 : decode cX12_view 115 = .ok (.goto 4, 3) := by decide +kernel
theorem dX12_view_118 : decode cX12_view 118 = .ok (.iconst (-1), 1) := by decide +kernel
theorem dX12_view_119 : decode cX12_view 119 = .ok (.ireturn, 1) := by decide +kernel
theorem dX12_stands_0 : decode cX12_stands 0 = .ok (.iconst 0, 1) := by decide +kernel
theorem dX12_stands_1 : decode cX12_stands 1 = .ok (.istore_n 3, 1) := by decide +kernel
theorem dX12_stands_2 : decode cX12_stands 2 = .ok (.iconst 0, 1) := by decide +kernel
theorem dX12_stands_3 : decode cX12_stands 3 = .ok (.istore 4, 2) := by decide +kernel
theorem dX12_stands_5 : decode cX12_stands 5 = .ok (.iload 4, 2) := by decide +kernel
theorem dX12_stands_7 : decode cX12_stands 7 = .ok (.aload_n 0, 1) := by decide +kernel
theorem dX12_stands_8 : decode cX12_stands 8 = .ok (.getfield 94, 3) := by decide +kernel
theorem dX12_stands_11 : decode cX12_stands 11 = .ok (.iload_n 1, 1) := by decide +kernel
theorem dX12_stands_12 : decode cX12_stands 12 = .ok (.iaload, 1) := by decide +kernel
theorem dX12_stands_13 : decode cX12_stands 13 = .ok (.if_icmp .ge 35, 3) := by decide +kernel
theorem dX12_stands_16 : decode cX12_stands 16 = .ok (.iload_n 3, 1) := by decide +kernel
theorem dX12_stands_17 : decode cX12_stands 17 = .ok (.ifCond .ne 19, 3) := by decide +kernel
theorem dX12_stands_20 : decode cX12_stands 20 = .ok (.aload_n 0, 1) := by decide +kernel
theorem dX12_stands_21 : decode cX12_stands 21 = .ok (.getfield 98, 3) := by decide +kernel
theorem dX12_stands_24 : decode cX12_stands 24 = .ok (.bipush 40, 2) := by decide +kernel
theorem dX12_stands_26 : decode cX12_stands 26 = .ok (.iload_n 1, 1) := by decide +kernel
theorem dX12_stands_27 : decode cX12_stands 27 = .ok (.imul, 1) := by decide +kernel
theorem dX12_stands_28 : decode cX12_stands 28 = .ok (.iload 4, 2) := by decide +kernel
theorem dX12_stands_30 : decode cX12_stands 30 = .ok (.iadd, 1) := by decide +kernel
theorem dX12_stands_31 : decode cX12_stands 31 = .ok (.iaload, 1) := by decide +kernel
theorem dX12_stands_32 : decode cX12_stands 32 = .ok (.iload_n 2, 1) := by decide +kernel
theorem dX12_stands_33 : decode cX12_stands 33 = .ok (.if_icmp .ne 7, 3) := by decide +kernel
theorem dX12_stands_36 : decode cX12_stands 36 = .ok (.iconst 1, 1) := by decide +kernel
theorem dX12_stands_37 : decode cX12_stands 37 = .ok (.goto 4, 3) := by decide +kernel
theorem dX12_stands_40 : decode cX12_stands 40 = .ok (.iconst 0, 1) := by decide +kernel
theorem dX12_stands_41 : decode cX12_stands 41 = .ok (.istore_n 3, 1) := by decide +kernel
theorem dX12_stands_42 : decode cX12_stands 42 = .ok (.iinc 4 1, 3) := by decide +kernel
theorem dX12_stands_45 : decode cX12_stands 45 = .ok (.goto (-40), 3) := by decide +kernel
theorem dX12_stands_48 : decode cX12_stands 48 = .ok (.iload_n 3, 1) := by decide +kernel
theorem dX12_stands_49 : decode cX12_stands 49 = .ok (.ireturn, 1) := by decide +kernel
theorem dX12_word_0 : decode cX12_word 0 = .ok (.iload_n 1, 1) := by decide +kernel
theorem dX12_word_1 : decode cX12_word 1 = .ok (.i2l, 1) := by decide +kernel
theorem dX12_word_2 : decode cX12_word 2 = .ok (.lconst 0, 1) := by decide +kernel
theorem dX12_word_3 : decode cX12_word 3 = .ok (.ldc2_w 349, 3) := by decide +kernel
theorem dX12_word_6 : decode cX12_word 6 = .ok (.invokestatic 144, 3) := by decide +kernel
theorem dX12_word_9 : decode cX12_word 9 = .ok (.ifCond .eq 15, 3) := by decide +kernel
theorem dX12_word_12 : decode cX12_word 12 = .ok (.iload_n 2, 1) := by decide +kernel
theorem dX12_word_13 : decode cX12_word 13 = .ok (.i2l, 1) := by decide +kernel
theorem dX12_word_14 : decode cX12_word 14 = .ok (.lconst 0, 1) := by decide +kernel
theorem dX12_word_15 : decode cX12_word 15 = .ok (.ldc2_w 351, 3) := by decide +kernel
theorem dX12_word_18 : decode cX12_word 18 = .ok (.invokestatic 144, 3) := by decide +kernel
theorem dX12_word_21 : decode cX12_word 21 = .ok (.ifCond .ne 7, 3) := by decide +kernel
theorem dX12_word_24 : decode cX12_word 24 = .ok (.sipush (-1002), 3) := by decide +kernel
theorem dX12_word_27 : decode cX12_word 27 = .ok (.ireturn, 1) := by decide +kernel
theorem dX12_word_28 : decode cX12_word 28 = .ok (.aload_n 0, 1) := by decide +kernel
theorem dX12_word_29 : decode cX12_word 29 = .ok (.invokevirtual 340, 3) := by decide +kernel
theorem dX12_word_32 : decode cX12_word 32 = .ok (.iload_n 2, 1) := by decide +kernel
theorem dX12_word_33 : decode cX12_word 33 = .ok (.iconst 2, 1) := by decide +kernel
theorem dX12_word_34 : decode cX12_word 34 = .ok (.if_icmp .ge 29, 3) := by decide +kernel
theorem dX12_word_37 : decode cX12_word 37 = .ok (.aload_n 0, 1) := by decide +kernel
theorem dX12_word_38 : decode cX12_word 38 = .ok (.iload_n 2, 1) := by decide +kernel
theorem dX12_word_39 : decode cX12_word 39 = .ok (.ifCond .ne 7, 3) := by decide +kernel
theorem dX12_word_42 : decode cX12_word 42 = .ok (.iconst 0, 1) := by decide +kernel
theorem dX12_word_43 : decode cX12_word 43 = .ok (.goto 7, 3) := by decide +kernel
theorem dX12_word_46 : decode cX12_word 46 = .ok (.aload_n 0, 1) := by decide +kernel
theorem dX12_word_47 : decode cX12_word 47 = .ok (.invokevirtual 148, 3) := by decide +kernel
theorem dX12_word_50 : decode cX12_word 50 = .ok (.iload_n 1, 1) := by decide +kernel
theorem dX12_word_51 : decode cX12_word 51 = .ok (.invokevirtual 353, 3) := by decide +kernel
theorem dX12_word_54 : decode cX12_word 54 = .ok (.ifCond .eq 7, 3) := by decide +kernel
theorem dX12_word_57 : decode cX12_word 57 = .ok (.iconst 1, 1) := by decide +kernel
theorem dX12_word_58 : decode cX12_word 58 = .ok (.goto 4, 3) := by decide +kernel
theorem dX12_word_61 : decode cX12_word 61 = .ok (.iconst 0, 1) := by decide +kernel
theorem dX12_word_62 : decode cX12_word 62 = .ok (.ireturn, 1) := by decide +kernel
theorem dX12_word_63 : decode cX12_word 63 = .ok (.iconst (-1), 1) := by decide +kernel
theorem dX12_word_64 : decode cX12_word 64 = .ok (.istore_n 3, 1) := by decide +kernel
theorem dX12_word_65 : decode cX12_word 65 = .ok (.iconst (-1), 1) := by decide +kernel
theorem dX12_word_66 : decode cX12_word 66 = .ok (.istore 4, 2) := by decide +kernel
theorem dX12_word_68 : decode cX12_word 68 = .ok (.iconst 0, 1) := by decide +kernel
theorem dX12_word_69 : decode cX12_word 69 = .ok (.istore 5, 2) := by decide +kernel
theorem dX12_word_71 : decode cX12_word 71 = .ok (.iconst 0, 1) := by decide +kernel
theorem dX12_word_72 : decode cX12_word 72 = .ok (.istore 6, 2) := by decide +kernel
theorem dX12_word_74 : decode cX12_word 74 = .ok (.iload 6, 2) := by decide +kernel
theorem dX12_word_76 : decode cX12_word 76 = .ok (.aload_n 0, 1) := by decide +kernel
theorem dX12_word_77 : decode cX12_word 77 = .ok (.invokevirtual 148, 3) := by decide +kernel
theorem dX12_word_80 : decode cX12_word 80 = .ok (.if_icmp .gt 72, 3) := by decide +kernel
theorem dX12_word_83 : decode cX12_word 83 = .ok (.aload_n 0, 1) := by decide +kernel
theorem dX12_word_84 : decode cX12_word 84 = .ok (.getfield 75, 3) := by decide +kernel
theorem dX12_word_87 : decode cX12_word 87 = .ok (.iload 6, 2) := by decide +kernel
theorem dX12_word_89 : decode cX12_word 89 = .ok (.baload, 1) := by decide +kernel
theorem dX12_word_90 : decode cX12_word 90 = .ok (.ifCond .eq 56, 3) := by decide +kernel
theorem dX12_word_93 : decode cX12_word 93 = .ok (.aload_n 0, 1) := by decide +kernel
theorem dX12_word_94 : decode cX12_word 94 = .ok (.iload 6, 2) := by decide +kernel
theorem dX12_word_96 : decode cX12_word 96 = .ok (.iload_n 1, 1) := by decide +kernel
theorem dX12_word_97 : decode cX12_word 97 = .ok (.invokevirtual 353, 3) := by decide +kernel
theorem dX12_word_100 : decode cX12_word 100 = .ok (.ifCond .eq 46, 3) := by decide +kernel
theorem dX12_word_103 : decode cX12_word 103 = .ok (.iload 6, 2) := by decide +kernel
theorem dX12_word_105 : decode cX12_word 105 = .ok (.invokestatic 301, 3) := by decide +kernel
theorem dX12_word_108 : decode cX12_word 108 = .ok (.istore 7, 2) := by decide +kernel
theorem dX12_word_110 : decode cX12_word 110 = .ok (.iload_n 3, 1) := by decide +kernel
theorem dX12_word_111 : decode cX12_word 111 = .ok (.ifCond .lt 9, 3) := by decide +kernel
theorem dX12_word_114 : decode cX12_word 114 = .ok (.iload 7, 2) := by decide +kernel
theorem dX12_word_116 : decode cX12_word 116 = .ok (.iload_n 3, 1) := by decide +kernel
theorem dX12_word_117 : decode cX12_word 117 = .ok (.if_icmp .ge 8, 3) := by decide +kernel
theorem dX12_word_120 : decode cX12_word 120 = .ok (.iload 7, 2) := by decide +kernel
theorem dX12_word_122 : decode cX12_word 122 = .ok (.goto 4, 3) := by decide +kernel
theorem dX12_word_125 : decode cX12_word 125 = .ok (.iload_n 3, 1) := by decide +kernel
theorem dX12_word_126 : decode cX12_word 126 = .ok (.istore_n 3, 1) := by decide +kernel
theorem dX12_word_127 : decode cX12_word 127 = .ok (.iload 7, 2) := by decide +kernel
theorem dX12_word_129 : decode cX12_word 129 = .ok (.iload 4, 2) := by decide +kernel
theorem dX12_word_131 : decode cX12_word 131 = .ok (.if_icmp .le 8, 3) := by decide +kernel
theorem dX12_word_134 : decode cX12_word 134 = .ok (.iload 7, 2) := by decide +kernel
theorem dX12_word_136 : decode cX12_word 136 = .ok (.goto 5, 3) := by decide +kernel
theorem dX12_word_139 : decode cX12_word 139 = .ok (.iload 4, 2) := by decide +kernel
theorem dX12_word_141 : decode cX12_word 141 = .ok (.istore 4, 2) := by decide +kernel
theorem dX12_word_143 : decode cX12_word 143 = .ok (.iinc 5 1, 3) := by decide +kernel
theorem dX12_word_146 : decode cX12_word 146 = .ok (.iinc 6 1, 3) := by decide +kernel
theorem dX12_word_149 : decode cX12_word 149 = .ok (.goto (-75), 3) := by decide +kernel
theorem dX12_word_152 : decode cX12_word 152 = .ok (.iload_n 2, 1) := by decide +kernel
theorem dX12_word_153 : decode cX12_word 153 = .ok (.iconst 2, 1) := by decide +kernel
theorem dX12_word_154 : decode cX12_word 154 = .ok (.if_icmp .ne 7, 3) := by decide +kernel
theorem dX12_word_157 : decode cX12_word 157 = .ok (.iload_n 3, 1) := by decide +kernel
theorem dX12_word_158 : decode cX12_word 158 = .ok (.goto 15, 3) := by decide +kernel
theorem dX12_word_161 : decode cX12_word 161 = .ok (.iload_n 2, 1) := by decide +kernel
theorem dX12_word_162 : decode cX12_word 162 = .ok (.iconst 3, 1) := by decide +kernel
theorem dX12_word_163 : decode cX12_word 163 = .ok (.if_icmp .ne 8, 3) := by decide +kernel
theorem dX12_word_166 : decode cX12_word 166 = .ok (.iload 4, 2) := by decide +kernel
theorem dX12_word_168 : decode cX12_word 168 = .ok (.goto 5, 3) := by decide +kernel
theorem dX12_word_171 : decode cX12_word 171 = .ok (.iload 5, 2) := by decide +kernel
theorem dX12_word_173 : decode cX12_word 173 = .ok (.ireturn, 1) := by decide +kernel
theorem dX12_idle_0 : decode cX12_idle 0 = .ok (.aload_n 0, 1) := by decide +kernel
theorem dX12_idle_1 : decode cX12_idle 1 = .ok (.invokevirtual 340, 3) := by decide +kernel
theorem dX12_idle_4 : decode cX12_idle 4 = .ok (.aload_n 0, 1) := by decide +kernel
theorem dX12_idle_5 : decode cX12_idle 5 = .ok (.invokevirtual 148, 3) := by decide +kernel
theorem dX12_idle_8 : decode cX12_idle 8 = .ok (.istore_n 1, 1) := by decide +kernel
theorem dX12_idle_9 : decode cX12_idle 9 = .ok (.iconst 0, 1) := by decide +kernel
theorem dX12_idle_10 : decode cX12_idle 10 = .ok (.istore_n 2, 1) := by decide +kernel
theorem dX12_idle_11 : decode cX12_idle 11 = .ok (.iload_n 2, 1) := by decide +kernel
theorem dX12_idle_12 : decode cX12_idle 12 = .ok (.aload_n 0, 1) := by decide +kernel
theorem dX12_idle_13 : decode cX12_idle 13 = .ok (.invokevirtual 148, 3) := by decide +kernel
theorem dX12_idle_16 : decode cX12_idle 16 = .ok (.if_icmp .gt 76, 3) := by decide +kernel
theorem dX12_idle_19 : decode cX12_idle 19 = .ok (.iconst 0, 1) := by decide +kernel
theorem dX12_idle_20 : decode cX12_idle 20 = .ok (.istore_n 3, 1) := by decide +kernel
theorem dX12_idle_21 : decode cX12_idle 21 = .ok (.iload_n 3, 1) := by decide +kernel
theorem dX12_idle_22 : decode cX12_idle 22 = .ok (.aload_n 0, 1) := by decide +kernel
theorem dX12_idle_23 : decode cX12_idle 23 = .ok (.getfield 141, 3) := by decide +kernel
theorem dX12_idle_26 : decode cX12_idle 26 = .ok (.if_icmp .ge 60, 3) := by decide +kernel
theorem dX12_idle_29 : decode cX12_idle 29 = .ok (.aload_n 0, 1) := by decide +kernel
theorem dX12_idle_30 : decode cX12_idle 30 = .ok (.getfield 75, 3) := by decide +kernel
theorem dX12_idle_33 : decode cX12_idle 33 = .ok (.iload_n 2, 1) := by decide +kernel
theorem dX12_idle_34 : decode cX12_idle 34 = .ok (.baload, 1) := by decide +kernel
theorem dX12_idle_35 : decode cX12_idle 35 = .ok (.ifCond .eq 51, 3) := by decide +kernel
theorem dX12_idle_38 : decode cX12_idle 38 = .ok (.aload_n 0, 1) := by decide +kernel
theorem dX12_idle_39 : decode cX12_idle 39 = .ok (.getfield 78, 3) := by decide +kernel
theorem dX12_idle_42 : decode cX12_idle 42 = .ok (.iload_n 2, 1) := by decide +kernel
theorem dX12_idle_43 : decode cX12_idle 43 = .ok (.iaload, 1) := by decide +kernel
theorem dX12_idle_44 : decode cX12_idle 44 = .ok (.iload_n 3, 1) := by decide +kernel
theorem dX12_idle_45 : decode cX12_idle 45 = .ok (.invokestatic 189, 3) := by decide +kernel
theorem dX12_idle_48 : decode cX12_idle 48 = .ok (.ifCond .eq 32, 3) := by decide +kernel
theorem dX12_idle_51 : decode cX12_idle 51 = .ok (.iload_n 1, 1) := by decide +kernel
theorem dX12_idle_52 : decode cX12_idle 52 = .ok (.iload_n 3, 1) := by decide +kernel
theorem dX12_idle_53 : decode cX12_idle 53 = .ok (.invokestatic 189, 3) := by decide +kernel
theorem dX12_idle_56 : decode cX12_idle 56 = .ok (.ifCond .eq 24, 3) := by decide +kernel
theorem dX12_idle_59 : decode cX12_idle 59 = .ok (.aload_n 0, 1) := by decide +kernel
theorem dX12_idle_60 : decode cX12_idle 60 = .ok (.iload_n 2, 1) := by decide +kernel
theorem dX12_idle_61 : decode cX12_idle 61 = .ok (.iload_n 2, 1) := by decide +kernel
theorem dX12_idle_62 : decode cX12_idle 62 = .ok (.iconst 1, 1) := by decide +kernel
theorem dX12_idle_63 : decode cX12_idle 63 = .ok (.iload_n 3, 1) := by decide +kernel
theorem dX12_idle_64 : decode cX12_idle 64 = .ok (.ishl, 1) := by decide +kernel
theorem dX12_idle_65 : decode cX12_idle 65 = .ok (.ior, 1) := by decide +kernel
theorem dX12_idle_66 : decode cX12_idle 66 = .ok (.invokevirtual 346, 3) := by decide +kernel
theorem dX12_idle_69 : decode cX12_idle 69 = .ok (.ifCond .ne 11, 3) := by decide +kernel
theorem dX12_idle_72 : decode cX12_idle 72 = .ok (.iload_n 1, 1) := by decide +kernel
theorem dX12_idle_73 : decode cX12_idle 73 = .ok (.iconst 1, 1) := by decide +kernel
theorem dX12_idle_74 : decode cX12_idle 74 = .ok (.iload_n 3, 1) := by decide +kernel
theorem dX12_idle_75 : decode cX12_idle 75 = .ok (.ishl, 1) := by decide +kernel
theorem dX12_idle_76 : decode cX12_idle 76 = .ok (.iconst (-1), 1) := by decide +kernel
theorem dX12_idle_77 : decode cX12_idle 77 = .ok (.ixor, 1) := by decide +kernel
theorem dX12_idle_78 : decode cX12_idle 78 = .ok (.iand, 1) := by decide +kernel
theorem dX12_idle_79 : decode cX12_idle 79 = .ok (.istore_n 1, 1) := by decide +kernel
theorem dX12_idle_80 : decode cX12_idle 80 = .ok (.iinc 3 1, 3) := by decide +kernel
theorem dX12_idle_83 : decode cX12_idle 83 = .ok (.goto (-62), 3) := by decide +kernel
theorem dX12_idle_86 : decode cX12_idle 86 = .ok (.iinc 2 1, 3) := by decide +kernel
theorem dX12_idle_89 : decode cX12_idle 89 = .ok (.goto (-78), 3) := by decide +kernel
theorem dX12_idle_92 : decode cX12_idle 92 = .ok (.iload_n 1, 1) := by decide +kernel
theorem dX12_idle_93 : decode cX12_idle 93 = .ok (.ireturn, 1) := by decide +kernel
theorem dX12_distance_0 : decode cX12_distance 0 = .ok (.iconst 0, 1) := by decide +kernel
theorem dX12_distance_1 : decode cX12_distance 1 = .ok (.istore_n 3, 1) := by decide +kernel
theorem dX12_distance_2 : decode cX12_distance 2 = .ok (.iload_n 3, 1) := by decide +kernel
theorem dX12_distance_3 : decode cX12_distance 3 = .ok (.iload_n 2, 1) := by decide +kernel
theorem dX12_distance_4 : decode cX12_distance 4 = .ok (.if_icmp .gt 16, 3) := by decide +kernel
theorem dX12_distance_7 : decode cX12_distance 7 = .ok (.aload_n 0, 1) := by decide +kernel
theorem dX12_distance_8 : decode cX12_distance 8 = .ok (.getfield 113, 3) := by decide +kernel
theorem dX12_distance_11 : decode cX12_distance 11 = .ok (.iload_n 3, 1) := by decide +kernel
theorem dX12_distance_12 : decode cX12_distance 12 = .ok (.iload_n 3, 1) := by decide +kernel
theorem dX12_distance_13 : decode cX12_distance 13 = .ok (.iastore, 1) := by decide +kernel
theorem dX12_distance_14 : decode cX12_distance 14 = .ok (.iinc 3 1, 3) := by decide +kernel
theorem dX12_distance_17 : decode cX12_distance 17 = .ok (.goto (-15), 3) := by decide +kernel
theorem dX12_distance_20 : decode cX12_distance 20 = .ok (.iconst 1, 1) := by decide +kernel
theorem dX12_distance_21 : decode cX12_distance 21 = .ok (.istore_n 3, 1) := by decide +kernel
theorem dX12_distance_22 : decode cX12_distance 22 = .ok (.iload_n 3, 1) := by decide +kernel
theorem dX12_distance_23 : decode cX12_distance 23 = .ok (.iload_n 1, 1) := by decide +kernel
theorem dX12_distance_24 : decode cX12_distance 24 = .ok (.if_icmp .gt 145, 3) := by decide +kernel
theorem dX12_distance_27 : decode cX12_distance 27 = .ok (.aload_n 0, 1) := by decide +kernel
theorem dX12_distance_28 : decode cX12_distance 28 = .ok (.getfield 113, 3) := by decide +kernel
theorem dX12_distance_31 : decode cX12_distance 31 = .ok (.iconst 0, 1) := by decide +kernel
theorem dX12_distance_32 : decode cX12_distance 32 = .ok (.iaload, 1) := by decide +kernel
theorem dX12_distance_33 : decode cX12_distance 33 = .ok (.istore 4, 2) := by decide +kernel
theorem dX12_distance_35 : decode cX12_distance 35 = .ok (.aload_n 0, 1) := by decide +kernel
theorem dX12_distance_36 : decode cX12_distance 36 = .ok (.getfield 113, 3) := by decide +kernel
theorem dX12_distance_39 : decode cX12_distance 39 = .ok (.iconst 0, 1) := by decide +kernel
theorem dX12_distance_40 : decode cX12_distance 40 = .ok (.iload_n 3, 1) := by decide +kernel
theorem dX12_distance_41 : decode cX12_distance 41 = .ok (.iastore, 1) := by decide +kernel
theorem dX12_distance_42 : decode cX12_distance 42 = .ok (.iconst 1, 1) := by decide +kernel
theorem dX12_distance_43 : decode cX12_distance 43 = .ok (.istore 5, 2) := by decide +kernel
theorem dX12_distance_45 : decode cX12_distance 45 = .ok (.iload 5, 2) := by decide +kernel
theorem dX12_distance_47 : decode cX12_distance 47 = .ok (.iload_n 2, 1) := by decide +kernel
theorem dX12_distance_48 : decode cX12_distance 48 = .ok (.if_icmp .gt 115, 3) := by decide +kernel
theorem dX12_distance_51 : decode cX12_distance 51 = .ok (.aload_n 0, 1) := by decide +kernel
theorem dX12_distance_52 : decode cX12_distance 52 = .ok (.getfield 113, 3) := by decide +kernel
theorem dX12_distance_55 : decode cX12_distance 55 = .ok (.iload 5, 2) := by decide +kernel
theorem dX12_distance_57 : decode cX12_distance 57 = .ok (.iaload, 1) := by decide +kernel
theorem dX12_distance_58 : decode cX12_distance 58 = .ok (.istore 6, 2) := by decide +kernel
theorem dX12_distance_60 : decode cX12_distance 60 = .ok (.iload 4, 2) := by decide +kernel
theorem dX12_distance_62 : decode cX12_distance 62 = .ok (.aload_n 0, 1) := by decide +kernel
theorem dX12_distance_63 : decode cX12_distance 63 = .ok (.getfield 107, 3) := by decide +kernel
theorem dX12_distance_66 : decode cX12_distance 66 = .ok (.iload_n 3, 1) := by decide +kernel
theorem dX12_distance_67 : decode cX12_distance 67 = .ok (.iconst 1, 1) := by decide +kernel
theorem dX12_distance_68 : decode cX12_distance 68 = .ok (.isub, 1) := by decide +kernel
theorem dX12_distance_69 : decode cX12_distance 69 = .ok (.iaload, 1) := by decide +kernel
theorem dX12_distance_70 : decode cX12_distance 70 = .ok (.aload_n 0, 1) := by decide +kernel
theorem dX12_distance_71 : decode cX12_distance 71 = .ok (.getfield 110, 3) := by decide +kernel
theorem dX12_distance_74 : decode cX12_distance 74 = .ok (.iload 5, 2) := by decide +kernel
theorem dX12_distance_76 : decode cX12_distance 76 = .ok (.iconst 1, 1) := by decide +kernel
theorem dX12_distance_77 : decode cX12_distance 77 = .ok (.isub, 1) := by decide +kernel
theorem dX12_distance_78 : decode cX12_distance 78 = .ok (.iaload, 1) := by decide +kernel
theorem dX12_distance_79 : decode cX12_distance 79 = .ok (.if_icmp .ne 7, 3) := by decide +kernel
theorem dX12_distance_82 : decode cX12_distance 82 = .ok (.iconst 0, 1) := by decide +kernel
theorem dX12_distance_83 : decode cX12_distance 83 = .ok (.goto 4, 3) := by decide +kernel
theorem dX12_distance_86 : decode cX12_distance 86 = .ok (.iconst 1, 1) := by decide +kernel
theorem dX12_distance_87 : decode cX12_distance 87 = .ok (.iadd, 1) := by decide +kernel
theorem dX12_distance_88 : decode cX12_distance 88 = .ok (.istore 7, 2) := by decide +kernel
theorem dX12_distance_90 : decode cX12_distance 90 = .ok (.iload 6, 2) := by decide +kernel
theorem dX12_distance_92 : decode cX12_distance 92 = .ok (.iconst 1, 1) := by decide +kernel
theorem dX12_distance_93 : decode cX12_distance 93 = .ok (.iadd, 1) := by decide +kernel
theorem dX12_distance_94 : decode cX12_distance 94 = .ok (.iload 7, 2) := by decide +kernel
theorem dX12_distance_96 : decode cX12_distance 96 = .ok (.if_icmp .ge 10, 3) := by decide +kernel
theorem dX12_distance_99 : decode cX12_distance 99 = .ok (.iload 6, 2) := by decide +kernel
theorem dX12_distance_101 : decode cX12_distance 101 = .ok (.iconst 1, 1) := by decide +kernel
theorem dX12_distance_102 : decode cX12_distance 102 = .ok (.iadd, 1) := by decide +kernel
theorem dX12_distance_103 : decode cX12_distance 103 = .ok (.goto 5, 3) := by decide +kernel
theorem dX12_distance_106 : decode cX12_distance 106 = .ok (.iload 7, 2) := by decide +kernel
theorem dX12_distance_108 : decode cX12_distance 108 = .ok (.istore 7, 2) := by decide +kernel
theorem dX12_distance_110 : decode cX12_distance 110 = .ok (.aload_n 0, 1) := by decide +kernel
theorem dX12_distance_111 : decode cX12_distance 111 = .ok (.getfield 113, 3) := by decide +kernel
theorem dX12_distance_114 : decode cX12_distance 114 = .ok (.iload 5, 2) := by decide +kernel
theorem dX12_distance_116 : decode cX12_distance 116 = .ok (.iconst 1, 1) := by decide +kernel
theorem dX12_distance_117 : decode cX12_distance 117 = .ok (.isub, 1) := by decide +kernel
theorem dX12_distance_118 : decode cX12_distance 118 = .ok (.iaload, 1) := by decide +kernel
theorem dX12_distance_119 : decode cX12_distance 119 = .ok (.iconst 1, 1) := by decide +kernel
theorem dX12_distance_120 : decode cX12_distance 120 = .ok (.iadd, 1) := by decide +kernel
theorem dX12_distance_121 : decode cX12_distance 121 = .ok (.iload 7, 2) := by decide +kernel
theorem dX12_distance_123 : decode cX12_distance 123 = .ok (.if_icmp .ge 17, 3) := by decide +kernel
theorem dX12_distance_126 : decode cX12_distance 126 = .ok (.aload_n 0, 1) := by decide +kernel
theorem dX12_distance_127 : decode cX12_distance 127 = .ok (.getfield 113, 3) := by decide +kernel
theorem dX12_distance_130 : decode cX12_distance 130 = .ok (.iload 5, 2) := by decide +kernel
theorem dX12_distance_132 : decode cX12_distance 132 = .ok (.iconst 1, 1) := by decide +kernel
theorem dX12_distance_133 : decode cX12_distance 133 = .ok (.isub, 1) := by decide +kernel
theorem dX12_distance_134 : decode cX12_distance 134 = .ok (.iaload, 1) := by decide +kernel
theorem dX12_distance_135 : decode cX12_distance 135 = .ok (.iconst 1, 1) := by decide +kernel
theorem dX12_distance_136 : decode cX12_distance 136 = .ok (.iadd, 1) := by decide +kernel
theorem dX12_distance_137 : decode cX12_distance 137 = .ok (.goto 5, 3) := by decide +kernel
theorem dX12_distance_140 : decode cX12_distance 140 = .ok (.iload 7, 2) := by decide +kernel
theorem dX12_distance_142 : decode cX12_distance 142 = .ok (.istore 7, 2) := by decide +kernel
theorem dX12_distance_144 : decode cX12_distance 144 = .ok (.aload_n 0, 1) := by decide +kernel
theorem dX12_distance_145 : decode cX12_distance 145 = .ok (.getfield 113, 3) := by decide +kernel
theorem dX12_distance_148 : decode cX12_distance 148 = .ok (.iload 5, 2) := by decide +kernel
theorem dX12_distance_150 : decode cX12_distance 150 = .ok (.iload 7, 2) := by decide +kernel
theorem dX12_distance_152 : decode cX12_distance 152 = .ok (.iastore, 1) := by decide +kernel
theorem dX12_distance_153 : decode cX12_distance 153 = .ok (.iload 6, 2) := by decide +kernel
theorem dX12_distance_155 : decode cX12_distance 155 = .ok (.istore 4, 2) := by decide +kernel
theorem dX12_distance_157 : decode cX12_distance 157 = .ok (.iinc 5 1, 3) := by decide +kernel
theorem dX12_distance_160 : decode cX12_distance 160 = .ok (.goto (-115), 3) := by decide +kernel
theorem dX12_distance_163 : decode cX12_distance 163 = .ok (.iinc 3 1, 3) := by decide +kernel
theorem dX12_distance_166 : decode cX12_distance 166 = .ok (.goto (-144), 3) := by decide +kernel
theorem dX12_distance_169 : decode cX12_distance 169 = .ok (.aload_n 0, 1) := by decide +kernel
theorem dX12_distance_170 : decode cX12_distance 170 = .ok (.getfield 113, 3) := by decide +kernel
theorem dX12_distance_173 : decode cX12_distance 173 = .ok (.iload_n 2, 1) := by decide +kernel
theorem dX12_distance_174 : decode cX12_distance 174 = .ok (.iaload, 1) := by decide +kernel
theorem dX12_distance_175 : decode cX12_distance 175 = .ok (.ireturn, 1) := by decide +kernel
theorem dX12_fill_0 : decode cX12_fill 0 = .ok (.iconst 0, 1) := by decide +kernel
theorem dX12_fill_1 : decode cX12_fill 1 = .ok (.istore_n 3, 1) := by decide +kernel
theorem dX12_fill_2 : decode cX12_fill 2 = .ok (.iload_n 3, 1) := by decide +kernel
theorem dX12_fill_3 : decode cX12_fill 3 = .ok (.aload_n 0, 1) := by decide +kernel
theorem dX12_fill_4 : decode cX12_fill 4 = .ok (.getfield 94, 3) := by decide +kernel
theorem dX12_fill_7 : decode cX12_fill 7 = .ok (.iload_n 1, 1) := by decide +kernel
theorem dX12_fill_8 : decode cX12_fill 8 = .ok (.iaload, 1) := by decide +kernel
theorem dX12_fill_9 : decode cX12_fill 9 = .ok (.if_icmp .ge 23, 3) := by decide +kernel
theorem dX12_fill_12 : decode cX12_fill 12 = .ok (.aload_n 2, 1) := by decide +kernel
theorem dX12_fill_13 : decode cX12_fill 13 = .ok (.iload_n 3, 1) := by decide +kernel
theorem dX12_fill_14 : decode cX12_fill 14 = .ok (.aload_n 0, 1) := by decide +kernel
theorem dX12_fill_15 : decode cX12_fill 15 = .ok (.getfield 98, 3) := by decide +kernel
theorem dX12_fill_18 : decode cX12_fill 18 = .ok (.bipush 40, 2) := by decide +kernel
theorem dX12_fill_20 : decode cX12_fill 20 = .ok (.iload_n 1, 1) := by decide +kernel
theorem dX12_fill_21 : decode cX12_fill 21 = .ok (.imul, 1) := by decide +kernel
theorem dX12_fill_22 : decode cX12_fill 22 = .ok (.iload_n 3, 1) := by decide +kernel
theorem dX12_fill_23 : decode cX12_fill 23 = .ok (.iadd, 1) := by decide +kernel
theorem dX12_fill_24 : decode cX12_fill 24 = .ok (.iaload, 1) := by decide +kernel
theorem dX12_fill_25 : decode cX12_fill 25 = .ok (.iastore, 1) := by decide +kernel
theorem dX12_fill_26 : decode cX12_fill 26 = .ok (.iinc 3 1, 3) := by decide +kernel
theorem dX12_fill_29 : decode cX12_fill 29 = .ok (.goto (-27), 3) := by decide +kernel
theorem dX12_fill_32 : decode cX12_fill 32 = .ok (.aload_n 0, 1) := by decide +kernel
theorem dX12_fill_33 : decode cX12_fill 33 = .ok (.getfield 94, 3) := by decide +kernel
theorem dX12_fill_36 : decode cX12_fill 36 = .ok (.iload_n 1, 1) := by decide +kernel
theorem dX12_fill_37 : decode cX12_fill 37 = .ok (.iaload, 1) := by decide +kernel
theorem dX12_fill_38 : decode cX12_fill 38 = .ok (.ireturn, 1) := by decide +kernel
theorem dX12_apart_0 : decode cX12_apart 0 = .ok (.aload_n 0, 1) := by decide +kernel
theorem dX12_apart_1 : decode cX12_apart 1 = .ok (.iload_n 1, 1) := by decide +kernel
theorem dX12_apart_2 : decode cX12_apart 2 = .ok (.invokevirtual 310, 3) := by decide +kernel
theorem dX12_apart_5 : decode cX12_apart 5 = .ok (.ifCond .eq 11, 3) := by decide +kernel
theorem dX12_apart_8 : decode cX12_apart 8 = .ok (.aload_n 0, 1) := by decide +kernel
theorem dX12_apart_9 : decode cX12_apart 9 = .ok (.iload_n 2, 1) := by decide +kernel
theorem dX12_apart_10 : decode cX12_apart 10 = .ok (.invokevirtual 310, 3) := by decide +kernel
theorem dX12_apart_13 : decode cX12_apart 13 = .ok (.ifCond .ne 7, 3) := by decide +kernel
theorem dX12_apart_16 : decode cX12_apart 16 = .ok (.sipush (-1001), 3) := by decide +kernel
theorem dX12_apart_19 : decode cX12_apart 19 = .ok (.ireturn, 1) := by decide +kernel
theorem dX12_apart_20 : decode cX12_apart 20 = .ok (.aload_n 0, 1) := by decide +kernel
theorem dX12_apart_21 : decode cX12_apart 21 = .ok (.invokevirtual 340, 3) := by decide +kernel
theorem dX12_apart_24 : decode cX12_apart 24 = .ok (.aload_n 0, 1) := by decide +kernel
theorem dX12_apart_25 : decode cX12_apart 25 = .ok (.getfield 75, 3) := by decide +kernel
theorem dX12_apart_28 : decode cX12_apart 28 = .ok (.iload_n 1, 1) := by decide +kernel
theorem dX12_apart_29 : decode cX12_apart 29 = .ok (.baload, 1) := by decide +kernel
theorem dX12_apart_30 : decode cX12_apart 30 = .ok (.ifCond .eq 37, 3) := by decide +kernel
theorem dX12_apart_33 : decode cX12_apart 33 = .ok (.aload_n 0, 1) := by decide +kernel
theorem dX12_apart_34 : decode cX12_apart 34 = .ok (.getfield 75, 3) := by decide +kernel
theorem dX12_apart_37 : decode cX12_apart 37 = .ok (.iload_n 2, 1) := by decide +kernel
theorem dX12_apart_38 : decode cX12_apart 38 = .ok (.baload, 1) := by decide +kernel
theorem dX12_apart_39 : decode cX12_apart 39 = .ok (.ifCond .eq 28, 3) := by decide +kernel
theorem dX12_apart_42 : decode cX12_apart 42 = .ok (.aload_n 0, 1) := by decide +kernel
theorem dX12_apart_43 : decode cX12_apart 43 = .ok (.aload_n 0, 1) := by decide +kernel
theorem dX12_apart_44 : decode cX12_apart 44 = .ok (.iload_n 1, 1) := by decide +kernel
theorem dX12_apart_45 : decode cX12_apart 45 = .ok (.aload_n 0, 1) := by decide +kernel
theorem dX12_apart_46 : decode cX12_apart 46 = .ok (.getfield 107, 3) := by decide +kernel
theorem dX12_apart_49 : decode cX12_apart 49 = .ok (.invokevirtual 356, 3) := by decide +kernel
theorem dX12_apart_52 : decode cX12_apart 52 = .ok (.aload_n 0, 1) := by decide +kernel
theorem dX12_apart_53 : decode cX12_apart 53 = .ok (.iload_n 2, 1) := by decide +kernel
theorem dX12_apart_54 : decode cX12_apart 54 = .ok (.aload_n 0, 1) := by decide +kernel
theorem dX12_apart_55 : decode cX12_apart 55 = .ok (.getfield 110, 3) := by decide +kernel
theorem dX12_apart_58 : decode cX12_apart 58 = .ok (.invokevirtual 356, 3) := by decide +kernel
theorem dX12_apart_61 : decode cX12_apart 61 = .ok (.invokevirtual 360, 3) := by decide +kernel
theorem dX12_apart_64 : decode cX12_apart 64 = .ok (.goto 6, 3) := by decide +kernel
theorem dX12_apart_67 : decode cX12_apart 67 = .ok (.sipush (-1003), 3) := by decide +kernel
theorem dX12_apart_70 : decode cX12_apart 70 = .ok (.ireturn, 1) := by decide +kernel
theorem dX12_without_0 : decode cX12_without 0 = .ok (.aload_n 0, 1) := by decide +kernel
theorem dX12_without_1 : decode cX12_without 1 = .ok (.iload_n 1, 1) := by decide +kernel
theorem dX12_without_2 : decode cX12_without 2 = .ok (.invokevirtual 280, 3) := by decide +kernel
theorem dX12_without_5 : decode cX12_without 5 = .ok (.ifCond .ne 7, 3) := by decide +kernel
theorem dX12_without_8 : decode cX12_without 8 = .ok (.sipush (-1001), 3) := by decide +kernel
theorem dX12_without_11 : decode cX12_without 11 = .ok (.ireturn, 1) := by decide +kernel
theorem dX12_without_12 : decode cX12_without 12 = .ok (.aload_n 0, 1) := by decide +kernel
theorem dX12_without_13 : decode cX12_without 13 = .ok (.invokevirtual 340, 3) := by decide +kernel
theorem dX12_without_16 : decode cX12_without 16 = .ok (.aload_n 0, 1) := by decide +kernel
theorem dX12_without_17 : decode cX12_without 17 = .ok (.aload_n 0, 1) := by decide +kernel
theorem dX12_without_18 : decode cX12_without 18 = .ok (.invokevirtual 148, 3) := by decide +kernel
theorem dX12_without_21 : decode cX12_without 21 = .ok (.iconst 1, 1) := by decide +kernel
theorem dX12_without_22 : decode cX12_without 22 = .ok (.iload_n 1, 1) := by decide +kernel
theorem dX12_without_23 : decode cX12_without 23 = .ok (.ishl, 1) := by decide +kernel
theorem dX12_without_24 : decode cX12_without 24 = .ok (.iconst (-1), 1) := by decide +kernel
theorem dX12_without_25 : decode cX12_without 25 = .ok (.ixor, 1) := by decide +kernel
theorem dX12_without_26 : decode cX12_without 26 = .ok (.iand, 1) := by decide +kernel
theorem dX12_without_27 : decode cX12_without 27 = .ok (.aload_n 0, 1) := by decide +kernel
theorem dX12_without_28 : decode cX12_without 28 = .ok (.iload_n 1, 1) := by decide +kernel
theorem dX12_without_29 : decode cX12_without 29 = .ok (.invokevirtual 284, 3) := by decide +kernel
theorem dX12_without_32 : decode cX12_without 32 = .ok (.iconst (-1), 1) := by decide +kernel
theorem dX12_without_33 : decode cX12_without 33 = .ok (.ixor, 1) := by decide +kernel
theorem dX12_without_34 : decode cX12_without 34 = .ok (.iand, 1) := by decide +kernel
theorem dX12_without_35 : decode cX12_without 35 = .ok (.iload_n 2, 1) := by decide +kernel
theorem dX12_without_36 : decode cX12_without 36 = .ok (.invokevirtual 343, 3) := by decide +kernel
theorem dX12_without_39 : decode cX12_without 39 = .ok (.ireturn, 1) := by decide +kernel
theorem dX12_write_0 : decode cX12_write 0 = .ok (.iload_n 1, 1) := by decide +kernel
theorem dX12_write_1 : decode cX12_write 1 = .ok (.i2l, 1) := by decide +kernel
theorem dX12_write_2 : decode cX12_write 2 = .ok (.lconst 0, 1) := by decide +kernel
theorem dX12_write_3 : decode cX12_write 3 = .ok (.ldc2_w 349, 3) := by decide +kernel
theorem dX12_write_6 : decode cX12_write 6 = .ok (.invokestatic 144, 3) := by decide +kernel
theorem dX12_write_9 : decode cX12_write 9 = .ok (.ifCond .ne 7, 3) := by decide +kernel
theorem dX12_write_12 : decode cX12_write 12 = .ok (.sipush (-1002), 3) := by decide +kernel
theorem dX12_write_15 : decode cX12_write 15 = .ok (.ireturn, 1) := by decide +kernel
theorem dX12_write_16 : decode cX12_write 16 = .ok (.aload_n 0, 1) := by decide +kernel
theorem dX12_write_17 : decode cX12_write 17 = .ok (.getfield 292, 3) := by decide +kernel
theorem dX12_write_20 : decode cX12_write 20 = .ok (.bipush 40, 2) := by decide +kernel
theorem dX12_write_22 : decode cX12_write 22 = .ok (.if_icmp .ne 7, 3) := by decide +kernel
theorem dX12_write_25 : decode cX12_write 25 = .ok (.sipush (-1004), 3) := by decide +kernel
theorem dX12_write_28 : decode cX12_write 28 = .ok (.ireturn, 1) := by decide +kernel
theorem dX12_write_29 : decode cX12_write 29 = .ok (.aload_n 0, 1) := by decide +kernel
theorem dX12_write_30 : decode cX12_write 30 = .ok (.getfield 116, 3) := by decide +kernel
theorem dX12_write_33 : decode cX12_write 33 = .ok (.aload_n 0, 1) := by decide +kernel
theorem dX12_write_34 : decode cX12_write 34 = .ok (.getfield 292, 3) := by decide +kernel
theorem dX12_write_37 : decode cX12_write 37 = .ok (.iload_n 1, 1) := by decide +kernel
theorem dX12_write_38 : decode cX12_write 38 = .ok (.iastore, 1) := by decide +kernel
theorem dX12_write_39 : decode cX12_write 39 = .ok (.aload_n 0, 1) := by decide +kernel
theorem dX12_write_40 : decode cX12_write 40 = .ok (.dup, 1) := by decide +kernel
theorem dX12_write_41 : decode cX12_write 41 = .ok (.getfield 292, 3) := by decide +kernel
theorem dX12_write_44 : decode cX12_write 44 = .ok (.iconst 1, 1) := by decide +kernel
theorem dX12_write_45 : decode cX12_write 45 = .ok (.iadd, 1) := by decide +kernel
theorem dX12_write_46 : decode cX12_write 46 = .ok (.putfield 292, 3) := by decide +kernel
theorem dX12_write_49 : decode cX12_write 49 = .ok (.aload_n 0, 1) := by decide +kernel
theorem dX12_write_50 : decode cX12_write 50 = .ok (.getfield 292, 3) := by decide +kernel
theorem dX12_write_53 : decode cX12_write 53 = .ok (.ireturn, 1) := by decide +kernel
theorem dX12_see_0 : decode cX12_see 0 = .ok (.aload_n 0, 1) := by decide +kernel
theorem dX12_see_1 : decode cX12_see 1 = .ok (.iload_n 1, 1) := by decide +kernel
theorem dX12_see_2 : decode cX12_see 2 = .ok (.invokevirtual 310, 3) := by decide +kernel
theorem dX12_see_5 : decode cX12_see 5 = .ok (.ifCond .ne 7, 3) := by decide +kernel
theorem dX12_see_8 : decode cX12_see 8 = .ok (.sipush (-1001), 3) := by decide +kernel
theorem dX12_see_11 : decode cX12_see 11 = .ok (.ireturn, 1) := by decide +kernel
theorem dX12_see_12 : decode cX12_see 12 = .ok (.aload_n 0, 1) := by decide +kernel
theorem dX12_see_13 : decode cX12_see 13 = .ok (.invokevirtual 340, 3) := by decide +kernel
theorem dX12_see_16 : decode cX12_see 16 = .ok (.aload_n 0, 1) := by decide +kernel
theorem dX12_see_17 : decode cX12_see 17 = .ok (.getfield 75, 3) := by decide +kernel
theorem dX12_see_20 : decode cX12_see 20 = .ok (.iload_n 1, 1) := by decide +kernel
theorem dX12_see_21 : decode cX12_see 21 = .ok (.baload, 1) := by decide +kernel
theorem dX12_see_22 : decode cX12_see 22 = .ok (.ifCond .ne 7, 3) := by decide +kernel
theorem dX12_see_25 : decode cX12_see 25 = .ok (.sipush (-1003), 3) := by decide +kernel
theorem dX12_see_28 : decode cX12_see 28 = .ok (.ireturn, 1) := by decide +kernel
theorem dX12_see_29 : decode cX12_see 29 = .ok (.aload_n 0, 1) := by decide +kernel
theorem dX12_see_30 : decode cX12_see 30 = .ok (.aload_n 0, 1) := by decide +kernel
theorem dX12_see_31 : decode cX12_see 31 = .ok (.iload_n 1, 1) := by decide +kernel
theorem dX12_see_32 : decode cX12_see 32 = .ok (.aload_n 0, 1) := by decide +kernel
theorem dX12_see_33 : decode cX12_see 33 = .ok (.getfield 116, 3) := by decide +kernel
theorem dX12_see_36 : decode cX12_see 36 = .ok (.invokevirtual 356, 3) := by decide +kernel
theorem dX12_see_39 : decode cX12_see 39 = .ok (.putfield 292, 3) := by decide +kernel
theorem dX12_see_42 : decode cX12_see 42 = .ok (.aload_n 0, 1) := by decide +kernel
theorem dX12_see_43 : decode cX12_see 43 = .ok (.getfield 292, 3) := by decide +kernel
theorem dX12_see_46 : decode cX12_see 46 = .ok (.ireturn, 1) := by decide +kernel
theorem dX12_copy_0 : decode cX12_copy 0 = .ok (.aload_n 0, 1) := by decide +kernel
theorem dX12_copy_1 : decode cX12_copy 1 = .ok (.getfield 295, 3) := by decide +kernel
theorem dX12_copy_4 : decode cX12_copy 4 = .ok (.iconst 4, 1) := by decide +kernel
theorem dX12_copy_5 : decode cX12_copy 5 = .ok (.if_icmp .ne 7, 3) := by decide +kernel
theorem dX12_copy_8 : decode cX12_copy 8 = .ok (.sipush (-1004), 3) := by decide +kernel
theorem dX12_copy_11 : decode cX12_copy 11 = .ok (.ireturn, 1) := by decide +kernel
theorem dX12_copy_12 : decode cX12_copy 12 = .ok (.aload_n 0, 1) := by decide +kernel
theorem dX12_copy_13 : decode cX12_copy 13 = .ok (.getfield 119, 3) := by decide +kernel
theorem dX12_copy_16 : decode cX12_copy 16 = .ok (.aload_n 0, 1) := by decide +kernel
theorem dX12_copy_17 : decode cX12_copy 17 = .ok (.getfield 295, 3) := by decide +kernel
theorem dX12_copy_20 : decode cX12_copy 20 = .ok (.aload_n 0, 1) := by decide +kernel
theorem dX12_copy_21 : decode cX12_copy 21 = .ok (.getfield 292, 3) := by decide +kernel
theorem dX12_copy_24 : decode cX12_copy 24 = .ok (.iastore, 1) := by decide +kernel
theorem dX12_copy_25 : decode cX12_copy 25 = .ok (.iconst 0, 1) := by decide +kernel
theorem dX12_copy_26 : decode cX12_copy 26 = .ok (.istore_n 1, 1) := by decide +kernel
theorem dX12_copy_27 : decode cX12_copy 27 = .ok (.iload_n 1, 1) := by decide +kernel
theorem dX12_copy_28 : decode cX12_copy 28 = .ok (.aload_n 0, 1) := by decide +kernel
theorem dX12_copy_29 : decode cX12_copy 29 = .ok (.getfield 292, 3) := by decide +kernel
theorem dX12_copy_32 : decode cX12_copy 32 = .ok (.if_icmp .ge 29, 3) := by decide +kernel
theorem dX12_copy_35 : decode cX12_copy 35 = .ok (.aload_n 0, 1) := by decide +kernel
theorem dX12_copy_36 : decode cX12_copy 36 = .ok (.getfield 122, 3) := by decide +kernel
theorem dX12_copy_39 : decode cX12_copy 39 = .ok (.bipush 40, 2) := by decide +kernel
theorem dX12_copy_41 : decode cX12_copy 41 = .ok (.aload_n 0, 1) := by decide +kernel
theorem dX12_copy_42 : decode cX12_copy 42 = .ok (.getfield 295, 3) := by decide +kernel
theorem dX12_copy_45 : decode cX12_copy 45 = .ok (.imul, 1) := by decide +kernel
theorem dX12_copy_46 : decode cX12_copy 46 = .ok (.iload_n 1, 1) := by decide +kernel
theorem dX12_copy_47 : decode cX12_copy 47 = .ok (.iadd, 1) := by decide +kernel
theorem dX12_copy_48 : decode cX12_copy 48 = .ok (.aload_n 0, 1) := by decide +kernel
theorem dX12_copy_49 : decode cX12_copy 49 = .ok (.getfield 116, 3) := by decide +kernel
theorem dX12_copy_52 : decode cX12_copy 52 = .ok (.iload_n 1, 1) := by decide +kernel
theorem dX12_copy_53 : decode cX12_copy 53 = .ok (.iaload, 1) := by decide +kernel
theorem dX12_copy_54 : decode cX12_copy 54 = .ok (.iastore, 1) := by decide +kernel
theorem dX12_copy_55 : decode cX12_copy 55 = .ok (.iinc 1 1, 3) := by decide +kernel
theorem dX12_copy_58 : decode cX12_copy 58 = .ok (.goto (-31), 3) := by decide +kernel
theorem dX12_copy_61 : decode cX12_copy 61 = .ok (.aload_n 0, 1) := by decide +kernel
theorem dX12_copy_62 : decode cX12_copy 62 = .ok (.iconst 0, 1) := by decide +kernel
theorem dX12_copy_63 : decode cX12_copy 63 = .ok (.putfield 292, 3) := by decide +kernel
theorem dX12_copy_66 : decode cX12_copy 66 = .ok (.aload_n 0, 1) := by decide +kernel
theorem dX12_copy_67 : decode cX12_copy 67 = .ok (.dup, 1) := by decide +kernel
theorem dX12_copy_68 : decode cX12_copy 68 = .ok (.getfield 295, 3) := by decide +kernel
theorem dX12_copy_71 : decode cX12_copy 71 = .ok (.iconst 1, 1) := by decide +kernel
theorem dX12_copy_72 : decode cX12_copy 72 = .ok (.iadd, 1) := by decide +kernel
theorem dX12_copy_73 : decode cX12_copy 73 = .ok (.putfield 295, 3) := by decide +kernel
theorem dX12_copy_76 : decode cX12_copy 76 = .ok (.aload_n 0, 1) := by decide +kernel
theorem dX12_copy_77 : decode cX12_copy 77 = .ok (.getfield 295, 3) := by decide +kernel
theorem dX12_copy_80 : decode cX12_copy 80 = .ok (.iconst 1, 1) := by decide +kernel
theorem dX12_copy_81 : decode cX12_copy 81 = .ok (.isub, 1) := by decide +kernel
theorem dX12_copy_82 : decode cX12_copy 82 = .ok (.ireturn, 1) := by decide +kernel
theorem dX12_drop_0 : decode cX12_drop 0 = .ok (.aload_n 0, 1) := by decide +kernel
theorem dX12_drop_1 : decode cX12_drop 1 = .ok (.getfield 295, 3) := by decide +kernel
theorem dX12_drop_4 : decode cX12_drop 4 = .ok (.ifCond .ne 5, 3) := by decide +kernel
theorem dX12_drop_7 : decode cX12_drop 7 = .ok (.iconst (-1), 1) := by decide +kernel
theorem dX12_drop_8 : decode cX12_drop 8 = .ok (.ireturn, 1) := by decide +kernel
theorem dX12_drop_9 : decode cX12_drop 9 = .ok (.aload_n 0, 1) := by decide +kernel
theorem dX12_drop_10 : decode cX12_drop 10 = .ok (.dup, 1) := by decide +kernel
theorem dX12_drop_11 : decode cX12_drop 11 = .ok (.getfield 295, 3) := by decide +kernel
theorem dX12_drop_14 : decode cX12_drop 14 = .ok (.iconst 1, 1) := by decide +kernel
theorem dX12_drop_15 : decode cX12_drop 15 = .ok (.isub, 1) := by decide +kernel
theorem dX12_drop_16 : decode cX12_drop 16 = .ok (.putfield 295, 3) := by decide +kernel
theorem dX12_drop_19 : decode cX12_drop 19 = .ok (.aload_n 0, 1) := by decide +kernel
theorem dX12_drop_20 : decode cX12_drop 20 = .ok (.getfield 119, 3) := by decide +kernel
theorem dX12_drop_23 : decode cX12_drop 23 = .ok (.aload_n 0, 1) := by decide +kernel
theorem dX12_drop_24 : decode cX12_drop 24 = .ok (.getfield 295, 3) := by decide +kernel
theorem dX12_drop_27 : decode cX12_drop 27 = .ok (.iaload, 1) := by decide +kernel
theorem dX12_drop_28 : decode cX12_drop 28 = .ok (.ireturn, 1) := by decide +kernel
theorem dX12_isCopy_0 : decode cX12_isCopy 0 = .ok (.iload_n 1, 1) := by decide +kernel
theorem dX12_isCopy_1 : decode cX12_isCopy 1 = .ok (.i2l, 1) := by decide +kernel
theorem dX12_isCopy_2 : decode cX12_isCopy 2 = .ok (.lconst 0, 1) := by decide +kernel
theorem dX12_isCopy_3 : decode cX12_isCopy 3 = .ok (.aload_n 0, 1) := by decide +kernel
theorem dX12_isCopy_4 : decode cX12_isCopy 4 = .ok (.getfield 295, 3) := by decide +kernel
theorem dX12_isCopy_7 : decode cX12_isCopy 7 = .ok (.iconst 1, 1) := by decide +kernel
theorem dX12_isCopy_8 : decode cX12_isCopy 8 = .ok (.isub, 1) := by decide +kernel
theorem dX12_isCopy_9 : decode cX12_isCopy 9 = .ok (.i2l, 1) := by decide +kernel
theorem dX12_isCopy_10 : decode cX12_isCopy 10 = .ok (.invokestatic 144, 3) := by decide +kernel
theorem dX12_isCopy_13 : decode cX12_isCopy 13 = .ok (.ireturn, 1) := by decide +kernel
theorem dX12_isTime_0 : decode cX12_isTime 0 = .ok (.aload_n 0, 1) := by decide +kernel
theorem dX12_isTime_1 : decode cX12_isTime 1 = .ok (.getfield 75, 3) := by decide +kernel
theorem dX12_isTime_4 : decode cX12_isTime 4 = .ok (.iload_n 2, 1) := by decide +kernel
theorem dX12_isTime_5 : decode cX12_isTime 5 = .ok (.baload, 1) := by decide +kernel
theorem dX12_isTime_6 : decode cX12_isTime 6 = .ok (.ifCond .eq 22, 3) := by decide +kernel
theorem dX12_isTime_9 : decode cX12_isTime 9 = .ok (.aload_n 0, 1) := by decide +kernel
theorem dX12_isTime_10 : decode cX12_isTime 10 = .ok (.getfield 94, 3) := by decide +kernel
theorem dX12_isTime_13 : decode cX12_isTime 13 = .ok (.iload_n 2, 1) := by decide +kernel
theorem dX12_isTime_14 : decode cX12_isTime 14 = .ok (.iaload, 1) := by decide +kernel
theorem dX12_isTime_15 : decode cX12_isTime 15 = .ok (.aload_n 0, 1) := by decide +kernel
theorem dX12_isTime_16 : decode cX12_isTime 16 = .ok (.getfield 119, 3) := by decide +kernel
theorem dX12_isTime_19 : decode cX12_isTime 19 = .ok (.iload_n 1, 1) := by decide +kernel
theorem dX12_isTime_20 : decode cX12_isTime 20 = .ok (.iaload, 1) := by decide +kernel
theorem dX12_isTime_21 : decode cX12_isTime 21 = .ok (.if_icmp .ne 7, 3) := by decide +kernel
theorem dX12_isTime_24 : decode cX12_isTime 24 = .ok (.iconst 1, 1) := by decide +kernel
theorem dX12_isTime_25 : decode cX12_isTime 25 = .ok (.goto 4, 3) := by decide +kernel
theorem dX12_isTime_28 : decode cX12_isTime 28 = .ok (.iconst 0, 1) := by decide +kernel
theorem dX12_isTime_29 : decode cX12_isTime 29 = .ok (.istore_n 3, 1) := by decide +kernel
theorem dX12_isTime_30 : decode cX12_isTime 30 = .ok (.iconst 0, 1) := by decide +kernel
theorem dX12_isTime_31 : decode cX12_isTime 31 = .ok (.istore 4, 2) := by decide +kernel
theorem dX12_isTime_33 : decode cX12_isTime 33 = .ok (.iload 4, 2) := by decide +kernel
theorem dX12_isTime_35 : decode cX12_isTime 35 = .ok (.aload_n 0, 1) := by decide +kernel
theorem dX12_isTime_36 : decode cX12_isTime 36 = .ok (.getfield 119, 3) := by decide +kernel
theorem dX12_isTime_39 : decode cX12_isTime 39 = .ok (.iload_n 1, 1) := by decide +kernel
theorem dX12_isTime_40 : decode cX12_isTime 40 = .ok (.iaload, 1) := by decide +kernel
theorem dX12_isTime_41 : decode cX12_isTime 41 = .ok (.if_icmp .ge 46, 3) := by decide +kernel
theorem dX12_isTime_44 : decode cX12_isTime 44 = .ok (.iload_n 3, 1) := by decide +kernel
theorem dX12_isTime_45 : decode cX12_isTime 45 = .ok (.ifCond .eq 42, 3) := by decide +kernel
theorem dX12_isTime_48 : decode cX12_isTime 48 = .ok (.aload_n 0, 1) := by decide +kernel
theorem dX12_isTime_49 : decode cX12_isTime 49 = .ok (.getfield 98, 3) := by decide +kernel
theorem dX12_isTime_52 : decode cX12_isTime 52 = .ok (.bipush 40, 2) := by decide +kernel
theorem dX12_isTime_54 : decode cX12_isTime 54 = .ok (.iload_n 2, 1) := by decide +kernel
theorem dX12_isTime_55 : decode cX12_isTime 55 = .ok (.imul, 1) := by decide +kernel
theorem dX12_isTime_56 : decode cX12_isTime 56 = .ok (.iload 4, 2) := by decide +kernel
theorem dX12_isTime_58 : decode cX12_isTime 58 = .ok (.iadd, 1) := by decide +kernel
theorem dX12_isTime_59 : decode cX12_isTime 59 = .ok (.iaload, 1) := by decide +kernel
theorem dX12_isTime_60 : decode cX12_isTime 60 = .ok (.aload_n 0, 1) := by decide +kernel
theorem dX12_isTime_61 : decode cX12_isTime 61 = .ok (.getfield 122, 3) := by decide +kernel
theorem dX12_isTime_64 : decode cX12_isTime 64 = .ok (.bipush 40, 2) := by decide +kernel
theorem dX12_isTime_66 : decode cX12_isTime 66 = .ok (.iload_n 1, 1) := by decide +kernel
theorem dX12_isTime_67 : decode cX12_isTime 67 = .ok (.imul, 1) := by decide +kernel
theorem dX12_isTime_68 : decode cX12_isTime 68 = .ok (.iload 4, 2) := by decide +kernel
theorem dX12_isTime_70 : decode cX12_isTime 70 = .ok (.iadd, 1) := by decide +kernel
theorem dX12_isTime_71 : decode cX12_isTime 71 = .ok (.iaload, 1) := by decide +kernel
theorem dX12_isTime_72 : decode cX12_isTime 72 = .ok (.if_icmp .ne 7, 3) := by decide +kernel
theorem dX12_isTime_75 : decode cX12_isTime 75 = .ok (.iconst 1, 1) := by decide +kernel
theorem dX12_isTime_76 : decode cX12_isTime 76 = .ok (.goto 4, 3) := by decide +kernel
theorem dX12_isTime_79 : decode cX12_isTime 79 = .ok (.iconst 0, 1) := by decide +kernel
theorem dX12_isTime_80 : decode cX12_isTime 80 = .ok (.istore_n 3, 1) := by decide +kernel
theorem dX12_isTime_81 : decode cX12_isTime 81 = .ok (.iinc 4 1, 3) := by decide +kernel
theorem dX12_isTime_84 : decode cX12_isTime 84 = .ok (.goto (-51), 3) := by decide +kernel
theorem dX12_isTime_87 : decode cX12_isTime 87 = .ok (.iload_n 3, 1) := by decide +kernel
theorem dX12_isTime_88 : decode cX12_isTime 88 = .ok (.ireturn, 1) := by decide +kernel
theorem dX12_times_0 : decode cX12_times 0 = .ok (.aload_n 0, 1) := by decide +kernel
theorem dX12_times_1 : decode cX12_times 1 = .ok (.iload_n 1, 1) := by decide +kernel
theorem dX12_times_2 : decode cX12_times 2 = .ok (.invokevirtual 363, 3) := by decide +kernel
theorem dX12_times_5 : decode cX12_times 5 = .ok (.ifCond .ne 7, 3) := by decide +kernel
theorem dX12_times_8 : decode cX12_times 8 = .ok (.sipush (-1001), 3) := by decide +kernel
theorem dX12_times_11 : decode cX12_times 11 = .ok (.ireturn, 1) := by decide +kernel
theorem dX12_times_12 : decode cX12_times 12 = .ok (.aload_n 0, 1) := by decide +kernel
theorem dX12_times_13 : decode cX12_times 13 = .ok (.invokevirtual 340, 3) := by decide +kernel
theorem dX12_times_16 : decode cX12_times 16 = .ok (.iconst 0, 1) := by decide +kernel
theorem dX12_times_17 : decode cX12_times 17 = .ok (.istore_n 3, 1) := by decide +kernel
theorem dX12_times_18 : decode cX12_times 18 = .ok (.iconst 0, 1) := by decide +kernel
theorem dX12_times_19 : decode cX12_times 19 = .ok (.istore 4, 2) := by decide +kernel
theorem dX12_times_21 : decode cX12_times 21 = .ok (.iload 4, 2) := by decide +kernel
theorem dX12_times_23 : decode cX12_times 23 = .ok (.aload_n 0, 1) := by decide +kernel
theorem dX12_times_24 : decode cX12_times 24 = .ok (.invokevirtual 148, 3) := by decide +kernel
theorem dX12_times_27 : decode cX12_times 27 = .ok (.if_icmp .gt 30, 3) := by decide +kernel
theorem dX12_times_30 : decode cX12_times 30 = .ok (.aload_n 0, 1) := by decide +kernel
theorem dX12_times_31 : decode cX12_times 31 = .ok (.iload_n 1, 1) := by decide +kernel
theorem dX12_times_32 : decode cX12_times 32 = .ok (.iload 4, 2) := by decide +kernel
theorem dX12_times_34 : decode cX12_times 34 = .ok (.invokevirtual 366, 3) := by decide +kernel
theorem dX12_times_37 : decode cX12_times 37 = .ok (.ifCond .eq 14, 3) := by decide +kernel
theorem dX12_times_40 : decode cX12_times 40 = .ok (.iload_n 3, 1) := by decide +kernel
theorem dX12_times_41 : decode cX12_times 41 = .ok (.iload_n 2, 1) := by decide +kernel
theorem dX12_times_42 : decode cX12_times 42 = .ok (.if_icmp .ne 6, 3) := by decide +kernel
theorem dX12_times_45 : decode cX12_times 45 = .ok (.iload 4, 2) := by decide +kernel
theorem dX12_times_47 : decode cX12_times 47 = .ok (.ireturn, 1) := by decide +kernel
theorem dX12_times_48 : decode cX12_times 48 = .ok (.iinc 3 1, 3) := by decide +kernel
theorem dX12_times_51 : decode cX12_times 51 = .ok (.iinc 4 1, 3) := by decide +kernel
theorem dX12_times_54 : decode cX12_times 54 = .ok (.goto (-33), 3) := by decide +kernel
theorem dX12_times_57 : decode cX12_times 57 = .ok (.iload_n 2, 1) := by decide +kernel
theorem dX12_times_58 : decode cX12_times 58 = .ok (.iconst (-1), 1) := by decide +kernel
theorem dX12_times_59 : decode cX12_times 59 = .ok (.if_icmp .ne 7, 3) := by decide +kernel
theorem dX12_times_62 : decode cX12_times 62 = .ok (.iload_n 3, 1) := by decide +kernel
theorem dX12_times_63 : decode cX12_times 63 = .ok (.goto 4, 3) := by decide +kernel
theorem dX12_times_66 : decode cX12_times 66 = .ok (.iconst (-1), 1) := by decide +kernel
theorem dX12_times_67 : decode cX12_times 67 = .ok (.ireturn, 1) := by decide +kernel
theorem dX12_findRows_0 : decode cX12_findRows 0 = .ok (.aload_n 0, 1) := by decide +kernel
theorem dX12_findRows_1 : decode cX12_findRows 1 = .ok (.invokevirtual 340, 3) := by decide +kernel
theorem dX12_findRows_4 : decode cX12_findRows 4 = .ok (.iconst 0, 1) := by decide +kernel
theorem dX12_findRows_5 : decode cX12_findRows 5 = .ok (.istore_n 1, 1) := by decide +kernel
theorem dX12_findRows_6 : decode cX12_findRows 6 = .ok (.iload_n 1, 1) := by decide +kernel
theorem dX12_findRows_7 : decode cX12_findRows 7 = .ok (.aload_n 0, 1) := by decide +kernel
theorem dX12_findRows_8 : decode cX12_findRows 8 = .ok (.getfield 295, 3) := by decide +kernel
theorem dX12_findRows_11 : decode cX12_findRows 11 = .ok (.if_icmp .ge 116, 3) := by decide +kernel
theorem dX12_findRows_14 : decode cX12_findRows 14 = .ok (.iconst 0, 1) := by decide +kernel
theorem dX12_findRows_15 : decode cX12_findRows 15 = .ok (.istore_n 2, 1) := by decide +kernel
theorem dX12_findRows_16 : decode cX12_findRows 16 = .ok (.iload_n 2, 1) := by decide +kernel
theorem dX12_findRows_17 : decode cX12_findRows 17 = .ok (.aload_n 0, 1) := by decide +kernel
theorem dX12_findRows_18 : decode cX12_findRows 18 = .ok (.invokevirtual 148, 3) := by decide +kernel
theorem dX12_findRows_21 : decode cX12_findRows 21 = .ok (.if_icmp .gt 100, 3) := by decide +kernel
theorem dX12_findRows_24 : decode cX12_findRows 24 = .ok (.aload_n 0, 1) := by decide +kernel
theorem dX12_findRows_25 : decode cX12_findRows 25 = .ok (.iload_n 1, 1) := by decide +kernel
theorem dX12_findRows_26 : decode cX12_findRows 26 = .ok (.iload_n 2, 1) := by decide +kernel
theorem dX12_findRows_27 : decode cX12_findRows 27 = .ok (.invokevirtual 366, 3) := by decide +kernel
theorem dX12_findRows_30 : decode cX12_findRows 30 = .ok (.ifCond .eq 11, 3) := by decide +kernel
theorem dX12_findRows_33 : decode cX12_findRows 33 = .ok (.iload_n 1, 1) := by decide +kernel
theorem dX12_findRows_34 : decode cX12_findRows 34 = .ok (.ifCond .ne 7, 3) := by decide +kernel
theorem dX12_findRows_37 : decode cX12_findRows 37 = .ok (.lconst 1, 1) := by decide +kernel
theorem dX12_findRows_38 : decode cX12_findRows 38 = .ok (.goto 4, 3) := by decide +kernel
theorem dX12_findRows_41 : decode cX12_findRows 41 = .ok (.lconst 0, 1) := by decide +kernel
theorem dX12_findRows_42 : decode cX12_findRows 42 = .ok (.lstore_n 3, 1) := by decide +kernel
theorem dX12_findRows_43 : decode cX12_findRows 43 = .ok (.iconst 0, 1) := by decide +kernel
theorem dX12_findRows_44 : decode cX12_findRows 44 = .ok (.istore 5, 2) := by decide +kernel
theorem dX12_findRows_46 : decode cX12_findRows 46 = .ok (.iload 5, 2) := by decide +kernel
theorem dX12_findRows_48 : decode cX12_findRows 48 = .ok (.iload_n 2, 1) := by decide +kernel
theorem dX12_findRows_49 : decode cX12_findRows 49 = .ok (.if_icmp .gt 53, 3) := by decide +kernel
theorem dX12_findRows_52 : decode cX12_findRows 52 = .ok (.iload_n 1, 1) := by decide +kernel
theorem dX12_findRows_53 : decode cX12_findRows 53 = .ok (.ifCond .le 49, 3) := by decide +kernel
theorem dX12_findRows_56 : decode cX12_findRows 56 = .ok (.aload_n 0, 1) := by decide +kernel
theorem dX12_findRows_57 : decode cX12_findRows 57 = .ok (.iload_n 1, 1) := by decide +kernel
theorem dX12_findRows_58 : decode cX12_findRows 58 = .ok (.iload_n 2, 1) := by decide +kernel
theorem dX12_findRows_59 : decode cX12_findRows 59 = .ok (.invokevirtual 366, 3) := by decide +kernel
theorem dX12_findRows_62 : decode cX12_findRows 62 = .ok (.ifCond .eq 40, 3) := by decide +kernel
theorem dX12_findRows_65 : decode cX12_findRows 65 = .ok (.lload_n 3, 1) := by decide +kernel
theorem dX12_findRows_66 : decode cX12_findRows 66 = .ok (.iload 5, 2) := by decide +kernel
theorem dX12_findRows_68 : decode cX12_findRows 68 = .ok (.iload_n 2, 1) := by decide +kernel
theorem dX12_findRows_69 : decode cX12_findRows 69 = .ok (.iconst (-1), 1) := by decide +kernel
theorem dX12_findRows_70 : decode cX12_findRows 70 = .ok (.ixor, 1) := by decide +kernel
theorem dX12_findRows_71 : decode cX12_findRows 71 = .ok (.iand, 1) := by decide +kernel
theorem dX12_findRows_72 : decode cX12_findRows 72 = .ok (.ifCond .ne 21, 3) := by decide +kernel
theorem dX12_findRows_75 : decode cX12_findRows 75 = .ok (.aload_n 0, 1) := by decide +kernel
theorem dX12_findRows_76 : decode cX12_findRows 76 = .ok (.getfield 125, 3) := by decide +kernel
theorem dX12_findRows_79 : decode cX12_findRows 79 = .ok (.sipush 1024, 3) := by decide +kernel
theorem dX12_findRows_82 : decode cX12_findRows 82 = .ok (.iload_n 1, 1) := by decide +kernel
theorem dX12_findRows_83 : decode cX12_findRows 83 = .ok (.iconst 1, 1) := by decide +kernel
theorem dX12_findRows_84 : decode cX12_findRows 84 = .ok (.isub, 1) := by decide +kernel
theorem dX12_findRows_85 : decode cX12_findRows 85 = .ok (.imul, 1) := by decide +kernel
theorem dX12_findRows_86 : decode cX12_findRows 86 = .ok (.iload 5, 2) := by decide +kernel
theorem dX12_findRows_88 : decode cX12_findRows 88 = .ok (.iadd, 1) := by decide +kernel
theorem dX12_findRows_89 : decode cX12_findRows 89 = .ok (.laload, 1) := by decide +kernel
theorem dX12_findRows_90 : decode cX12_findRows 90 = .ok (.goto 4, 3) := by decide +kernel
theorem dX12_findRows_93 : decode cX12_findRows 93 = .ok (.lconst 0, 1) := by decide +kernel
theorem dX12_findRows_94 : decode cX12_findRows 94 = .ok (.ladd, 1) := by decide +kernel
theorem dX12_findRows_95 : decode cX12_findRows 95 = .ok (.lstore_n 3, 1) := by decide +kernel
theorem dX12_findRows_96 : decode cX12_findRows 96 = .ok (.iinc 5 1, 3) := by decide +kernel
theorem dX12_findRows_99 : decode cX12_findRows 99 = .ok (.goto (-53), 3) := by decide +kernel
theorem dX12_findRows_102 : decode cX12_findRows 102 = .ok (.aload_n 0, 1) := by decide +kernel
theorem dX12_findRows_103 : decode cX12_findRows 103 = .ok (.getfield 125, 3) := by decide +kernel
theorem dX12_findRows_106 : decode cX12_findRows 106 = .ok (.sipush 1024, 3) := by decide +kernel
theorem dX12_findRows_109 : decode cX12_findRows 109 = .ok (.iload_n 1, 1) := by decide +kernel
theorem dX12_findRows_110 : decode cX12_findRows 110 = .ok (.imul, 1) := by decide +kernel
theorem dX12_findRows_111 : decode cX12_findRows 111 = .ok (.iload_n 2, 1) := by decide +kernel
theorem dX12_findRows_112 : decode cX12_findRows 112 = .ok (.iadd, 1) := by decide +kernel
theorem dX12_findRows_113 : decode cX12_findRows 113 = .ok (.lload_n 3, 1) := by decide +kernel
theorem dX12_findRows_114 : decode cX12_findRows 114 = .ok (.lastore, 1) := by decide +kernel
theorem dX12_findRows_115 : decode cX12_findRows 115 = .ok (.iinc 2 1, 3) := by decide +kernel
theorem dX12_findRows_118 : decode cX12_findRows 118 = .ok (.goto (-102), 3) := by decide +kernel
theorem dX12_findRows_121 : decode cX12_findRows 121 = .ok (.iinc 1 1, 3) := by decide +kernel
theorem dX12_findRows_124 : decode cX12_findRows 124 = .ok (.goto (-118), 3) := by decide +kernel
theorem dX12_findRows_127 : decode cX12_findRows 127 = .ok (.aload_n 0, 1) := by decide +kernel
theorem dX12_findRows_128 : decode cX12_findRows 128 = .ok (.getfield 295, 3) := by decide +kernel
theorem dX12_findRows_131 : decode cX12_findRows 131 = .ok (.iconst 1, 1) := by decide +kernel
theorem dX12_findRows_132 : decode cX12_findRows 132 = .ok (.isub, 1) := by decide +kernel
theorem dX12_findRows_133 : decode cX12_findRows 133 = .ok (.istore_n 1, 1) := by decide +kernel
theorem dX12_findRows_134 : decode cX12_findRows 134 = .ok (.iload_n 1, 1) := by decide +kernel
theorem dX12_findRows_135 : decode cX12_findRows 135 = .ok (.ifCond .lt 131, 3) := by decide +kernel
theorem dX12_findRows_138 : decode cX12_findRows 138 = .ok (.iconst 0, 1) := by decide +kernel
theorem dX12_findRows_139 : decode cX12_findRows 139 = .ok (.istore_n 2, 1) := by decide +kernel
theorem dX12_findRows_140 : decode cX12_findRows 140 = .ok (.iload_n 2, 1) := by decide +kernel
theorem dX12_findRows_141 : decode cX12_findRows 141 = .ok (.aload_n 0, 1) := by decide +kernel
theorem dX12_findRows_142 : decode cX12_findRows 142 = .ok (.invokevirtual 148, 3) := by decide +kernel
theorem dX12_findRows_145 : decode cX12_findRows 145 = .ok (.if_icmp .gt 115, 3) := by decide +kernel
theorem dX12_findRows_148 : decode cX12_findRows 148 = .ok (.aload_n 0, 1) := by decide +kernel
theorem dX12_findRows_149 : decode cX12_findRows 149 = .ok (.iload_n 1, 1) := by decide +kernel
theorem dX12_findRows_150 : decode cX12_findRows 150 = .ok (.iload_n 2, 1) := by decide +kernel
theorem dX12_findRows_151 : decode cX12_findRows 151 = .ok (.invokevirtual 366, 3) := by decide +kernel
theorem dX12_findRows_154 : decode cX12_findRows 154 = .ok (.ifCond .eq 17, 3) := by decide +kernel
theorem dX12_findRows_157 : decode cX12_findRows 157 = .ok (.iload_n 1, 1) := by decide +kernel
theorem dX12_findRows_158 : decode cX12_findRows 158 = .ok (.aload_n 0, 1) := by decide +kernel
theorem dX12_findRows_159 : decode cX12_findRows 159 = .ok (.getfield 295, 3) := by decide +kernel
theorem dX12_findRows_162 : decode cX12_findRows 162 = .ok (.iconst 1, 1) := by decide +kernel
theorem dX12_findRows_163 : decode cX12_findRows 163 = .ok (.isub, 1) := by decide +kernel
theorem dX12_findRows_164 : decode cX12_findRows 164 = .ok (.if_icmp .ne 7, 3) := by decide +kernel
theorem dX12_findRows_167 : decode cX12_findRows 167 = .ok (.lconst 1, 1) := by decide +kernel
theorem dX12_findRows_168 : decode cX12_findRows 168 = .ok (.goto 4, 3) := by decide +kernel
theorem dX12_findRows_171 : decode cX12_findRows 171 = .ok (.lconst 0, 1) := by decide +kernel
theorem dX12_findRows_172 : decode cX12_findRows 172 = .ok (.lstore_n 3, 1) := by decide +kernel
theorem dX12_findRows_173 : decode cX12_findRows 173 = .ok (.iload_n 2, 1) := by decide +kernel
theorem dX12_findRows_174 : decode cX12_findRows 174 = .ok (.istore 5, 2) := by decide +kernel
theorem dX12_findRows_176 : decode cX12_findRows 176 = .ok (.iload 5, 2) := by decide +kernel
theorem dX12_findRows_178 : decode cX12_findRows 178 = .ok (.aload_n 0, 1) := by decide +kernel
theorem dX12_findRows_179 : decode cX12_findRows 179 = .ok (.invokevirtual 148, 3) := by decide +kernel
theorem dX12_findRows_182 : decode cX12_findRows 182 = .ok (.if_icmp .gt 59, 3) := by decide +kernel
theorem dX12_findRows_185 : decode cX12_findRows 185 = .ok (.iload_n 1, 1) := by decide +kernel
theorem dX12_findRows_186 : decode cX12_findRows 186 = .ok (.aload_n 0, 1) := by decide +kernel
theorem dX12_findRows_187 : decode cX12_findRows 187 = .ok (.getfield 295, 3) := by decide +kernel
theorem dX12_findRows_190 : decode cX12_findRows 190 = .ok (.iconst 1, 1) := by decide +kernel
theorem dX12_findRows_191 : decode cX12_findRows 191 = .ok (.isub, 1) := by decide +kernel
theorem dX12_findRows_192 : decode cX12_findRows 192 = .ok (.if_icmp .ge 49, 3) := by decide +kernel
theorem dX12_findRows_195 : decode cX12_findRows 195 = .ok (.aload_n 0, 1) := by decide +kernel
theorem dX12_findRows_196 : decode cX12_findRows 196 = .ok (.iload_n 1, 1) := by decide +kernel
theorem dX12_findRows_197 : decode cX12_findRows 197 = .ok (.iload_n 2, 1) := by decide +kernel
theorem dX12_findRows_198 : decode cX12_findRows 198 = .ok (.invokevirtual 366, 3) := by decide +kernel
theorem dX12_findRows_201 : decode cX12_findRows 201 = .ok (.ifCond .eq 40, 3) := by decide +kernel
theorem dX12_findRows_204 : decode cX12_findRows 204 = .ok (.lload_n 3, 1) := by decide +kernel
theorem dX12_findRows_205 : decode cX12_findRows 205 = .ok (.iload_n 2, 1) := by decide +kernel
theorem dX12_findRows_206 : decode cX12_findRows 206 = .ok (.iload 5, 2) := by decide +kernel
theorem dX12_findRows_208 : decode cX12_findRows 208 = .ok (.iconst (-1), 1) := by decide +kernel
theorem dX12_findRows_209 : decode cX12_findRows 209 = .ok (.ixor, 1) := by decide +kernel
theorem dX12_findRows_210 : decode cX12_findRows 210 = .ok (.iand, 1) := by decide +kernel
theorem dX12_findRows_211 : decode cX12_findRows 211 = .ok (.ifCond .ne 21, 3) := by decide +kernel
theorem dX12_findRows_214 : decode cX12_findRows 214 = .ok (.aload_n 0, 1) := by decide +kernel
theorem dX12_findRows_215 : decode cX12_findRows 215 = .ok (.getfield 128, 3) := by decide +kernel
theorem dX12_findRows_218 : decode cX12_findRows 218 = .ok (.sipush 1024, 3) := by decide +kernel
theorem dX12_findRows_221 : decode cX12_findRows 221 = .ok (.iload_n 1, 1) := by decide +kernel
theorem dX12_findRows_222 : decode cX12_findRows 222 = .ok (.iconst 1, 1) := by decide +kernel
theorem dX12_findRows_223 : decode cX12_findRows 223 = .ok (.iadd, 1) := by decide +kernel
theorem dX12_findRows_224 : decode cX12_findRows 224 = .ok (.imul, 1) := by decide +kernel
theorem dX12_findRows_225 : decode cX12_findRows 225 = .ok (.iload 5, 2) := by decide +kernel
theorem dX12_findRows_227 : decode cX12_findRows 227 = .ok (.iadd, 1) := by decide +kernel
theorem dX12_findRows_228 : decode cX12_findRows 228 = .ok (.laload, 1) := by decide +kernel
theorem dX12_findRows_229 : decode cX12_findRows 229 = .ok (.goto 4, 3) := by decide +kernel
theorem dX12_findRows_232 : decode cX12_findRows 232 = .ok (.lconst 0, 1) := by decide +kernel
theorem dX12_findRows_233 : decode cX12_findRows 233 = .ok (.ladd, 1) := by decide +kernel
theorem dX12_findRows_234 : decode cX12_findRows 234 = .ok (.lstore_n 3, 1) := by decide +kernel
theorem dX12_findRows_235 : decode cX12_findRows 235 = .ok (.iinc 5 1, 3) := by decide +kernel
theorem dX12_findRows_238 : decode cX12_findRows 238 = .ok (.goto (-62), 3) := by decide +kernel
theorem dX12_findRows_241 : decode cX12_findRows 241 = .ok (.aload_n 0, 1) := by decide +kernel
theorem dX12_findRows_242 : decode cX12_findRows 242 = .ok (.getfield 128, 3) := by decide +kernel
theorem dX12_findRows_245 : decode cX12_findRows 245 = .ok (.sipush 1024, 3) := by decide +kernel
theorem dX12_findRows_248 : decode cX12_findRows 248 = .ok (.iload_n 1, 1) := by decide +kernel
theorem dX12_findRows_249 : decode cX12_findRows 249 = .ok (.imul, 1) := by decide +kernel
theorem dX12_findRows_250 : decode cX12_findRows 250 = .ok (.iload_n 2, 1) := by decide +kernel
theorem dX12_findRows_251 : decode cX12_findRows 251 = .ok (.iadd, 1) := by decide +kernel
theorem dX12_findRows_252 : decode cX12_findRows 252 = .ok (.lload_n 3, 1) := by decide +kernel
theorem dX12_findRows_253 : decode cX12_findRows 253 = .ok (.lastore, 1) := by decide +kernel
theorem dX12_findRows_254 : decode cX12_findRows 254 = .ok (.iinc 2 1, 3) := by decide +kernel
theorem dX12_findRows_257 : decode cX12_findRows 257 = .ok (.goto (-117), 3) := by decide +kernel
theorem dX12_findRows_260 : decode cX12_findRows 260 = .ok (.iinc 1 (-1), 3) := by decide +kernel
theorem dX12_findRows_263 : decode cX12_findRows 263 = .ok (.goto (-129), 3) := by decide +kernel
theorem dX12_findRows_266 : decode cX12_findRows 266 = .ok (.return_, 1) := by decide +kernel
theorem dX12_holds_0 : decode cX12_holds 0 = .ok (.aload_n 0, 1) := by decide +kernel
theorem dX12_holds_1 : decode cX12_holds 1 = .ok (.invokevirtual 369, 3) := by decide +kernel
theorem dX12_holds_4 : decode cX12_holds 4 = .ok (.aload_n 0, 1) := by decide +kernel
theorem dX12_holds_5 : decode cX12_holds 5 = .ok (.getfield 295, 3) := by decide +kernel
