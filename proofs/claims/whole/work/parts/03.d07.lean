theorem dX12_holds_8 : decode cX12_holds 8 = .ok (.ifCond .ne 7, 3) := by decide +kernel
theorem dX12_holds_11 : decode cX12_holds 11 = .ok (.lconst 1, 1) := by decide +kernel
theorem dX12_holds_12 : decode cX12_holds 12 = .ok (.goto 4, 3) := by decide +kernel
theorem dX12_holds_15 : decode cX12_holds 15 = .ok (.lconst 0, 1) := by decide +kernel
theorem dX12_holds_16 : decode cX12_holds 16 = .ok (.lstore_n 1, 1) := by decide +kernel
theorem dX12_holds_17 : decode cX12_holds 17 = .ok (.iconst 0, 1) := by decide +kernel
theorem dX12_holds_18 : decode cX12_holds 18 = .ok (.istore_n 3, 1) := by decide +kernel
theorem dX12_holds_19 : decode cX12_holds 19 = .ok (.iload_n 3, 1) := by decide +kernel
theorem dX12_holds_20 : decode cX12_holds 20 = .ok (.aload_n 0, 1) := by decide +kernel
theorem dX12_holds_21 : decode cX12_holds 21 = .ok (.invokevirtual 148, 3) := by decide +kernel
theorem dX12_holds_24 : decode cX12_holds 24 = .ok (.if_icmp .gt 25, 3) := by decide +kernel
theorem dX12_holds_27 : decode cX12_holds 27 = .ok (.aload_n 0, 1) := by decide +kernel
theorem dX12_holds_28 : decode cX12_holds 28 = .ok (.getfield 295, 3) := by decide +kernel
theorem dX12_holds_31 : decode cX12_holds 31 = .ok (.ifCond .le 18, 3) := by decide +kernel
theorem dX12_holds_34 : decode cX12_holds 34 = .ok (.lload_n 1, 1) := by decide +kernel
theorem dX12_holds_35 : decode cX12_holds 35 = .ok (.aload_n 0, 1) := by decide +kernel
theorem dX12_holds_36 : decode cX12_holds 36 = .ok (.getfield 128, 3) := by decide +kernel
theorem dX12_holds_39 : decode cX12_holds 39 = .ok (.iload_n 3, 1) := by decide +kernel
theorem dX12_holds_40 : decode cX12_holds 40 = .ok (.laload, 1) := by decide +kernel
theorem dX12_holds_41 : decode cX12_holds 41 = .ok (.ladd, 1) := by decide +kernel
theorem dX12_holds_42 : decode cX12_holds 42 = .ok (.lstore_n 1, 1) := by decide +kernel
theorem dX12_holds_43 : decode cX12_holds 43 = .ok (.iinc 3 1, 3) := by decide +kernel
theorem dX12_holds_46 : decode cX12_holds 46 = .ok (.goto (-27), 3) := by decide +kernel
theorem dX12_holds_49 : decode cX12_holds 49 = .ok (.lload_n 1, 1) := by decide +kernel
theorem dX12_holds_50 : decode cX12_holds 50 = .ok (.lreturn, 1) := by decide +kernel
theorem dX12_when_0 : decode cX12_when 0 = .ok (.aload_n 0, 1) := by decide +kernel
theorem dX12_when_1 : decode cX12_when 1 = .ok (.iload_n 1, 1) := by decide +kernel
theorem dX12_when_2 : decode cX12_when 2 = .ok (.invokevirtual 363, 3) := by decide +kernel
theorem dX12_when_5 : decode cX12_when 5 = .ok (.ifCond .ne 7, 3) := by decide +kernel
theorem dX12_when_8 : decode cX12_when 8 = .ok (.sipush (-1001), 3) := by decide +kernel
theorem dX12_when_11 : decode cX12_when 11 = .ok (.ireturn, 1) := by decide +kernel
theorem dX12_when_12 : decode cX12_when 12 = .ok (.iload_n 2, 1) := by decide +kernel
theorem dX12_when_13 : decode cX12_when 13 = .ok (.i2l, 1) := by decide +kernel
theorem dX12_when_14 : decode cX12_when 14 = .ok (.lconst 0, 1) := by decide +kernel
theorem dX12_when_15 : decode cX12_when 15 = .ok (.lconst 1, 1) := by decide +kernel
theorem dX12_when_16 : decode cX12_when 16 = .ok (.invokestatic 144, 3) := by decide +kernel
theorem dX12_when_19 : decode cX12_when 19 = .ok (.ifCond .ne 7, 3) := by decide +kernel
theorem dX12_when_22 : decode cX12_when 22 = .ok (.sipush (-1002), 3) := by decide +kernel
theorem dX12_when_25 : decode cX12_when 25 = .ok (.ireturn, 1) := by decide +kernel
theorem dX12_when_26 : decode cX12_when 26 = .ok (.aload_n 0, 1) := by decide +kernel
theorem dX12_when_27 : decode cX12_when 27 = .ok (.invokevirtual 369, 3) := by decide +kernel
theorem dX12_when_30 : decode cX12_when 30 = .ok (.iconst (-1), 1) := by decide +kernel
theorem dX12_when_31 : decode cX12_when 31 = .ok (.istore_n 3, 1) := by decide +kernel
theorem dX12_when_32 : decode cX12_when 32 = .ok (.iconst 0, 1) := by decide +kernel
theorem dX12_when_33 : decode cX12_when 33 = .ok (.istore 4, 2) := by decide +kernel
theorem dX12_when_35 : decode cX12_when 35 = .ok (.iload 4, 2) := by decide +kernel
theorem dX12_when_37 : decode cX12_when 37 = .ok (.aload_n 0, 1) := by decide +kernel
theorem dX12_when_38 : decode cX12_when 38 = .ok (.invokevirtual 148, 3) := by decide +kernel
theorem dX12_when_41 : decode cX12_when 41 = .ok (.if_icmp .gt 94, 3) := by decide +kernel
theorem dX12_when_44 : decode cX12_when 44 = .ok (.aload_n 0, 1) := by decide +kernel
theorem dX12_when_45 : decode cX12_when 45 = .ok (.getfield 125, 3) := by decide +kernel
theorem dX12_when_48 : decode cX12_when 48 = .ok (.sipush 1024, 3) := by decide +kernel
theorem dX12_when_51 : decode cX12_when 51 = .ok (.iload_n 1, 1) := by decide +kernel
theorem dX12_when_52 : decode cX12_when 52 = .ok (.imul, 1) := by decide +kernel
theorem dX12_when_53 : decode cX12_when 53 = .ok (.iload 4, 2) := by decide +kernel
theorem dX12_when_55 : decode cX12_when 55 = .ok (.iadd, 1) := by decide +kernel
theorem dX12_when_56 : decode cX12_when 56 = .ok (.laload, 1) := by decide +kernel
theorem dX12_when_57 : decode cX12_when 57 = .ok (.lconst 0, 1) := by decide +kernel
theorem dX12_when_58 : decode cX12_when 58 = .ok (.lcmp, 1) := by decide +kernel
theorem dX12_when_59 : decode cX12_when 59 = .ok (.ifCond .le 70, 3) := by decide +kernel
theorem dX12_when_62 : decode cX12_when 62 = .ok (.aload_n 0, 1) := by decide +kernel
theorem dX12_when_63 : decode cX12_when 63 = .ok (.getfield 128, 3) := by decide +kernel
theorem dX12_when_66 : decode cX12_when 66 = .ok (.sipush 1024, 3) := by decide +kernel
theorem dX12_when_69 : decode cX12_when 69 = .ok (.iload_n 1, 1) := by decide +kernel
theorem dX12_when_70 : decode cX12_when 70 = .ok (.imul, 1) := by decide +kernel
theorem dX12_when_71 : decode cX12_when 71 = .ok (.iload 4, 2) := by decide +kernel
theorem dX12_when_73 : decode cX12_when 73 = .ok (.iadd, 1) := by decide +kernel
theorem dX12_when_74 : decode cX12_when 74 = .ok (.laload, 1) := by decide +kernel
theorem dX12_when_75 : decode cX12_when 75 = .ok (.lconst 0, 1) := by decide +kernel
theorem dX12_when_76 : decode cX12_when 76 = .ok (.lcmp, 1) := by decide +kernel
theorem dX12_when_77 : decode cX12_when 77 = .ok (.ifCond .le 52, 3) := by decide +kernel
theorem dX12_when_80 : decode cX12_when 80 = .ok (.iload_n 3, 1) := by decide +kernel
theorem dX12_when_81 : decode cX12_when 81 = .ok (.ifCond .ge 7, 3) := by decide +kernel
theorem dX12_when_84 : decode cX12_when 84 = .ok (.iconst 1, 1) := by decide +kernel
theorem dX12_when_85 : decode cX12_when 85 = .ok (.goto 30, 3) := by decide +kernel
theorem dX12_when_88 : decode cX12_when 88 = .ok (.iload_n 2, 1) := by decide +kernel
theorem dX12_when_89 : decode cX12_when 89 = .ok (.ifCond .ne 16, 3) := by decide +kernel
theorem dX12_when_92 : decode cX12_when 92 = .ok (.iload_n 3, 1) := by decide +kernel
theorem dX12_when_93 : decode cX12_when 93 = .ok (.invokestatic 301, 3) := by decide +kernel
theorem dX12_when_96 : decode cX12_when 96 = .ok (.iload 4, 2) := by decide +kernel
theorem dX12_when_98 : decode cX12_when 98 = .ok (.invokestatic 301, 3) := by decide +kernel
theorem dX12_when_101 : decode cX12_when 101 = .ok (.isub, 1) := by decide +kernel
theorem dX12_when_102 : decode cX12_when 102 = .ok (.goto 13, 3) := by decide +kernel
theorem dX12_when_105 : decode cX12_when 105 = .ok (.iload 4, 2) := by decide +kernel
theorem dX12_when_107 : decode cX12_when 107 = .ok (.invokestatic 301, 3) := by decide +kernel
theorem dX12_when_110 : decode cX12_when 110 = .ok (.iload_n 3, 1) := by decide +kernel
theorem dX12_when_111 : decode cX12_when 111 = .ok (.invokestatic 301, 3) := by decide +kernel
theorem dX12_when_114 : decode cX12_when 114 = .ok (.isub, 1) := by decide +kernel
theorem dX12_when_115 : decode cX12_when 115 = .ok (.istore 5, 2) := by decide +kernel
theorem dX12_when_117 : decode cX12_when 117 = .ok (.iload 5, 2) := by decide +kernel
theorem dX12_when_119 : decode cX12_when 119 = .ok (.ifCond .le 8, 3) := by decide +kernel
theorem dX12_when_122 : decode cX12_when 122 = .ok (.iload 4, 2) := by decide +kernel
theorem dX12_when_124 : decode cX12_when 124 = .ok (.goto 4, 3) := by decide +kernel
theorem dX12_when_127 : decode cX12_when 127 = .ok (.iload_n 3, 1) := by decide +kernel
theorem dX12_when_128 : decode cX12_when 128 = .ok (.istore_n 3, 1) := by decide +kernel
theorem dX12_when_129 : decode cX12_when 129 = .ok (.iinc 4 1, 3) := by decide +kernel
theorem dX12_when_132 : decode cX12_when 132 = .ok (.goto (-97), 3) := by decide +kernel
theorem dX12_when_135 : decode cX12_when 135 = .ok (.iload_n 3, 1) := by decide +kernel
theorem dX12_when_136 : decode cX12_when 136 = .ok (.ireturn, 1) := by decide +kernel
theorem dX12_nearest_0 : decode cX12_nearest 0 = .ok (.aload_n 0, 1) := by decide +kernel
theorem dX12_nearest_1 : decode cX12_nearest 1 = .ok (.iload_n 1, 1) := by decide +kernel
theorem dX12_nearest_2 : decode cX12_nearest 2 = .ok (.invokevirtual 363, 3) := by decide +kernel
theorem dX12_nearest_5 : decode cX12_nearest 5 = .ok (.ifCond .ne 7, 3) := by decide +kernel
theorem dX12_nearest_8 : decode cX12_nearest 8 = .ok (.sipush (-1001), 3) := by decide +kernel
theorem dX12_nearest_11 : decode cX12_nearest 11 = .ok (.ireturn, 1) := by decide +kernel
theorem dX12_nearest_12 : decode cX12_nearest 12 = .ok (.iload_n 2, 1) := by decide +kernel
theorem dX12_nearest_13 : decode cX12_nearest 13 = .ok (.i2l, 1) := by decide +kernel
theorem dX12_nearest_14 : decode cX12_nearest 14 = .ok (.lconst 0, 1) := by decide +kernel
theorem dX12_nearest_15 : decode cX12_nearest 15 = .ok (.lconst 1, 1) := by decide +kernel
theorem dX12_nearest_16 : decode cX12_nearest 16 = .ok (.invokestatic 144, 3) := by decide +kernel
theorem dX12_nearest_19 : decode cX12_nearest 19 = .ok (.ifCond .ne 7, 3) := by decide +kernel
theorem dX12_nearest_22 : decode cX12_nearest 22 = .ok (.sipush (-1002), 3) := by decide +kernel
theorem dX12_nearest_25 : decode cX12_nearest 25 = .ok (.ireturn, 1) := by decide +kernel
theorem dX12_nearest_26 : decode cX12_nearest 26 = .ok (.aload_n 0, 1) := by decide +kernel
theorem dX12_nearest_27 : decode cX12_nearest 27 = .ok (.invokevirtual 340, 3) := by decide +kernel
theorem dX12_nearest_30 : decode cX12_nearest 30 = .ok (.iconst 0, 1) := by decide +kernel
theorem dX12_nearest_31 : decode cX12_nearest 31 = .ok (.istore_n 3, 1) := by decide +kernel
theorem dX12_nearest_32 : decode cX12_nearest 32 = .ok (.iload_n 3, 1) := by decide +kernel
theorem dX12_nearest_33 : decode cX12_nearest 33 = .ok (.aload_n 0, 1) := by decide +kernel
theorem dX12_nearest_34 : decode cX12_nearest 34 = .ok (.getfield 119, 3) := by decide +kernel
theorem dX12_nearest_37 : decode cX12_nearest 37 = .ok (.iload_n 1, 1) := by decide +kernel
theorem dX12_nearest_38 : decode cX12_nearest 38 = .ok (.iaload, 1) := by decide +kernel
theorem dX12_nearest_39 : decode cX12_nearest 39 = .ok (.if_icmp .ge 26, 3) := by decide +kernel
theorem dX12_nearest_42 : decode cX12_nearest 42 = .ok (.aload_n 0, 1) := by decide +kernel
theorem dX12_nearest_43 : decode cX12_nearest 43 = .ok (.getfield 110, 3) := by decide +kernel
theorem dX12_nearest_46 : decode cX12_nearest 46 = .ok (.iload_n 3, 1) := by decide +kernel
theorem dX12_nearest_47 : decode cX12_nearest 47 = .ok (.aload_n 0, 1) := by decide +kernel
theorem dX12_nearest_48 : decode cX12_nearest 48 = .ok (.getfield 122, 3) := by decide +kernel
theorem dX12_nearest_51 : decode cX12_nearest 51 = .ok (.bipush 40, 2) := by decide +kernel
theorem dX12_nearest_53 : decode cX12_nearest 53 = .ok (.iload_n 1, 1) := by decide +kernel
theorem dX12_nearest_54 : decode cX12_nearest 54 = .ok (.imul, 1) := by decide +kernel
theorem dX12_nearest_55 : decode cX12_nearest 55 = .ok (.iload_n 3, 1) := by decide +kernel
theorem dX12_nearest_56 : decode cX12_nearest 56 = .ok (.iadd, 1) := by decide +kernel
theorem dX12_nearest_57 : decode cX12_nearest 57 = .ok (.iaload, 1) := by decide +kernel
theorem dX12_nearest_58 : decode cX12_nearest 58 = .ok (.iastore, 1) := by decide +kernel
theorem dX12_nearest_59 : decode cX12_nearest 59 = .ok (.iinc 3 1, 3) := by decide +kernel
theorem dX12_nearest_62 : decode cX12_nearest 62 = .ok (.goto (-30), 3) := by decide +kernel
theorem dX12_nearest_65 : decode cX12_nearest 65 = .ok (.iconst (-1), 1) := by decide +kernel
theorem dX12_nearest_66 : decode cX12_nearest 66 = .ok (.istore_n 3, 1) := by decide +kernel
theorem dX12_nearest_67 : decode cX12_nearest 67 = .ok (.iconst 0, 1) := by decide +kernel
theorem dX12_nearest_68 : decode cX12_nearest 68 = .ok (.istore 4, 2) := by decide +kernel
theorem dX12_nearest_70 : decode cX12_nearest 70 = .ok (.iconst 0, 1) := by decide +kernel
theorem dX12_nearest_71 : decode cX12_nearest 71 = .ok (.istore 5, 2) := by decide +kernel
theorem dX12_nearest_73 : decode cX12_nearest 73 = .ok (.iload 5, 2) := by decide +kernel
theorem dX12_nearest_75 : decode cX12_nearest 75 = .ok (.aload_n 0, 1) := by decide +kernel
theorem dX12_nearest_76 : decode cX12_nearest 76 = .ok (.invokevirtual 148, 3) := by decide +kernel
theorem dX12_nearest_79 : decode cX12_nearest 79 = .ok (.if_icmp .gt 85, 3) := by decide +kernel
theorem dX12_nearest_82 : decode cX12_nearest 82 = .ok (.aload_n 0, 1) := by decide +kernel
theorem dX12_nearest_83 : decode cX12_nearest 83 = .ok (.getfield 75, 3) := by decide +kernel
theorem dX12_nearest_86 : decode cX12_nearest 86 = .ok (.iload 5, 2) := by decide +kernel
theorem dX12_nearest_88 : decode cX12_nearest 88 = .ok (.baload, 1) := by decide +kernel
theorem dX12_nearest_89 : decode cX12_nearest 89 = .ok (.ifCond .eq 69, 3) := by decide +kernel
theorem dX12_nearest_92 : decode cX12_nearest 92 = .ok (.aload_n 0, 1) := by decide +kernel
theorem dX12_nearest_93 : decode cX12_nearest 93 = .ok (.aload_n 0, 1) := by decide +kernel
theorem dX12_nearest_94 : decode cX12_nearest 94 = .ok (.iload 5, 2) := by decide +kernel
theorem dX12_nearest_96 : decode cX12_nearest 96 = .ok (.aload_n 0, 1) := by decide +kernel
theorem dX12_nearest_97 : decode cX12_nearest 97 = .ok (.getfield 107, 3) := by decide +kernel
theorem dX12_nearest_100 : decode cX12_nearest 100 = .ok (.invokevirtual 356, 3) := by decide +kernel
theorem dX12_nearest_103 : decode cX12_nearest 103 = .ok (.aload_n 0, 1) := by decide +kernel
theorem dX12_nearest_104 : decode cX12_nearest 104 = .ok (.getfield 119, 3) := by decide +kernel
theorem dX12_nearest_107 : decode cX12_nearest 107 = .ok (.iload_n 1, 1) := by decide +kernel
theorem dX12_nearest_108 : decode cX12_nearest 108 = .ok (.iaload, 1) := by decide +kernel
theorem dX12_nearest_109 : decode cX12_nearest 109 = .ok (.invokevirtual 360, 3) := by decide +kernel
theorem dX12_nearest_112 : decode cX12_nearest 112 = .ok (.istore 6, 2) := by decide +kernel
theorem dX12_nearest_114 : decode cX12_nearest 114 = .ok (.iload_n 3, 1) := by decide +kernel
theorem dX12_nearest_115 : decode cX12_nearest 115 = .ok (.ifCond .lt 10, 3) := by decide +kernel
theorem dX12_nearest_118 : decode cX12_nearest 118 = .ok (.iload 6, 2) := by decide +kernel
theorem dX12_nearest_120 : decode cX12_nearest 120 = .ok (.iload 4, 2) := by decide +kernel
theorem dX12_nearest_122 : decode cX12_nearest 122 = .ok (.if_icmp .ge 7, 3) := by decide +kernel
theorem dX12_nearest_125 : decode cX12_nearest 125 = .ok (.iconst 1, 1) := by decide +kernel
theorem dX12_nearest_126 : decode cX12_nearest 126 = .ok (.goto 4, 3) := by decide +kernel
theorem dX12_nearest_129 : decode cX12_nearest 129 = .ok (.iconst 0, 1) := by decide +kernel
theorem dX12_nearest_130 : decode cX12_nearest 130 = .ok (.istore 7, 2) := by decide +kernel
theorem dX12_nearest_132 : decode cX12_nearest 132 = .ok (.iload 7, 2) := by decide +kernel
theorem dX12_nearest_134 : decode cX12_nearest 134 = .ok (.ifCond .eq 8, 3) := by decide +kernel
theorem dX12_nearest_137 : decode cX12_nearest 137 = .ok (.iload 5, 2) := by decide +kernel
theorem dX12_nearest_139 : decode cX12_nearest 139 = .ok (.goto 4, 3) := by decide +kernel
theorem dX12_nearest_142 : decode cX12_nearest 142 = .ok (.iload_n 3, 1) := by decide +kernel
theorem dX12_nearest_143 : decode cX12_nearest 143 = .ok (.istore_n 3, 1) := by decide +kernel
theorem dX12_nearest_144 : decode cX12_nearest 144 = .ok (.iload 7, 2) := by decide +kernel
theorem dX12_nearest_146 : decode cX12_nearest 146 = .ok (.ifCond .eq 8, 3) := by decide +kernel
theorem dX12_nearest_149 : decode cX12_nearest 149 = .ok (.iload 6, 2) := by decide +kernel
theorem dX12_nearest_151 : decode cX12_nearest 151 = .ok (.goto 5, 3) := by decide +kernel
theorem dX12_nearest_154 : decode cX12_nearest 154 = .ok (.iload 4, 2) := by decide +kernel
theorem dX12_nearest_156 : decode cX12_nearest 156 = .ok (.istore 4, 2) := by decide +kernel
theorem dX12_nearest_158 : decode cX12_nearest 158 = .ok (.iinc 5 1, 3) := by decide +kernel
theorem dX12_nearest_161 : decode cX12_nearest 161 = .ok (.goto (-88), 3) := by decide +kernel
theorem dX12_nearest_164 : decode cX12_nearest 164 = .ok (.iload_n 2, 1) := by decide +kernel
theorem dX12_nearest_165 : decode cX12_nearest 165 = .ok (.ifCond .ne 8, 3) := by decide +kernel
theorem dX12_nearest_168 : decode cX12_nearest 168 = .ok (.iload 4, 2) := by decide +kernel
theorem dX12_nearest_170 : decode cX12_nearest 170 = .ok (.goto 4, 3) := by decide +kernel
theorem dX12_nearest_173 : decode cX12_nearest 173 = .ok (.iload_n 3, 1) := by decide +kernel
theorem dX12_nearest_174 : decode cX12_nearest 174 = .ok (.ireturn, 1) := by decide +kernel
theorem dX12_bar_0 : decode cX12_bar 0 = .ok (.iload_n 1, 1) := by decide +kernel
theorem dX12_bar_1 : decode cX12_bar 1 = .ok (.i2l, 1) := by decide +kernel
theorem dX12_bar_2 : decode cX12_bar 2 = .ok (.lconst 0, 1) := by decide +kernel
theorem dX12_bar_3 : decode cX12_bar 3 = .ok (.ldc2_w 349, 3) := by decide +kernel
theorem dX12_bar_6 : decode cX12_bar 6 = .ok (.invokestatic 144, 3) := by decide +kernel
theorem dX12_bar_9 : decode cX12_bar 9 = .ok (.ifCond .eq 15, 3) := by decide +kernel
theorem dX12_bar_12 : decode cX12_bar 12 = .ok (.iload_n 2, 1) := by decide +kernel
theorem dX12_bar_13 : decode cX12_bar 13 = .ok (.i2l, 1) := by decide +kernel
theorem dX12_bar_14 : decode cX12_bar 14 = .ok (.lconst 0, 1) := by decide +kernel
theorem dX12_bar_15 : decode cX12_bar 15 = .ok (.ldc2_w 349, 3) := by decide +kernel
theorem dX12_bar_18 : decode cX12_bar 18 = .ok (.invokestatic 144, 3) := by decide +kernel
theorem dX12_bar_21 : decode cX12_bar 21 = .ok (.ifCond .ne 7, 3) := by decide +kernel
theorem dX12_bar_24 : decode cX12_bar 24 = .ok (.sipush (-1002), 3) := by decide +kernel
theorem dX12_bar_27 : decode cX12_bar 27 = .ok (.ireturn, 1) := by decide +kernel
theorem dX12_bar_28 : decode cX12_bar 28 = .ok (.aload_n 0, 1) := by decide +kernel
theorem dX12_bar_29 : decode cX12_bar 29 = .ok (.getfield 131, 3) := by decide +kernel
theorem dX12_bar_32 : decode cX12_bar 32 = .ok (.bipush 100, 2) := by decide +kernel
theorem dX12_bar_34 : decode cX12_bar 34 = .ok (.iload_n 1, 1) := by decide +kernel
theorem dX12_bar_35 : decode cX12_bar 35 = .ok (.imul, 1) := by decide +kernel
theorem dX12_bar_36 : decode cX12_bar 36 = .ok (.iload_n 2, 1) := by decide +kernel
theorem dX12_bar_37 : decode cX12_bar 37 = .ok (.iadd, 1) := by decide +kernel
theorem dX12_bar_38 : decode cX12_bar 38 = .ok (.baload, 1) := by decide +kernel
theorem dX12_bar_39 : decode cX12_bar 39 = .ok (.istore 4, 2) := by decide +kernel
theorem dX12_bar_41 : decode cX12_bar 41 = .ok (.iload_n 3, 1) := by decide +kernel
theorem dX12_bar_42 : decode cX12_bar 42 = .ok (.ifCond .eq 21, 3) := by decide +kernel
theorem dX12_bar_45 : decode cX12_bar 45 = .ok (.iload 4, 2) := by decide +kernel
theorem dX12_bar_47 : decode cX12_bar 47 = .ok (.ifCond .ne 16, 3) := by decide +kernel
theorem dX12_bar_50 : decode cX12_bar 50 = .ok (.aload_n 0, 1) := by decide +kernel
theorem dX12_bar_51 : decode cX12_bar 51 = .ok (.getfield 298, 3) := by decide +kernel
theorem dX12_bar_54 : decode cX12_bar 54 = .ok (.bipush 20, 2) := by decide +kernel
theorem dX12_bar_56 : decode cX12_bar 56 = .ok (.if_icmp .ne 7, 3) := by decide +kernel
theorem dX12_bar_59 : decode cX12_bar 59 = .ok (.sipush (-1004), 3) := by decide +kernel
theorem dX12_bar_62 : decode cX12_bar 62 = .ok (.ireturn, 1) := by decide +kernel
theorem dX12_bar_63 : decode cX12_bar 63 = .ok (.aload_n 0, 1) := by decide +kernel
theorem dX12_bar_64 : decode cX12_bar 64 = .ok (.getfield 131, 3) := by decide +kernel
theorem dX12_bar_67 : decode cX12_bar 67 = .ok (.bipush 100, 2) := by decide +kernel
theorem dX12_bar_69 : decode cX12_bar 69 = .ok (.iload_n 1, 1) := by decide +kernel
theorem dX12_bar_70 : decode cX12_bar 70 = .ok (.imul, 1) := by decide +kernel
theorem dX12_bar_71 : decode cX12_bar 71 = .ok (.iload_n 2, 1) := by decide +kernel
theorem dX12_bar_72 : decode cX12_bar 72 = .ok (.iadd, 1) := by decide +kernel
theorem dX12_bar_73 : decode cX12_bar 73 = .ok (.iload_n 3, 1) := by decide +kernel
theorem dX12_bar_74 : decode cX12_bar 74 = .ok (.bastore, 1) := by decide +kernel
theorem dX12_bar_75 : decode cX12_bar 75 = .ok (.aload_n 0, 1) := by decide +kernel
theorem dX12_bar_76 : decode cX12_bar 76 = .ok (.dup, 1) := by decide +kernel
theorem dX12_bar_77 : decode cX12_bar 77 = .ok (.getfield 298, 3) := by decide +kernel
theorem dX12_bar_80 : decode cX12_bar 80 = .ok (.iload_n 3, 1) := by decide +kernel
theorem dX12_bar_81 : decode cX12_bar 81 = .ok (.iload 4, 2) := by decide +kernel
theorem dX12_bar_83 : decode cX12_bar 83 = .ok (.if_icmp .ne 7, 3) := by decide +kernel
theorem dX12_bar_86 : decode cX12_bar 86 = .ok (.iconst 0, 1) := by decide +kernel
theorem dX12_bar_87 : decode cX12_bar 87 = .ok (.goto 12, 3) := by decide +kernel
theorem dX12_bar_90 : decode cX12_bar 90 = .ok (.iload_n 3, 1) := by decide +kernel
theorem dX12_bar_91 : decode cX12_bar 91 = .ok (.ifCond .eq 7, 3) := by decide +kernel
theorem dX12_bar_94 : decode cX12_bar 94 = .ok (.iconst 1, 1) := by decide +kernel
theorem dX12_bar_95 : decode cX12_bar 95 = .ok (.goto 4, 3) := by decide +kernel
theorem dX12_bar_98 : decode cX12_bar 98 = .ok (.iconst (-1), 1) := by decide +kernel
theorem dX12_bar_99 : decode cX12_bar 99 = .ok (.iadd, 1) := by decide +kernel
theorem dX12_bar_100 : decode cX12_bar 100 = .ok (.putfield 298, 3) := by decide +kernel
theorem dX12_bar_103 : decode cX12_bar 103 = .ok (.iload 4, 2) := by decide +kernel
theorem dX12_bar_105 : decode cX12_bar 105 = .ok (.ifCond .eq 7, 3) := by decide +kernel
theorem dX12_bar_108 : decode cX12_bar 108 = .ok (.iconst 1, 1) := by decide +kernel
theorem dX12_bar_109 : decode cX12_bar 109 = .ok (.goto 4, 3) := by decide +kernel
theorem dX12_bar_112 : decode cX12_bar 112 = .ok (.iconst 0, 1) := by decide +kernel
theorem dX12_bar_113 : decode cX12_bar 113 = .ok (.ireturn, 1) := by decide +kernel
theorem dX12_breaksOf_0 : decode cX12_breaksOf 0 = .ok (.aload_n 0, 1) := by decide +kernel
theorem dX12_breaksOf_1 : decode cX12_breaksOf 1 = .ok (.invokevirtual 340, 3) := by decide +kernel
theorem dX12_breaksOf_4 : decode cX12_breaksOf 4 = .ok (.iconst 0, 1) := by decide +kernel
theorem dX12_breaksOf_5 : decode cX12_breaksOf 5 = .ok (.istore_n 2, 1) := by decide +kernel
theorem dX12_breaksOf_6 : decode cX12_breaksOf 6 = .ok (.iconst 1, 1) := by decide +kernel
theorem dX12_breaksOf_7 : decode cX12_breaksOf 7 = .ok (.istore_n 3, 1) := by decide +kernel
theorem dX12_breaksOf_8 : decode cX12_breaksOf 8 = .ok (.iload_n 3, 1) := by decide +kernel
theorem dX12_breaksOf_9 : decode cX12_breaksOf 9 = .ok (.aload_n 0, 1) := by decide +kernel
theorem dX12_breaksOf_10 : decode cX12_breaksOf 10 = .ok (.getfield 94, 3) := by decide +kernel
theorem dX12_breaksOf_13 : decode cX12_breaksOf 13 = .ok (.iload_n 1, 1) := by decide +kernel
theorem dX12_breaksOf_14 : decode cX12_breaksOf 14 = .ok (.iaload, 1) := by decide +kernel
theorem dX12_breaksOf_15 : decode cX12_breaksOf 15 = .ok (.if_icmp .ge 53, 3) := by decide +kernel
theorem dX12_breaksOf_18 : decode cX12_breaksOf 18 = .ok (.iload_n 2, 1) := by decide +kernel
theorem dX12_breaksOf_19 : decode cX12_breaksOf 19 = .ok (.aload_n 0, 1) := by decide +kernel
theorem dX12_breaksOf_20 : decode cX12_breaksOf 20 = .ok (.getfield 131, 3) := by decide +kernel
theorem dX12_breaksOf_23 : decode cX12_breaksOf 23 = .ok (.bipush 100, 2) := by decide +kernel
theorem dX12_breaksOf_25 : decode cX12_breaksOf 25 = .ok (.aload_n 0, 1) := by decide +kernel
theorem dX12_breaksOf_26 : decode cX12_breaksOf 26 = .ok (.getfield 98, 3) := by decide +kernel
theorem dX12_breaksOf_29 : decode cX12_breaksOf 29 = .ok (.bipush 40, 2) := by decide +kernel
theorem dX12_breaksOf_31 : decode cX12_breaksOf 31 = .ok (.iload_n 1, 1) := by decide +kernel
theorem dX12_breaksOf_32 : decode cX12_breaksOf 32 = .ok (.imul, 1) := by decide +kernel
theorem dX12_breaksOf_33 : decode cX12_breaksOf 33 = .ok (.iload_n 3, 1) := by decide +kernel
theorem dX12_breaksOf_34 : decode cX12_breaksOf 34 = .ok (.iadd, 1) := by decide +kernel
theorem dX12_breaksOf_35 : decode cX12_breaksOf 35 = .ok (.iconst 1, 1) := by decide +kernel
theorem dX12_breaksOf_36 : decode cX12_breaksOf 36 = .ok (.isub, 1) := by decide +kernel
theorem dX12_breaksOf_37 : decode cX12_breaksOf 37 = .ok (.iaload, 1) := by decide +kernel
theorem dX12_breaksOf_38 : decode cX12_breaksOf 38 = .ok (.imul, 1) := by decide +kernel
theorem dX12_breaksOf_39 : decode cX12_breaksOf 39 = .ok (.aload_n 0, 1) := by decide +kernel
theorem dX12_breaksOf_40 : decode cX12_breaksOf 40 = .ok (.getfield 98, 3) := by decide +kernel
theorem dX12_breaksOf_43 : decode cX12_breaksOf 43 = .ok (.bipush 40, 2) := by decide +kernel
theorem dX12_breaksOf_45 : decode cX12_breaksOf 45 = .ok (.iload_n 1, 1) := by decide +kernel
theorem dX12_breaksOf_46 : decode cX12_breaksOf 46 = .ok (.imul, 1) := by decide +kernel
theorem dX12_breaksOf_47 : decode cX12_breaksOf 47 = .ok (.iload_n 3, 1) := by decide +kernel
theorem dX12_breaksOf_48 : decode cX12_breaksOf 48 = .ok (.iadd, 1) := by decide +kernel
theorem dX12_breaksOf_49 : decode cX12_breaksOf 49 = .ok (.iaload, 1) := by decide +kernel
theorem dX12_breaksOf_50 : decode cX12_breaksOf 50 = .ok (.iadd, 1) := by decide +kernel
theorem dX12_breaksOf_51 : decode cX12_breaksOf 51 = .ok (.baload, 1) := by decide +kernel
theorem dX12_breaksOf_52 : decode cX12_breaksOf 52 = .ok (.ifCond .eq 7, 3) := by decide +kernel
theorem dX12_breaksOf_55 : decode cX12_breaksOf 55 = .ok (.iconst 1, 1) := by decide +kernel
theorem dX12_breaksOf_56 : decode cX12_breaksOf 56 = .ok (.goto 4, 3) := by decide +kernel
theorem dX12_breaksOf_59 : decode cX12_breaksOf 59 = .ok (.iconst 0, 1) := by decide +kernel
theorem dX12_breaksOf_60 : decode cX12_breaksOf 60 = .ok (.iadd, 1) := by decide +kernel
theorem dX12_breaksOf_61 : decode cX12_breaksOf 61 = .ok (.istore_n 2, 1) := by decide +kernel
theorem dX12_breaksOf_62 : decode cX12_breaksOf 62 = .ok (.iinc 3 1, 3) := by decide +kernel
theorem dX12_breaksOf_65 : decode cX12_breaksOf 65 = .ok (.goto (-57), 3) := by decide +kernel
theorem dX12_breaksOf_68 : decode cX12_breaksOf 68 = .ok (.iload_n 2, 1) := by decide +kernel
theorem dX12_breaksOf_69 : decode cX12_breaksOf 69 = .ok (.ireturn, 1) := by decide +kernel
theorem dX12_breaks_0 : decode cX12_breaks 0 = .ok (.aload_n 0, 1) := by decide +kernel
theorem dX12_breaks_1 : decode cX12_breaks 1 = .ok (.iload_n 1, 1) := by decide +kernel
theorem dX12_breaks_2 : decode cX12_breaks 2 = .ok (.invokevirtual 310, 3) := by decide +kernel
theorem dX12_breaks_5 : decode cX12_breaks 5 = .ok (.ifCond .ne 7, 3) := by decide +kernel
theorem dX12_breaks_8 : decode cX12_breaks 8 = .ok (.sipush (-1001), 3) := by decide +kernel
theorem dX12_breaks_11 : decode cX12_breaks 11 = .ok (.ireturn, 1) := by decide +kernel
theorem dX12_breaks_12 : decode cX12_breaks 12 = .ok (.aload_n 0, 1) := by decide +kernel
theorem dX12_breaks_13 : decode cX12_breaks 13 = .ok (.iload_n 1, 1) := by decide +kernel
theorem dX12_breaks_14 : decode cX12_breaks 14 = .ok (.invokevirtual 313, 3) := by decide +kernel
theorem dX12_breaks_17 : decode cX12_breaks 17 = .ok (.ifCond .eq 11, 3) := by decide +kernel
theorem dX12_breaks_20 : decode cX12_breaks 20 = .ok (.aload_n 0, 1) := by decide +kernel
theorem dX12_breaks_21 : decode cX12_breaks 21 = .ok (.iload_n 1, 1) := by decide +kernel
theorem dX12_breaks_22 : decode cX12_breaks 22 = .ok (.invokevirtual 319, 3) := by decide +kernel
theorem dX12_breaks_25 : decode cX12_breaks 25 = .ok (.goto 6, 3) := by decide +kernel
theorem dX12_breaks_28 : decode cX12_breaks 28 = .ok (.sipush (-1003), 3) := by decide +kernel
theorem dX12_breaks_31 : decode cX12_breaks 31 = .ok (.ireturn, 1) := by decide +kernel
theorem dX12_clean_0 : decode cX12_clean 0 = .ok (.aload_n 0, 1) := by decide +kernel
theorem dX12_clean_1 : decode cX12_clean 1 = .ok (.invokevirtual 340, 3) := by decide +kernel
theorem dX12_clean_4 : decode cX12_clean 4 = .ok (.iconst 0, 1) := by decide +kernel
theorem dX12_clean_5 : decode cX12_clean 5 = .ok (.istore_n 1, 1) := by decide +kernel
theorem dX12_clean_6 : decode cX12_clean 6 = .ok (.iload_n 1, 1) := by decide +kernel
theorem dX12_clean_7 : decode cX12_clean 7 = .ok (.aload_n 0, 1) := by decide +kernel
theorem dX12_clean_8 : decode cX12_clean 8 = .ok (.invokevirtual 148, 3) := by decide +kernel
theorem dX12_clean_11 : decode cX12_clean 11 = .ok (.if_icmp .gt 153, 3) := by decide +kernel
theorem dX12_clean_14 : decode cX12_clean 14 = .ok (.aload_n 0, 1) := by decide +kernel
theorem dX12_clean_15 : decode cX12_clean 15 = .ok (.getfield 134, 3) := by decide +kernel
theorem dX12_clean_18 : decode cX12_clean 18 = .ok (.iload_n 1, 1) := by decide +kernel
theorem dX12_clean_19 : decode cX12_clean 19 = .ok (.iload_n 1, 1) := by decide +kernel
theorem dX12_clean_20 : decode cX12_clean 20 = .ok (.ifCond .ne 7, 3) := by decide +kernel
theorem dX12_clean_23 : decode cX12_clean 23 = .ok (.lconst 1, 1) := by decide +kernel
theorem dX12_clean_24 : decode cX12_clean 24 = .ok (.goto 4, 3) := by decide +kernel
theorem dX12_clean_27 : decode cX12_clean 27 = .ok (.lconst 0, 1) := by decide +kernel
theorem dX12_clean_28 : decode cX12_clean 28 = .ok (.lastore, 1) := by decide +kernel
theorem dX12_clean_29 : decode cX12_clean 29 = .ok (.iconst 0, 1) := by decide +kernel
theorem dX12_clean_30 : decode cX12_clean 30 = .ok (.istore_n 2, 1) := by decide +kernel
theorem dX12_clean_31 : decode cX12_clean 31 = .ok (.iload_n 2, 1) := by decide +kernel
theorem dX12_clean_32 : decode cX12_clean 32 = .ok (.aload_n 0, 1) := by decide +kernel
theorem dX12_clean_33 : decode cX12_clean 33 = .ok (.getfield 141, 3) := by decide +kernel
theorem dX12_clean_36 : decode cX12_clean 36 = .ok (.if_icmp .ge 89, 3) := by decide +kernel
theorem dX12_clean_39 : decode cX12_clean 39 = .ok (.aload_n 0, 1) := by decide +kernel
theorem dX12_clean_40 : decode cX12_clean 40 = .ok (.getfield 75, 3) := by decide +kernel
theorem dX12_clean_43 : decode cX12_clean 43 = .ok (.iload_n 1, 1) := by decide +kernel
theorem dX12_clean_44 : decode cX12_clean 44 = .ok (.baload, 1) := by decide +kernel
theorem dX12_clean_45 : decode cX12_clean 45 = .ok (.ifCond .eq 80, 3) := by decide +kernel
theorem dX12_clean_48 : decode cX12_clean 48 = .ok (.iload_n 1, 1) := by decide +kernel
theorem dX12_clean_49 : decode cX12_clean 49 = .ok (.iload_n 2, 1) := by decide +kernel
theorem dX12_clean_50 : decode cX12_clean 50 = .ok (.invokestatic 189, 3) := by decide +kernel
theorem dX12_clean_53 : decode cX12_clean 53 = .ok (.ifCond .eq 37, 3) := by decide +kernel
theorem dX12_clean_56 : decode cX12_clean 56 = .ok (.aload_n 0, 1) := by decide +kernel
theorem dX12_clean_57 : decode cX12_clean 57 = .ok (.getfield 78, 3) := by decide +kernel
theorem dX12_clean_60 : decode cX12_clean 60 = .ok (.iload_n 1, 1) := by decide +kernel
theorem dX12_clean_61 : decode cX12_clean 61 = .ok (.iconst 1, 1) := by decide +kernel
theorem dX12_clean_62 : decode cX12_clean 62 = .ok (.iload_n 2, 1) := by decide +kernel
theorem dX12_clean_63 : decode cX12_clean 63 = .ok (.ishl, 1) := by decide +kernel
theorem dX12_clean_64 : decode cX12_clean 64 = .ok (.ixor, 1) := by decide +kernel
theorem dX12_clean_65 : decode cX12_clean 65 = .ok (.iaload, 1) := by decide +kernel
theorem dX12_clean_66 : decode cX12_clean 66 = .ok (.iload_n 2, 1) := by decide +kernel
theorem dX12_clean_67 : decode cX12_clean 67 = .ok (.invokestatic 189, 3) := by decide +kernel
theorem dX12_clean_70 : decode cX12_clean 70 = .ok (.ifCond .eq 20, 3) := by decide +kernel
theorem dX12_clean_73 : decode cX12_clean 73 = .ok (.aload_n 0, 1) := by decide +kernel
theorem dX12_clean_74 : decode cX12_clean 74 = .ok (.getfield 75, 3) := by decide +kernel
theorem dX12_clean_77 : decode cX12_clean 77 = .ok (.iload_n 1, 1) := by decide +kernel
theorem dX12_clean_78 : decode cX12_clean 78 = .ok (.iconst 1, 1) := by decide +kernel
theorem dX12_clean_79 : decode cX12_clean 79 = .ok (.iload_n 2, 1) := by decide +kernel
theorem dX12_clean_80 : decode cX12_clean 80 = .ok (.ishl, 1) := by decide +kernel
theorem dX12_clean_81 : decode cX12_clean 81 = .ok (.ixor, 1) := by decide +kernel
theorem dX12_clean_82 : decode cX12_clean 82 = .ok (.baload, 1) := by decide +kernel
theorem dX12_clean_83 : decode cX12_clean 83 = .ok (.ifCond .eq 7, 3) := by decide +kernel
theorem dX12_clean_86 : decode cX12_clean 86 = .ok (.iconst 1, 1) := by decide +kernel
theorem dX12_clean_87 : decode cX12_clean 87 = .ok (.goto 4, 3) := by decide +kernel
theorem dX12_clean_90 : decode cX12_clean 90 = .ok (.iconst 0, 1) := by decide +kernel
theorem dX12_clean_91 : decode cX12_clean 91 = .ok (.istore_n 3, 1) := by decide +kernel
theorem dX12_clean_92 : decode cX12_clean 92 = .ok (.aload_n 0, 1) := by decide +kernel
theorem dX12_clean_93 : decode cX12_clean 93 = .ok (.getfield 134, 3) := by decide +kernel
theorem dX12_clean_96 : decode cX12_clean 96 = .ok (.iload_n 1, 1) := by decide +kernel
theorem dX12_clean_97 : decode cX12_clean 97 = .ok (.dup2, 1) := by decide +kernel
theorem dX12_clean_98 : decode cX12_clean 98 = .ok (.laload, 1) := by decide +kernel
theorem dX12_clean_99 : decode cX12_clean 99 = .ok (.iload_n 3, 1) := by decide +kernel
theorem dX12_clean_100 : decode cX12_clean 100 = .ok (.ifCond .eq 16, 3) := by decide +kernel
theorem dX12_clean_103 : decode cX12_clean 103 = .ok (.aload_n 0, 1) := by decide +kernel
theorem dX12_clean_104 : decode cX12_clean 104 = .ok (.getfield 134, 3) := by decide +kernel
theorem dX12_clean_107 : decode cX12_clean 107 = .ok (.iload_n 1, 1) := by decide +kernel
theorem dX12_clean_108 : decode cX12_clean 108 = .ok (.iconst 1, 1) := by decide +kernel
theorem dX12_clean_109 : decode cX12_clean 109 = .ok (.iload_n 2, 1) := by decide +kernel
theorem dX12_clean_110 : decode cX12_clean 110 = .ok (.ishl, 1) := by decide +kernel
theorem dX12_clean_111 : decode cX12_clean 111 = .ok (.ixor, 1) := by decide +kernel
theorem dX12_clean_112 : decode cX12_clean 112 = .ok (.laload, 1) := by decide +kernel
theorem dX12_clean_113 : decode cX12_clean 113 = .ok (.goto 4, 3) := by decide +kernel
theorem dX12_clean_116 : decode cX12_clean 116 = .ok (.lconst 0, 1) := by decide +kernel
theorem dX12_clean_117 : decode cX12_clean 117 = .ok (.ladd, 1) := by decide +kernel
theorem dX12_clean_118 : decode cX12_clean 118 = .ok (.lastore, 1) := by decide +kernel
theorem dX12_clean_119 : decode cX12_clean 119 = .ok (.iinc 2 1, 3) := by decide +kernel
theorem dX12_clean_122 : decode cX12_clean 122 = .ok (.goto (-91), 3) := by decide +kernel
theorem dX12_clean_125 : decode cX12_clean 125 = .ok (.aload_n 0, 1) := by decide +kernel
theorem dX12_clean_126 : decode cX12_clean 126 = .ok (.getfield 134, 3) := by decide +kernel
theorem dX12_clean_129 : decode cX12_clean 129 = .ok (.iload_n 1, 1) := by decide +kernel
theorem dX12_clean_130 : decode cX12_clean 130 = .ok (.aload_n 0, 1) := by decide +kernel
theorem dX12_clean_131 : decode cX12_clean 131 = .ok (.getfield 75, 3) := by decide +kernel
theorem dX12_clean_134 : decode cX12_clean 134 = .ok (.iload_n 1, 1) := by decide +kernel
theorem dX12_clean_135 : decode cX12_clean 135 = .ok (.baload, 1) := by decide +kernel
theorem dX12_clean_136 : decode cX12_clean 136 = .ok (.ifCond .eq 20, 3) := by decide +kernel
theorem dX12_clean_139 : decode cX12_clean 139 = .ok (.aload_n 0, 1) := by decide +kernel
theorem dX12_clean_140 : decode cX12_clean 140 = .ok (.iload_n 1, 1) := by decide +kernel
theorem dX12_clean_141 : decode cX12_clean 141 = .ok (.invokevirtual 319, 3) := by decide +kernel
theorem dX12_clean_144 : decode cX12_clean 144 = .ok (.ifCond .ne 12, 3) := by decide +kernel
theorem dX12_clean_147 : decode cX12_clean 147 = .ok (.aload_n 0, 1) := by decide +kernel
theorem dX12_clean_148 : decode cX12_clean 148 = .ok (.getfield 134, 3) := by decide +kernel
theorem dX12_clean_151 : decode cX12_clean 151 = .ok (.iload_n 1, 1) := by decide +kernel
theorem dX12_clean_152 : decode cX12_clean 152 = .ok (.laload, 1) := by decide +kernel
theorem dX12_clean_153 : decode cX12_clean 153 = .ok (.goto 4, 3) := by decide +kernel
theorem dX12_clean_156 : decode cX12_clean 156 = .ok (.lconst 0, 1) := by decide +kernel
theorem dX12_clean_157 : decode cX12_clean 157 = .ok (.lastore, 1) := by decide +kernel
theorem dX12_clean_158 : decode cX12_clean 158 = .ok (.iinc 1 1, 3) := by decide +kernel
theorem dX12_clean_161 : decode cX12_clean 161 = .ok (.goto (-155), 3) := by decide +kernel
theorem dX12_clean_164 : decode cX12_clean 164 = .ok (.aload_n 0, 1) := by decide +kernel
theorem dX12_clean_165 : decode cX12_clean 165 = .ok (.getfield 134, 3) := by decide +kernel
theorem dX12_clean_168 : decode cX12_clean 168 = .ok (.aload_n 0, 1) := by decide +kernel
theorem dX12_clean_169 : decode cX12_clean 169 = .ok (.invokevirtual 148, 3) := by decide +kernel
theorem dX12_clean_172 : decode cX12_clean 172 = .ok (.laload, 1) := by decide +kernel
theorem dX12_clean_173 : decode cX12_clean 173 = .ok (.lreturn, 1) := by decide +kernel
theorem dX12_least_0 : decode cX12_least 0 = .ok (.aload_n 0, 1) := by decide +kernel
theorem dX12_least_1 : decode cX12_least 1 = .ok (.invokevirtual 322, 3) := by decide +kernel
theorem dX12_least_4 : decode cX12_least 4 = .ok (.aload_n 0, 1) := by decide +kernel
theorem dX12_least_5 : decode cX12_least 5 = .ok (.getfield 141, 3) := by decide +kernel
theorem dX12_least_8 : decode cX12_least 8 = .ok (.ifCond .ne 7, 3) := by decide +kernel
theorem dX12_least_11 : decode cX12_least 11 = .ok (.iconst 0, 1) := by decide +kernel
theorem dX12_least_12 : decode cX12_least 12 = .ok (.goto 9, 3) := by decide +kernel
theorem dX12_least_15 : decode cX12_least 15 = .ok (.aload_n 0, 1) := by decide +kernel
theorem dX12_least_16 : decode cX12_least 16 = .ok (.getfield 91, 3) := by decide +kernel
theorem dX12_least_19 : decode cX12_least 19 = .ok (.iconst 0, 1) := by decide +kernel
theorem dX12_least_20 : decode cX12_least 20 = .ok (.iaload, 1) := by decide +kernel
theorem dX12_least_21 : decode cX12_least 21 = .ok (.ireturn, 1) := by decide +kernel
theorem dJ6_bitCount_0f7a4_0 : decode cJ6_bitCount_0f7a4 0 = .ok (.iload_n 0, 1) := by decide +kernel
theorem dJ6_bitCount_0f7a4_1 : decode cJ6_bitCount_0f7a4 1 = .ok (.iload_n 0, 1) := by decide +kernel
theorem dJ6_bitCount_0f7a4_2 : decode cJ6_bitCount_0f7a4 2 = .ok (.iconst 1, 1) := by decide +kernel
theorem dJ6_bitCount_0f7a4_3 : decode cJ6_bitCount_0f7a4 3 = .ok (.iushr, 1) := by decide +kernel
theorem dJ6_bitCount_0f7a4_4 : decode cJ6_bitCount_0f7a4 4 = .ok (.ldc_w 265, 3) := by decide +kernel
theorem dJ6_bitCount_0f7a4_7 : decode cJ6_bitCount_0f7a4 7 = .ok (.iand, 1) := by decide +kernel
theorem dJ6_bitCount_0f7a4_8 : decode cJ6_bitCount_0f7a4 8 = .ok (.isub, 1) := by decide +kernel
theorem dJ6_bitCount_0f7a4_9 : decode cJ6_bitCount_0f7a4 9 = .ok (.istore_n 0, 1) := by decide +kernel
theorem dJ6_bitCount_0f7a4_10 : decode cJ6_bitCount_0f7a4 10 = .ok (.iload_n 0, 1) := by decide +kernel
theorem dJ6_bitCount_0f7a4_11 : decode cJ6_bitCount_0f7a4 11 = .ok (.ldc_w 266, 3) := by decide +kernel
theorem dJ6_bitCount_0f7a4_14 : decode cJ6_bitCount_0f7a4 14 = .ok (.iand, 1) := by decide +kernel
theorem dJ6_bitCount_0f7a4_15 : decode cJ6_bitCount_0f7a4 15 = .ok (.iload_n 0, 1) := by decide +kernel
theorem dJ6_bitCount_0f7a4_16 : decode cJ6_bitCount_0f7a4 16 = .ok (.iconst 2, 1) := by decide +kernel
theorem dJ6_bitCount_0f7a4_17 : decode cJ6_bitCount_0f7a4 17 = .ok (.iushr, 1) := by decide +kernel
theorem dJ6_bitCount_0f7a4_18 : decode cJ6_bitCount_0f7a4 18 = .ok (.ldc_w 266, 3) := by decide +kernel
theorem dJ6_bitCount_0f7a4_21 : decode cJ6_bitCount_0f7a4 21 = .ok (.iand, 1) := by decide +kernel
theorem dJ6_bitCount_0f7a4_22 : decode cJ6_bitCount_0f7a4 22 = .ok (.iadd, 1) := by decide +kernel
theorem dJ6_bitCount_0f7a4_23 : decode cJ6_bitCount_0f7a4 23 = .ok (.istore_n 0, 1) := by decide +kernel
theorem dJ6_bitCount_0f7a4_24 : decode cJ6_bitCount_0f7a4 24 = .ok (.iload_n 0, 1) := by decide +kernel
theorem dJ6_bitCount_0f7a4_25 : decode cJ6_bitCount_0f7a4 25 = .ok (.iload_n 0, 1) := by decide +kernel
theorem dJ6_bitCount_0f7a4_26 : decode cJ6_bitCount_0f7a4 26 = .ok (.iconst 4, 1) := by decide +kernel
theorem dJ6_bitCount_0f7a4_27 : decode cJ6_bitCount_0f7a4 27 = .ok (.iushr, 1) := by decide +kernel
theorem dJ6_bitCount_0f7a4_28 : decode cJ6_bitCount_0f7a4 28 = .ok (.iadd, 1) := by decide +kernel
theorem dJ6_bitCount_0f7a4_29 : decode cJ6_bitCount_0f7a4 29 = .ok (.ldc_w 267, 3) := by decide +kernel
theorem dJ6_bitCount_0f7a4_32 : decode cJ6_bitCount_0f7a4 32 = .ok (.iand, 1) := by decide +kernel
theorem dJ6_bitCount_0f7a4_33 : decode cJ6_bitCount_0f7a4 33 = .ok (.istore_n 0, 1) := by decide +kernel
theorem dJ6_bitCount_0f7a4_34 : decode cJ6_bitCount_0f7a4 34 = .ok (.iload_n 0, 1) := by decide +kernel
theorem dJ6_bitCount_0f7a4_35 : decode cJ6_bitCount_0f7a4 35 = .ok (.iload_n 0, 1) := by decide +kernel
theorem dJ6_bitCount_0f7a4_36 : decode cJ6_bitCount_0f7a4 36 = .ok (.bipush 8, 2) := by decide +kernel
theorem dJ6_bitCount_0f7a4_38 : decode cJ6_bitCount_0f7a4 38 = .ok (.iushr, 1) := by decide +kernel
theorem dJ6_bitCount_0f7a4_39 : decode cJ6_bitCount_0f7a4 39 = .ok (.iadd, 1) := by decide +kernel
theorem dJ6_bitCount_0f7a4_40 : decode cJ6_bitCount_0f7a4 40 = .ok (.istore_n 0, 1) := by decide +kernel
theorem dJ6_bitCount_0f7a4_41 : decode cJ6_bitCount_0f7a4 41 = .ok (.iload_n 0, 1) := by decide +kernel
theorem dJ6_bitCount_0f7a4_42 : decode cJ6_bitCount_0f7a4 42 = .ok (.iload_n 0, 1) := by decide +kernel
theorem dJ6_bitCount_0f7a4_43 : decode cJ6_bitCount_0f7a4 43 = .ok (.bipush 16, 2) := by decide +kernel
theorem dJ6_bitCount_0f7a4_45 : decode cJ6_bitCount_0f7a4 45 = .ok (.iushr, 1) := by decide +kernel
theorem dJ6_bitCount_0f7a4_46 : decode cJ6_bitCount_0f7a4 46 = .ok (.iadd, 1) := by decide +kernel
theorem dJ6_bitCount_0f7a4_47 : decode cJ6_bitCount_0f7a4 47 = .ok (.istore_n 0, 1) := by decide +kernel
theorem dJ6_bitCount_0f7a4_48 : decode cJ6_bitCount_0f7a4 48 = .ok (.iload_n 0, 1) := by decide +kernel
theorem dJ6_bitCount_0f7a4_49 : decode cJ6_bitCount_0f7a4 49 = .ok (.bipush 63, 2) := by decide +kernel
theorem dJ6_bitCount_0f7a4_51 : decode cJ6_bitCount_0f7a4 51 = .ok (.iand, 1) := by decide +kernel
theorem dJ6_bitCount_0f7a4_52 : decode cJ6_bitCount_0f7a4 52 = .ok (.ireturn, 1) := by decide +kernel
theorem dJ9_floorMod_f86c9_0 : decode cJ9_floorMod_f86c9 0 = .ok (.lload_n 0, 1) := by decide +kernel
theorem dJ9_floorMod_f86c9_1 : decode cJ9_floorMod_f86c9 1 = .ok (.lload_n 2, 1) := by decide +kernel
theorem dJ9_floorMod_f86c9_2 : decode cJ9_floorMod_f86c9 2 = .ok (.lrem, 1) := by decide +kernel
theorem dJ9_floorMod_f86c9_3 : decode cJ9_floorMod_f86c9 3 = .ok (.lstore 4, 2) := by decide +kernel
theorem dJ9_floorMod_f86c9_5 : decode cJ9_floorMod_f86c9 5 = .ok (.lload_n 0, 1) := by decide +kernel
theorem dJ9_floorMod_f86c9_6 : decode cJ9_floorMod_f86c9 6 = .ok (.lload_n 2, 1) := by decide +kernel
theorem dJ9_floorMod_f86c9_7 : decode cJ9_floorMod_f86c9 7 = .ok (.lxor, 1) := by decide +kernel
theorem dJ9_floorMod_f86c9_8 : decode cJ9_floorMod_f86c9 8 = .ok (.lconst 0, 1) := by decide +kernel
theorem dJ9_floorMod_f86c9_9 : decode cJ9_floorMod_f86c9 9 = .ok (.lcmp, 1) := by decide +kernel
theorem dJ9_floorMod_f86c9_10 : decode cJ9_floorMod_f86c9 10 = .ok (.ifCond .ge 15, 3) := by decide +kernel
theorem dJ9_floorMod_f86c9_13 : decode cJ9_floorMod_f86c9 13 = .ok (.lload 4, 2) := by decide +kernel
theorem dJ9_floorMod_f86c9_15 : decode cJ9_floorMod_f86c9 15 = .ok (.lconst 0, 1) := by decide +kernel
theorem dJ9_floorMod_f86c9_16 : decode cJ9_floorMod_f86c9 16 = .ok (.lcmp, 1) := by decide +kernel
theorem dJ9_floorMod_f86c9_17 : decode cJ9_floorMod_f86c9 17 = .ok (.ifCond .eq 8, 3) := by decide +kernel
theorem dJ9_floorMod_f86c9_20 : decode cJ9_floorMod_f86c9 20 = .ok (.lload 4, 2) := by decide +kernel
theorem dJ9_floorMod_f86c9_22 : decode cJ9_floorMod_f86c9 22 = .ok (.lload_n 2, 1) := by decide +kernel
theorem dJ9_floorMod_f86c9_23 : decode cJ9_floorMod_f86c9 23 = .ok (.ladd, 1) := by decide +kernel
theorem dJ9_floorMod_f86c9_24 : decode cJ9_floorMod_f86c9 24 = .ok (.lreturn, 1) := by decide +kernel
theorem dJ9_floorMod_f86c9_25 : decode cJ9_floorMod_f86c9 25 = .ok (.lload 4, 2) := by decide +kernel
theorem dJ9_floorMod_f86c9_27 : decode cJ9_floorMod_f86c9 27 = .ok (.lreturn, 1) := by decide +kernel
theorem dJ9_max_7cf53_0 : decode cJ9_max_7cf53 0 = .ok (.iload_n 0, 1) := by decide +kernel
theorem dJ9_max_7cf53_1 : decode cJ9_max_7cf53 1 = .ok (.iload_n 1, 1) := by decide +kernel
theorem dJ9_max_7cf53_2 : decode cJ9_max_7cf53 2 = .ok (.if_icmp .lt 7, 3) := by decide +kernel
theorem dJ9_max_7cf53_5 : decode cJ9_max_7cf53 5 = .ok (.iload_n 0, 1) := by decide +kernel
theorem dJ9_max_7cf53_6 : decode cJ9_max_7cf53 6 = .ok (.goto 4, 3) := by decide +kernel
theorem dJ9_max_7cf53_9 : decode cJ9_max_7cf53 9 = .ok (.iload_n 1, 1) := by decide +kernel
theorem dJ9_max_7cf53_10 : decode cJ9_max_7cf53 10 = .ok (.ireturn, 1) := by decide +kernel
theorem dJ9_min_f86c9_0 : decode cJ9_min_f86c9 0 = .ok (.lload_n 0, 1) := by decide +kernel
theorem dJ9_min_f86c9_1 : decode cJ9_min_f86c9 1 = .ok (.lload_n 2, 1) := by decide +kernel
theorem dJ9_min_f86c9_2 : decode cJ9_min_f86c9 2 = .ok (.lcmp, 1) := by decide +kernel
theorem dJ9_min_f86c9_3 : decode cJ9_min_f86c9 3 = .ok (.ifCond .gt 7, 3) := by decide +kernel
theorem dJ9_min_f86c9_6 : decode cJ9_min_f86c9 6 = .ok (.lload_n 0, 1) := by decide +kernel
theorem dJ9_min_f86c9_7 : decode cJ9_min_f86c9 7 = .ok (.goto 4, 3) := by decide +kernel
theorem dJ9_min_f86c9_10 : decode cJ9_min_f86c9 10 = .ok (.lload_n 2, 1) := by decide +kernel
theorem dJ9_min_f86c9_11 : decode cJ9_min_f86c9 11 = .ok (.lreturn, 1) := by decide +kernel
theorem dJ7_fill_d0a16_0 : decode cJ7_fill_d0a16 0 = .ok (.iconst 0, 1) := by decide +kernel
theorem dJ7_fill_d0a16_1 : decode cJ7_fill_d0a16 1 = .ok (.istore_n 3, 1) := by decide +kernel
theorem dJ7_fill_d0a16_2 : decode cJ7_fill_d0a16 2 = .ok (.aload_n 0, 1) := by decide +kernel
theorem dJ7_fill_d0a16_3 : decode cJ7_fill_d0a16 3 = .ok (.arraylength, 1) := by decide +kernel
theorem dJ7_fill_d0a16_4 : decode cJ7_fill_d0a16 4 = .ok (.istore 4, 2) := by decide +kernel
theorem dJ7_fill_d0a16_6 : decode cJ7_fill_d0a16 6 = .ok (.iload_n 3, 1) := by decide +kernel
theorem dJ7_fill_d0a16_7 : decode cJ7_fill_d0a16 7 = .ok (.iload 4, 2) := by decide +kernel
theorem dJ7_fill_d0a16_9 : decode cJ7_fill_d0a16 9 = .ok (.if_icmp .ge 13, 3) := by decide +kernel
theorem dJ7_fill_d0a16_12 : decode cJ7_fill_d0a16 12 = .ok (.aload_n 0, 1) := by decide +kernel
theorem dJ7_fill_d0a16_13 : decode cJ7_fill_d0a16 13 = .ok (.iload_n 3, 1) := by decide +kernel
theorem dJ7_fill_d0a16_14 : decode cJ7_fill_d0a16 14 = .ok (.lload_n 1, 1) := by decide +kernel
theorem dJ7_fill_d0a16_15 : decode cJ7_fill_d0a16 15 = .ok (.lastore, 1) := by decide +kernel
theorem dJ7_fill_d0a16_16 : decode cJ7_fill_d0a16 16 = .ok (.iinc 3 1, 3) := by decide +kernel
theorem dJ7_fill_d0a16_19 : decode cJ7_fill_d0a16 19 = .ok (.goto (-13), 3) := by decide +kernel
theorem dJ7_fill_d0a16_22 : decode cJ7_fill_d0a16 22 = .ok (.return_, 1) := by decide +kernel
theorem dJ7_fill_53178_0 : decode cJ7_fill_53178 0 = .ok (.iconst 0, 1) := by decide +kernel
theorem dJ7_fill_53178_1 : decode cJ7_fill_53178 1 = .ok (.istore_n 2, 1) := by decide +kernel
theorem dJ7_fill_53178_2 : decode cJ7_fill_53178 2 = .ok (.aload_n 0, 1) := by decide +kernel
theorem dJ7_fill_53178_3 : decode cJ7_fill_53178 3 = .ok (.arraylength, 1) := by decide +kernel
theorem dJ7_fill_53178_4 : decode cJ7_fill_53178 4 = .ok (.istore_n 3, 1) := by decide +kernel
theorem dJ7_fill_53178_5 : decode cJ7_fill_53178 5 = .ok (.iload_n 2, 1) := by decide +kernel
theorem dJ7_fill_53178_6 : decode cJ7_fill_53178 6 = .ok (.iload_n 3, 1) := by decide +kernel
theorem dJ7_fill_53178_7 : decode cJ7_fill_53178 7 = .ok (.if_icmp .ge 13, 3) := by decide +kernel
theorem dJ7_fill_53178_10 : decode cJ7_fill_53178 10 = .ok (.aload_n 0, 1) := by decide +kernel
theorem dJ7_fill_53178_11 : decode cJ7_fill_53178 11 = .ok (.iload_n 2, 1) := by decide +kernel
theorem dJ7_fill_53178_12 : decode cJ7_fill_53178 12 = .ok (.iload_n 1, 1) := by decide +kernel
theorem dJ7_fill_53178_13 : decode cJ7_fill_53178 13 = .ok (.iastore, 1) := by decide +kernel
theorem dJ7_fill_53178_14 : decode cJ7_fill_53178 14 = .ok (.iinc 2 1, 3) := by decide +kernel
theorem dJ7_fill_53178_17 : decode cJ7_fill_53178 17 = .ok (.goto (-12), 3) := by decide +kernel
theorem dJ7_fill_53178_20 : decode cJ7_fill_53178 20 = .ok (.return_, 1) := by decide +kernel
theorem dL_law_0 : decode cL_law 0 = .ok (.new 7, 3) := by decide +kernel
theorem dL_law_3 : decode cL_law 3 = .ok (.dup, 1) := by decide +kernel
theorem dL_law_4 : decode cL_law 4 = .ok (.invokespecial 9, 3) := by decide +kernel
theorem dL_law_7 : decode cL_law 7 = .ok (.astore_n 1, 1) := by decide +kernel
theorem dL_law_8 : decode cL_law 8 = .ok (.new 10, 3) := by decide +kernel
theorem dL_law_11 : decode cL_law 11 = .ok (.dup, 1) := by decide +kernel
theorem dL_law_12 : decode cL_law 12 = .ok (.invokespecial 12, 3) := by decide +kernel
theorem dL_law_15 : decode cL_law 15 = .ok (.astore_n 2, 1) := by decide +kernel
theorem dL_law_16 : decode cL_law 16 = .ok (.iconst 0, 1) := by decide +kernel
theorem dL_law_17 : decode cL_law 17 = .ok (.istore_n 3, 1) := by decide +kernel
theorem dL_law_18 : decode cL_law 18 = .ok (.iload_n 3, 1) := by decide +kernel
theorem dL_law_19 : decode cL_law 19 = .ok (.aload_n 0, 1) := by decide +kernel
theorem dL_law_20 : decode cL_law 20 = .ok (.arraylength, 1) := by decide +kernel
theorem dL_law_21 : decode cL_law 21 = .ok (.iconst 4, 1) := by decide +kernel
theorem dL_law_22 : decode cL_law 22 = .ok (.isub, 1) := by decide +kernel
theorem dL_law_23 : decode cL_law 23 = .ok (.if_icmp .gt 1098, 3) := by decide +kernel
theorem dL_law_26 : decode cL_law 26 = .ok (.aload_n 0, 1) := by decide +kernel
theorem dL_law_27 : decode cL_law 27 = .ok (.iload_n 3, 1) := by decide +kernel
theorem dL_law_28 : decode cL_law 28 = .ok (.iaload, 1) := by decide +kernel
theorem dL_law_29 : decode cL_law 29 = .ok (.bipush 63, 2) := by decide +kernel
theorem dL_law_31 : decode cL_law 31 = .ok (.iand, 1) := by decide +kernel
theorem dL_law_32 : decode cL_law 32 = .ok (.tableswitch 1083 0 32 #[148, 211, 224, 237, 260, 293, 326, 385, 408, 431, 454, 468, 531, 565, 598, 621, 654, 677, 710, 723, 756, 789, 812, 835, 848, 861, 894, 908, 941, 974, 1033, 1056, 1070], 148) := by decide +kernel
theorem dL_law_180 : decode cL_law 180 = .ok (.aload_n 1, 1) := by decide +kernel
theorem dL_law_181 : decode cL_law 181 = .ok (.aload_n 0, 1) := by decide +kernel
theorem dL_law_182 : decode cL_law 182 = .ok (.iload_n 3, 1) := by decide +kernel
theorem dL_law_183 : decode cL_law 183 = .ok (.iconst 1, 1) := by decide +kernel
theorem dL_law_184 : decode cL_law 184 = .ok (.iadd, 1) := by decide +kernel
theorem dL_law_185 : decode cL_law 185 = .ok (.iaload, 1) := by decide +kernel
theorem dL_law_186 : decode cL_law 186 = .ok (.aload_n 0, 1) := by decide +kernel
theorem dL_law_187 : decode cL_law 187 = .ok (.iload_n 3, 1) := by decide +kernel
theorem dL_law_188 : decode cL_law 188 = .ok (.iconst 2, 1) := by decide +kernel
theorem dL_law_189 : decode cL_law 189 = .ok (.iadd, 1) := by decide +kernel
theorem dL_law_190 : decode cL_law 190 = .ok (.iaload, 1) := by decide +kernel
theorem dL_law_191 : decode cL_law 191 = .ok (.i2l, 1) := by decide +kernel
theorem dL_law_192 : decode cL_law 192 = .ok (.bipush 32, 2) := by decide +kernel
theorem dL_law_194 : decode cL_law 194 = .ok (.lshl, 1) := by decide +kernel
theorem dL_law_195 : decode cL_law 195 = .ok (.aload_n 0, 1) := by decide +kernel
theorem dL_law_196 : decode cL_law 196 = .ok (.iload_n 3, 1) := by decide +kernel
theorem dL_law_197 : decode cL_law 197 = .ok (.iconst 3, 1) := by decide +kernel
theorem dL_law_198 : decode cL_law 198 = .ok (.iadd, 1) := by decide +kernel
theorem dL_law_199 : decode cL_law 199 = .ok (.iaload, 1) := by decide +kernel
theorem dL_law_200 : decode cL_law 200 = .ok (.i2l, 1) := by decide +kernel
theorem dL_law_201 : decode cL_law 201 = .ok (.ldc2_w 13, 3) := by decide +kernel
theorem dL_law_204 : decode cL_law 204 = .ok (.land, 1) := by decide +kernel
theorem dL_law_205 : decode cL_law 205 = .ok (.lor, 1) := by decide +kernel
theorem dL_law_206 : decode cL_law 206 = .ok (.invokevirtual 15, 3) := by decide +kernel
theorem dL_law_209 : decode cL_law 209 = .ok (.aload_n 2, 1) := by decide +kernel
theorem dL_law_210 : decode cL_law 210 = .ok (.aload_n 0, 1) := by decide +kernel
theorem dL_law_211 : decode cL_law 211 = .ok (.iload_n 3, 1) := by decide +kernel
theorem dL_law_212 : decode cL_law 212 = .ok (.iconst 1, 1) := by decide +kernel
theorem dL_law_213 : decode cL_law 213 = .ok (.iadd, 1) := by decide +kernel
theorem dL_law_214 : decode cL_law 214 = .ok (.iaload, 1) := by decide +kernel
theorem dL_law_215 : decode cL_law 215 = .ok (.aload_n 0, 1) := by decide +kernel
theorem dL_law_216 : decode cL_law 216 = .ok (.iload_n 3, 1) := by decide +kernel
theorem dL_law_217 : decode cL_law 217 = .ok (.iconst 2, 1) := by decide +kernel
theorem dL_law_218 : decode cL_law 218 = .ok (.iadd, 1) := by decide +kernel
theorem dL_law_219 : decode cL_law 219 = .ok (.iaload, 1) := by decide +kernel
theorem dL_law_220 : decode cL_law 220 = .ok (.i2l, 1) := by decide +kernel
theorem dL_law_221 : decode cL_law 221 = .ok (.bipush 32, 2) := by decide +kernel
theorem dL_law_223 : decode cL_law 223 = .ok (.lshl, 1) := by decide +kernel
theorem dL_law_224 : decode cL_law 224 = .ok (.aload_n 0, 1) := by decide +kernel
theorem dL_law_225 : decode cL_law 225 = .ok (.iload_n 3, 1) := by decide +kernel
theorem dL_law_226 : decode cL_law 226 = .ok (.iconst 3, 1) := by decide +kernel
theorem dL_law_227 : decode cL_law 227 = .ok (.iadd, 1) := by decide +kernel
theorem dL_law_228 : decode cL_law 228 = .ok (.iaload, 1) := by decide +kernel
theorem dL_law_229 : decode cL_law 229 = .ok (.i2l, 1) := by decide +kernel
theorem dL_law_230 : decode cL_law 230 = .ok (.ldc2_w 13, 3) := by decide +kernel
theorem dL_law_233 : decode cL_law 233 = .ok (.land, 1) := by decide +kernel
theorem dL_law_234 : decode cL_law 234 = .ok (.lor, 1) := by decide +kernel
theorem dL_law_235 : decode cL_law 235 = .ok (.invokevirtual 19, 3) := by decide +kernel
theorem dL_law_238 : decode cL_law 238 = .ok (.if_icmp .eq 877, 3) := by decide +kernel
theorem dL_law_241 : decode cL_law 241 = .ok (.iconst 0, 1) := by decide +kernel
theorem dL_law_242 : decode cL_law 242 = .ok (.ireturn, 1) := by decide +kernel
theorem dL_law_243 : decode cL_law 243 = .ok (.aload_n 1, 1) := by decide +kernel
theorem dL_law_244 : decode cL_law 244 = .ok (.invokevirtual 20, 3) := by decide +kernel
theorem dL_law_247 : decode cL_law 247 = .ok (.aload_n 2, 1) := by decide +kernel
theorem dL_law_248 : decode cL_law 248 = .ok (.invokevirtual 24, 3) := by decide +kernel
theorem dL_law_251 : decode cL_law 251 = .ok (.if_icmp .eq 864, 3) := by decide +kernel
theorem dL_law_254 : decode cL_law 254 = .ok (.iconst 0, 1) := by decide +kernel
theorem dL_law_255 : decode cL_law 255 = .ok (.ireturn, 1) := by decide +kernel
theorem dL_law_256 : decode cL_law 256 = .ok (.aload_n 1, 1) := by decide +kernel
theorem dL_law_257 : decode cL_law 257 = .ok (.invokevirtual 25, 3) := by decide +kernel
theorem dL_law_260 : decode cL_law 260 = .ok (.aload_n 2, 1) := by decide +kernel
theorem dL_law_261 : decode cL_law 261 = .ok (.invokevirtual 28, 3) := by decide +kernel
theorem dL_law_264 : decode cL_law 264 = .ok (.if_icmp .eq 851, 3) := by decide +kernel
theorem dL_law_267 : decode cL_law 267 = .ok (.iconst 0, 1) := by decide +kernel
theorem dL_law_268 : decode cL_law 268 = .ok (.ireturn, 1) := by decide +kernel
theorem dL_law_269 : decode cL_law 269 = .ok (.aload_n 1, 1) := by decide +kernel
theorem dL_law_270 : decode cL_law 270 = .ok (.aload_n 0, 1) := by decide +kernel
theorem dL_law_271 : decode cL_law 271 = .ok (.iload_n 3, 1) := by decide +kernel
theorem dL_law_272 : decode cL_law 272 = .ok (.iconst 1, 1) := by decide +kernel
theorem dL_law_273 : decode cL_law 273 = .ok (.iadd, 1) := by decide +kernel
theorem dL_law_274 : decode cL_law 274 = .ok (.iaload, 1) := by decide +kernel
theorem dL_law_275 : decode cL_law 275 = .ok (.invokevirtual 29, 3) := by decide +kernel
theorem dL_law_278 : decode cL_law 278 = .ok (.aload_n 2, 1) := by decide +kernel
theorem dL_law_279 : decode cL_law 279 = .ok (.aload_n 0, 1) := by decide +kernel
theorem dL_law_280 : decode cL_law 280 = .ok (.iload_n 3, 1) := by decide +kernel
theorem dL_law_281 : decode cL_law 281 = .ok (.iconst 1, 1) := by decide +kernel
theorem dL_law_282 : decode cL_law 282 = .ok (.iadd, 1) := by decide +kernel
theorem dL_law_283 : decode cL_law 283 = .ok (.iaload, 1) := by decide +kernel
theorem dL_law_284 : decode cL_law 284 = .ok (.invokevirtual 33, 3) := by decide +kernel
theorem dL_law_287 : decode cL_law 287 = .ok (.if_icmp .eq 828, 3) := by decide +kernel
theorem dL_law_290 : decode cL_law 290 = .ok (.iconst 0, 1) := by decide +kernel
theorem dL_law_291 : decode cL_law 291 = .ok (.ireturn, 1) := by decide +kernel
theorem dL_law_292 : decode cL_law 292 = .ok (.aload_n 1, 1) := by decide +kernel
theorem dL_law_293 : decode cL_law 293 = .ok (.aload_n 0, 1) := by decide +kernel
theorem dL_law_294 : decode cL_law 294 = .ok (.iload_n 3, 1) := by decide +kernel
theorem dL_law_295 : decode cL_law 295 = .ok (.iconst 1, 1) := by decide +kernel
theorem dL_law_296 : decode cL_law 296 = .ok (.iadd, 1) := by decide +kernel
theorem dL_law_297 : decode cL_law 297 = .ok (.iaload, 1) := by decide +kernel
theorem dL_law_298 : decode cL_law 298 = .ok (.aload_n 0, 1) := by decide +kernel
theorem dL_law_299 : decode cL_law 299 = .ok (.iload_n 3, 1) := by decide +kernel
theorem dL_law_300 : decode cL_law 300 = .ok (.iconst 2, 1) := by decide +kernel
theorem dL_law_301 : decode cL_law 301 = .ok (.iadd, 1) := by decide +kernel
theorem dL_law_302 : decode cL_law 302 = .ok (.iaload, 1) := by decide +kernel
theorem dL_law_303 : decode cL_law 303 = .ok (.invokevirtual 34, 3) := by decide +kernel
theorem dL_law_306 : decode cL_law 306 = .ok (.aload_n 2, 1) := by decide +kernel
theorem dL_law_307 : decode cL_law 307 = .ok (.aload_n 0, 1) := by decide +kernel
theorem dL_law_308 : decode cL_law 308 = .ok (.iload_n 3, 1) := by decide +kernel
theorem dL_law_309 : decode cL_law 309 = .ok (.iconst 1, 1) := by decide +kernel
theorem dL_law_310 : decode cL_law 310 = .ok (.iadd, 1) := by decide +kernel
theorem dL_law_311 : decode cL_law 311 = .ok (.iaload, 1) := by decide +kernel
theorem dL_law_312 : decode cL_law 312 = .ok (.aload_n 0, 1) := by decide +kernel
theorem dL_law_313 : decode cL_law 313 = .ok (.iload_n 3, 1) := by decide +kernel
theorem dL_law_314 : decode cL_law 314 = .ok (.iconst 2, 1) := by decide +kernel
theorem dL_law_315 : decode cL_law 315 = .ok (.iadd, 1) := by decide +kernel
theorem dL_law_316 : decode cL_law 316 = .ok (.iaload, 1) := by decide +kernel
theorem dL_law_317 : decode cL_law 317 = .ok (.invokevirtual 38, 3) := by decide +kernel
theorem dL_law_320 : decode cL_law 320 = .ok (.if_icmp .eq 795, 3) := by decide +kernel
theorem dL_law_323 : decode cL_law 323 = .ok (.iconst 0, 1) := by decide +kernel
theorem dL_law_324 : decode cL_law 324 = .ok (.ireturn, 1) := by decide +kernel
theorem dL_law_325 : decode cL_law 325 = .ok (.aload_n 1, 1) := by decide +kernel
theorem dL_law_326 : decode cL_law 326 = .ok (.aload_n 0, 1) := by decide +kernel
theorem dL_law_327 : decode cL_law 327 = .ok (.iload_n 3, 1) := by decide +kernel
theorem dL_law_328 : decode cL_law 328 = .ok (.iconst 1, 1) := by decide +kernel
theorem dL_law_329 : decode cL_law 329 = .ok (.iadd, 1) := by decide +kernel
theorem dL_law_330 : decode cL_law 330 = .ok (.iaload, 1) := by decide +kernel
theorem dL_law_331 : decode cL_law 331 = .ok (.aload_n 0, 1) := by decide +kernel
theorem dL_law_332 : decode cL_law 332 = .ok (.iload_n 3, 1) := by decide +kernel
theorem dL_law_333 : decode cL_law 333 = .ok (.iconst 2, 1) := by decide +kernel
theorem dL_law_334 : decode cL_law 334 = .ok (.iadd, 1) := by decide +kernel
theorem dL_law_335 : decode cL_law 335 = .ok (.iaload, 1) := by decide +kernel
theorem dL_law_336 : decode cL_law 336 = .ok (.invokevirtual 39, 3) := by decide +kernel
theorem dL_law_339 : decode cL_law 339 = .ok (.aload_n 2, 1) := by decide +kernel
theorem dL_law_340 : decode cL_law 340 = .ok (.aload_n 0, 1) := by decide +kernel
theorem dL_law_341 : decode cL_law 341 = .ok (.iload_n 3, 1) := by decide +kernel
theorem dL_law_342 : decode cL_law 342 = .ok (.iconst 1, 1) := by decide +kernel
theorem dL_law_343 : decode cL_law 343 = .ok (.iadd, 1) := by decide +kernel
theorem dL_law_344 : decode cL_law 344 = .ok (.iaload, 1) := by decide +kernel
theorem dL_law_345 : decode cL_law 345 = .ok (.aload_n 0, 1) := by decide +kernel
theorem dL_law_346 : decode cL_law 346 = .ok (.iload_n 3, 1) := by decide +kernel
theorem dL_law_347 : decode cL_law 347 = .ok (.iconst 2, 1) := by decide +kernel
theorem dL_law_348 : decode cL_law 348 = .ok (.iadd, 1) := by decide +kernel
theorem dL_law_349 : decode cL_law 349 = .ok (.iaload, 1) := by decide +kernel
theorem dL_law_350 : decode cL_law 350 = .ok (.invokevirtual 42, 3) := by decide +kernel
theorem dL_law_353 : decode cL_law 353 = .ok (.if_icmp .eq 762, 3) := by decide +kernel
theorem dL_law_356 : decode cL_law 356 = .ok (.iconst 0, 1) := by decide +kernel
theorem dL_law_357 : decode cL_law 357 = .ok (.ireturn, 1) := by decide +kernel
theorem dL_law_358 : decode cL_law 358 = .ok (.aload_n 1, 1) := by decide +kernel
theorem dL_law_359 : decode cL_law 359 = .ok (.aload_n 0, 1) := by decide +kernel
theorem dL_law_360 : decode cL_law 360 = .ok (.iload_n 3, 1) := by decide +kernel
theorem dL_law_361 : decode cL_law 361 = .ok (.iconst 1, 1) := by decide +kernel
theorem dL_law_362 : decode cL_law 362 = .ok (.iadd, 1) := by decide +kernel
theorem dL_law_363 : decode cL_law 363 = .ok (.iaload, 1) := by decide +kernel
theorem dL_law_364 : decode cL_law 364 = .ok (.aload_n 0, 1) := by decide +kernel
theorem dL_law_365 : decode cL_law 365 = .ok (.iload_n 3, 1) := by decide +kernel
theorem dL_law_366 : decode cL_law 366 = .ok (.iconst 2, 1) := by decide +kernel
theorem dL_law_367 : decode cL_law 367 = .ok (.iadd, 1) := by decide +kernel
theorem dL_law_368 : decode cL_law 368 = .ok (.iaload, 1) := by decide +kernel
theorem dL_law_369 : decode cL_law 369 = .ok (.aload_n 0, 1) := by decide +kernel
theorem dL_law_370 : decode cL_law 370 = .ok (.iload_n 3, 1) := by decide +kernel
theorem dL_law_371 : decode cL_law 371 = .ok (.iconst 3, 1) := by decide +kernel
theorem dL_law_372 : decode cL_law 372 = .ok (.iadd, 1) := by decide +kernel
theorem dL_law_373 : decode cL_law 373 = .ok (.iaload, 1) := by decide +kernel
theorem dL_law_374 : decode cL_law 374 = .ok (.ifCond .eq 7, 3) := by decide +kernel
theorem dL_law_377 : decode cL_law 377 = .ok (.iconst 1, 1) := by decide +kernel
theorem dL_law_378 : decode cL_law 378 = .ok (.goto 4, 3) := by decide +kernel
theorem dL_law_381 : decode cL_law 381 = .ok (.iconst 0, 1) := by decide +kernel
theorem dL_law_382 : decode cL_law 382 = .ok (.invokevirtual 43, 3) := by decide +kernel
theorem dL_law_385 : decode cL_law 385 = .ok (.aload_n 2, 1) := by decide +kernel
theorem dL_law_386 : decode cL_law 386 = .ok (.aload_n 0, 1) := by decide +kernel
theorem dL_law_387 : decode cL_law 387 = .ok (.iload_n 3, 1) := by decide +kernel
theorem dL_law_388 : decode cL_law 388 = .ok (.iconst 1, 1) := by decide +kernel
theorem dL_law_389 : decode cL_law 389 = .ok (.iadd, 1) := by decide +kernel
theorem dL_law_390 : decode cL_law 390 = .ok (.iaload, 1) := by decide +kernel
theorem dL_law_391 : decode cL_law 391 = .ok (.aload_n 0, 1) := by decide +kernel
theorem dL_law_392 : decode cL_law 392 = .ok (.iload_n 3, 1) := by decide +kernel
theorem dL_law_393 : decode cL_law 393 = .ok (.iconst 2, 1) := by decide +kernel
theorem dL_law_394 : decode cL_law 394 = .ok (.iadd, 1) := by decide +kernel
theorem dL_law_395 : decode cL_law 395 = .ok (.iaload, 1) := by decide +kernel
theorem dL_law_396 : decode cL_law 396 = .ok (.aload_n 0, 1) := by decide +kernel
theorem dL_law_397 : decode cL_law 397 = .ok (.iload_n 3, 1) := by decide +kernel
theorem dL_law_398 : decode cL_law 398 = .ok (.iconst 3, 1) := by decide +kernel
theorem dL_law_399 : decode cL_law 399 = .ok (.iadd, 1) := by decide +kernel
theorem dL_law_400 : decode cL_law 400 = .ok (.iaload, 1) := by decide +kernel
theorem dL_law_401 : decode cL_law 401 = .ok (.ifCond .eq 7, 3) := by decide +kernel
theorem dL_law_404 : decode cL_law 404 = .ok (.iconst 1, 1) := by decide +kernel
theorem dL_law_405 : decode cL_law 405 = .ok (.goto 4, 3) := by decide +kernel
theorem dL_law_408 : decode cL_law 408 = .ok (.iconst 0, 1) := by decide +kernel
theorem dL_law_409 : decode cL_law 409 = .ok (.invokevirtual 47, 3) := by decide +kernel
theorem dL_law_412 : decode cL_law 412 = .ok (.if_icmp .eq 703, 3) := by decide +kernel
theorem dL_law_415 : decode cL_law 415 = .ok (.iconst 0, 1) := by decide +kernel
theorem dL_law_416 : decode cL_law 416 = .ok (.ireturn, 1) := by decide +kernel
theorem dL_law_417 : decode cL_law 417 = .ok (.aload_n 1, 1) := by decide +kernel
theorem dL_law_418 : decode cL_law 418 = .ok (.aload_n 0, 1) := by decide +kernel
theorem dL_law_419 : decode cL_law 419 = .ok (.iload_n 3, 1) := by decide +kernel
theorem dL_law_420 : decode cL_law 420 = .ok (.iconst 1, 1) := by decide +kernel
theorem dL_law_421 : decode cL_law 421 = .ok (.iadd, 1) := by decide +kernel
theorem dL_law_422 : decode cL_law 422 = .ok (.iaload, 1) := by decide +kernel
theorem dL_law_423 : decode cL_law 423 = .ok (.invokevirtual 48, 3) := by decide +kernel
theorem dL_law_426 : decode cL_law 426 = .ok (.aload_n 2, 1) := by decide +kernel
theorem dL_law_427 : decode cL_law 427 = .ok (.aload_n 0, 1) := by decide +kernel
theorem dL_law_428 : decode cL_law 428 = .ok (.iload_n 3, 1) := by decide +kernel
theorem dL_law_429 : decode cL_law 429 = .ok (.iconst 1, 1) := by decide +kernel
theorem dL_law_430 : decode cL_law 430 = .ok (.iadd, 1) := by decide +kernel
theorem dL_law_431 : decode cL_law 431 = .ok (.iaload, 1) := by decide +kernel
theorem dL_law_432 : decode cL_law 432 = .ok (.invokevirtual 51, 3) := by decide +kernel
theorem dL_law_435 : decode cL_law 435 = .ok (.if_icmp .eq 680, 3) := by decide +kernel
theorem dL_law_438 : decode cL_law 438 = .ok (.iconst 0, 1) := by decide +kernel
theorem dL_law_439 : decode cL_law 439 = .ok (.ireturn, 1) := by decide +kernel
theorem dL_law_440 : decode cL_law 440 = .ok (.aload_n 1, 1) := by decide +kernel
theorem dL_law_441 : decode cL_law 441 = .ok (.aload_n 0, 1) := by decide +kernel
theorem dL_law_442 : decode cL_law 442 = .ok (.iload_n 3, 1) := by decide +kernel
theorem dL_law_443 : decode cL_law 443 = .ok (.iconst 1, 1) := by decide +kernel
theorem dL_law_444 : decode cL_law 444 = .ok (.iadd, 1) := by decide +kernel
theorem dL_law_445 : decode cL_law 445 = .ok (.iaload, 1) := by decide +kernel
theorem dL_law_446 : decode cL_law 446 = .ok (.invokevirtual 52, 3) := by decide +kernel
theorem dL_law_449 : decode cL_law 449 = .ok (.aload_n 2, 1) := by decide +kernel
theorem dL_law_450 : decode cL_law 450 = .ok (.aload_n 0, 1) := by decide +kernel
theorem dL_law_451 : decode cL_law 451 = .ok (.iload_n 3, 1) := by decide +kernel
theorem dL_law_452 : decode cL_law 452 = .ok (.iconst 1, 1) := by decide +kernel
theorem dL_law_453 : decode cL_law 453 = .ok (.iadd, 1) := by decide +kernel
theorem dL_law_454 : decode cL_law 454 = .ok (.iaload, 1) := by decide +kernel
theorem dL_law_455 : decode cL_law 455 = .ok (.invokevirtual 55, 3) := by decide +kernel
theorem dL_law_458 : decode cL_law 458 = .ok (.if_icmp .eq 657, 3) := by decide +kernel
theorem dL_law_461 : decode cL_law 461 = .ok (.iconst 0, 1) := by decide +kernel
theorem dL_law_462 : decode cL_law 462 = .ok (.ireturn, 1) := by decide +kernel
theorem dL_law_463 : decode cL_law 463 = .ok (.aload_n 1, 1) := by decide +kernel
theorem dL_law_464 : decode cL_law 464 = .ok (.aload_n 0, 1) := by decide +kernel
theorem dL_law_465 : decode cL_law 465 = .ok (.iload_n 3, 1) := by decide +kernel
theorem dL_law_466 : decode cL_law 466 = .ok (.iconst 1, 1) := by decide +kernel
theorem dL_law_467 : decode cL_law 467 = .ok (.iadd, 1) := by decide +kernel
theorem dL_law_468 : decode cL_law 468 = .ok (.iaload, 1) := by decide +kernel
theorem dL_law_469 : decode cL_law 469 = .ok (.invokevirtual 56, 3) := by decide +kernel
theorem dL_law_472 : decode cL_law 472 = .ok (.aload_n 2, 1) := by decide +kernel
theorem dL_law_473 : decode cL_law 473 = .ok (.aload_n 0, 1) := by decide +kernel
theorem dL_law_474 : decode cL_law 474 = .ok (.iload_n 3, 1) := by decide +kernel
theorem dL_law_475 : decode cL_law 475 = .ok (.iconst 1, 1) := by decide +kernel
theorem dL_law_476 : decode cL_law 476 = .ok (.iadd, 1) := by decide +kernel
theorem dL_law_477 : decode cL_law 477 = .ok (.iaload, 1) := by decide +kernel
theorem dL_law_478 : decode cL_law 478 = .ok (.invokevirtual 59, 3) := by decide +kernel
theorem dL_law_481 : decode cL_law 481 = .ok (.if_icmp .eq 634, 3) := by decide +kernel
theorem dL_law_484 : decode cL_law 484 = .ok (.iconst 0, 1) := by decide +kernel
theorem dL_law_485 : decode cL_law 485 = .ok (.ireturn, 1) := by decide +kernel
theorem dL_law_486 : decode cL_law 486 = .ok (.aload_n 1, 1) := by decide +kernel
theorem dL_law_487 : decode cL_law 487 = .ok (.invokevirtual 60, 3) := by decide +kernel
theorem dL_law_490 : decode cL_law 490 = .ok (.aload_n 2, 1) := by decide +kernel
theorem dL_law_491 : decode cL_law 491 = .ok (.invokevirtual 64, 3) := by decide +kernel
theorem dL_law_494 : decode cL_law 494 = .ok (.lcmp, 1) := by decide +kernel
theorem dL_law_495 : decode cL_law 495 = .ok (.ifCond .eq 620, 3) := by decide +kernel
theorem dL_law_498 : decode cL_law 498 = .ok (.iconst 0, 1) := by decide +kernel
theorem dL_law_499 : decode cL_law 499 = .ok (.ireturn, 1) := by decide +kernel
theorem dL_law_500 : decode cL_law 500 = .ok (.aload_n 1, 1) := by decide +kernel
theorem dL_law_501 : decode cL_law 501 = .ok (.aload_n 0, 1) := by decide +kernel
theorem dL_law_502 : decode cL_law 502 = .ok (.iload_n 3, 1) := by decide +kernel
theorem dL_law_503 : decode cL_law 503 = .ok (.iconst 1, 1) := by decide +kernel
theorem dL_law_504 : decode cL_law 504 = .ok (.iadd, 1) := by decide +kernel
theorem dL_law_505 : decode cL_law 505 = .ok (.iaload, 1) := by decide +kernel
theorem dL_law_506 : decode cL_law 506 = .ok (.i2l, 1) := by decide +kernel
theorem dL_law_507 : decode cL_law 507 = .ok (.bipush 32, 2) := by decide +kernel
theorem dL_law_509 : decode cL_law 509 = .ok (.lshl, 1) := by decide +kernel
theorem dL_law_510 : decode cL_law 510 = .ok (.aload_n 0, 1) := by decide +kernel
theorem dL_law_511 : decode cL_law 511 = .ok (.iload_n 3, 1) := by decide +kernel
theorem dL_law_512 : decode cL_law 512 = .ok (.iconst 2, 1) := by decide +kernel
theorem dL_law_513 : decode cL_law 513 = .ok (.iadd, 1) := by decide +kernel
theorem dL_law_514 : decode cL_law 514 = .ok (.iaload, 1) := by decide +kernel
theorem dL_law_515 : decode cL_law 515 = .ok (.i2l, 1) := by decide +kernel
theorem dL_law_516 : decode cL_law 516 = .ok (.ldc2_w 13, 3) := by decide +kernel
theorem dL_law_519 : decode cL_law 519 = .ok (.land, 1) := by decide +kernel
theorem dL_law_520 : decode cL_law 520 = .ok (.lor, 1) := by decide +kernel
theorem dL_law_521 : decode cL_law 521 = .ok (.aload_n 0, 1) := by decide +kernel
theorem dL_law_522 : decode cL_law 522 = .ok (.iload_n 3, 1) := by decide +kernel
theorem dL_law_523 : decode cL_law 523 = .ok (.iconst 3, 1) := by decide +kernel
theorem dL_law_524 : decode cL_law 524 = .ok (.iadd, 1) := by decide +kernel
theorem dL_law_525 : decode cL_law 525 = .ok (.iaload, 1) := by decide +kernel
theorem dL_law_526 : decode cL_law 526 = .ok (.invokevirtual 65, 3) := by decide +kernel
theorem dL_law_529 : decode cL_law 529 = .ok (.aload_n 2, 1) := by decide +kernel
theorem dL_law_530 : decode cL_law 530 = .ok (.aload_n 0, 1) := by decide +kernel
theorem dL_law_531 : decode cL_law 531 = .ok (.iload_n 3, 1) := by decide +kernel
theorem dL_law_532 : decode cL_law 532 = .ok (.iconst 1, 1) := by decide +kernel
theorem dL_law_533 : decode cL_law 533 = .ok (.iadd, 1) := by decide +kernel
theorem dL_law_534 : decode cL_law 534 = .ok (.iaload, 1) := by decide +kernel
theorem dL_law_535 : decode cL_law 535 = .ok (.i2l, 1) := by decide +kernel
theorem dL_law_536 : decode cL_law 536 = .ok (.bipush 32, 2) := by decide +kernel
theorem dL_law_538 : decode cL_law 538 = .ok (.lshl, 1) := by decide +kernel
theorem dL_law_539 : decode cL_law 539 = .ok (.aload_n 0, 1) := by decide +kernel
theorem dL_law_540 : decode cL_law 540 = .ok (.iload_n 3, 1) := by decide +kernel
theorem dL_law_541 : decode cL_law 541 = .ok (.iconst 2, 1) := by decide +kernel
theorem dL_law_542 : decode cL_law 542 = .ok (.iadd, 1) := by decide +kernel
theorem dL_law_543 : decode cL_law 543 = .ok (.iaload, 1) := by decide +kernel
theorem dL_law_544 : decode cL_law 544 = .ok (.i2l, 1) := by decide +kernel
theorem dL_law_545 : decode cL_law 545 = .ok (.ldc2_w 13, 3) := by decide +kernel
theorem dL_law_548 : decode cL_law 548 = .ok (.land, 1) := by decide +kernel
theorem dL_law_549 : decode cL_law 549 = .ok (.lor, 1) := by decide +kernel
theorem dL_law_550 : decode cL_law 550 = .ok (.aload_n 0, 1) := by decide +kernel
theorem dL_law_551 : decode cL_law 551 = .ok (.iload_n 3, 1) := by decide +kernel
theorem dL_law_552 : decode cL_law 552 = .ok (.iconst 3, 1) := by decide +kernel
theorem dL_law_553 : decode cL_law 553 = .ok (.iadd, 1) := by decide +kernel
theorem dL_law_554 : decode cL_law 554 = .ok (.iaload, 1) := by decide +kernel
theorem dL_law_555 : decode cL_law 555 = .ok (.invokevirtual 69, 3) := by decide +kernel
theorem dL_law_558 : decode cL_law 558 = .ok (.if_icmp .eq 557, 3) := by decide +kernel
theorem dL_law_561 : decode cL_law 561 = .ok (.iconst 0, 1) := by decide +kernel
theorem dL_law_562 : decode cL_law 562 = .ok (.ireturn, 1) := by decide +kernel
theorem dL_law_563 : decode cL_law 563 = .ok (.aload_n 1, 1) := by decide +kernel
theorem dL_law_564 : decode cL_law 564 = .ok (.aload_n 0, 1) := by decide +kernel
theorem dL_law_565 : decode cL_law 565 = .ok (.iload_n 3, 1) := by decide +kernel
theorem dL_law_566 : decode cL_law 566 = .ok (.iconst 1, 1) := by decide +kernel
theorem dL_law_567 : decode cL_law 567 = .ok (.iadd, 1) := by decide +kernel
theorem dL_law_568 : decode cL_law 568 = .ok (.iaload, 1) := by decide +kernel
theorem dL_law_569 : decode cL_law 569 = .ok (.aload_n 0, 1) := by decide +kernel
theorem dL_law_570 : decode cL_law 570 = .ok (.iload_n 3, 1) := by decide +kernel
theorem dL_law_571 : decode cL_law 571 = .ok (.iconst 2, 1) := by decide +kernel
theorem dL_law_572 : decode cL_law 572 = .ok (.iadd, 1) := by decide +kernel
theorem dL_law_573 : decode cL_law 573 = .ok (.iaload, 1) := by decide +kernel
theorem dL_law_574 : decode cL_law 574 = .ok (.invokevirtual 70, 3) := by decide +kernel
theorem dL_law_577 : decode cL_law 577 = .ok (.aload_n 2, 1) := by decide +kernel
theorem dL_law_578 : decode cL_law 578 = .ok (.aload_n 0, 1) := by decide +kernel
theorem dL_law_579 : decode cL_law 579 = .ok (.iload_n 3, 1) := by decide +kernel
theorem dL_law_580 : decode cL_law 580 = .ok (.iconst 1, 1) := by decide +kernel
theorem dL_law_581 : decode cL_law 581 = .ok (.iadd, 1) := by decide +kernel
theorem dL_law_582 : decode cL_law 582 = .ok (.iaload, 1) := by decide +kernel
theorem dL_law_583 : decode cL_law 583 = .ok (.aload_n 0, 1) := by decide +kernel
theorem dL_law_584 : decode cL_law 584 = .ok (.iload_n 3, 1) := by decide +kernel
theorem dL_law_585 : decode cL_law 585 = .ok (.iconst 2, 1) := by decide +kernel
theorem dL_law_586 : decode cL_law 586 = .ok (.iadd, 1) := by decide +kernel
theorem dL_law_587 : decode cL_law 587 = .ok (.iaload, 1) := by decide +kernel
theorem dL_law_588 : decode cL_law 588 = .ok (.invokevirtual 74, 3) := by decide +kernel
theorem dL_law_591 : decode cL_law 591 = .ok (.lcmp, 1) := by decide +kernel
theorem dL_law_592 : decode cL_law 592 = .ok (.ifCond .eq 523, 3) := by decide +kernel
theorem dL_law_595 : decode cL_law 595 = .ok (.iconst 0, 1) := by decide +kernel
theorem dL_law_596 : decode cL_law 596 = .ok (.ireturn, 1) := by decide +kernel
theorem dL_law_597 : decode cL_law 597 = .ok (.aload_n 1, 1) := by decide +kernel
theorem dL_law_598 : decode cL_law 598 = .ok (.aload_n 0, 1) := by decide +kernel
theorem dL_law_599 : decode cL_law 599 = .ok (.iload_n 3, 1) := by decide +kernel
theorem dL_law_600 : decode cL_law 600 = .ok (.iconst 1, 1) := by decide +kernel
theorem dL_law_601 : decode cL_law 601 = .ok (.iadd, 1) := by decide +kernel
theorem dL_law_602 : decode cL_law 602 = .ok (.iaload, 1) := by decide +kernel
theorem dL_law_603 : decode cL_law 603 = .ok (.aload_n 0, 1) := by decide +kernel
theorem dL_law_604 : decode cL_law 604 = .ok (.iload_n 3, 1) := by decide +kernel
theorem dL_law_605 : decode cL_law 605 = .ok (.iconst 2, 1) := by decide +kernel
theorem dL_law_606 : decode cL_law 606 = .ok (.iadd, 1) := by decide +kernel
theorem dL_law_607 : decode cL_law 607 = .ok (.iaload, 1) := by decide +kernel
theorem dL_law_608 : decode cL_law 608 = .ok (.invokevirtual 75, 3) := by decide +kernel
theorem dL_law_611 : decode cL_law 611 = .ok (.aload_n 2, 1) := by decide +kernel
theorem dL_law_612 : decode cL_law 612 = .ok (.aload_n 0, 1) := by decide +kernel
theorem dL_law_613 : decode cL_law 613 = .ok (.iload_n 3, 1) := by decide +kernel
theorem dL_law_614 : decode cL_law 614 = .ok (.iconst 1, 1) := by decide +kernel
theorem dL_law_615 : decode cL_law 615 = .ok (.iadd, 1) := by decide +kernel
theorem dL_law_616 : decode cL_law 616 = .ok (.iaload, 1) := by decide +kernel
theorem dL_law_617 : decode cL_law 617 = .ok (.aload_n 0, 1) := by decide +kernel
theorem dL_law_618 : decode cL_law 618 = .ok (.iload_n 3, 1) := by decide +kernel
theorem dL_law_619 : decode cL_law 619 = .ok (.iconst 2, 1) := by decide +kernel
theorem dL_law_620 : decode cL_law 620 = .ok (.iadd, 1) := by decide +kernel
theorem dL_law_621 : decode cL_law 621 = .ok (.iaload, 1) := by decide +kernel
theorem dL_law_622 : decode cL_law 622 = .ok (.invokevirtual 78, 3) := by decide +kernel
theorem dL_law_625 : decode cL_law 625 = .ok (.if_icmp .eq 490, 3) := by decide +kernel
theorem dL_law_628 : decode cL_law 628 = .ok (.iconst 0, 1) := by decide +kernel
theorem dL_law_629 : decode cL_law 629 = .ok (.ireturn, 1) := by decide +kernel
theorem dL_law_630 : decode cL_law 630 = .ok (.aload_n 1, 1) := by decide +kernel
theorem dL_law_631 : decode cL_law 631 = .ok (.aload_n 0, 1) := by decide +kernel
theorem dL_law_632 : decode cL_law 632 = .ok (.iload_n 3, 1) := by decide +kernel
theorem dL_law_633 : decode cL_law 633 = .ok (.iconst 1, 1) := by decide +kernel
theorem dL_law_634 : decode cL_law 634 = .ok (.iadd, 1) := by decide +kernel
theorem dL_law_635 : decode cL_law 635 = .ok (.iaload, 1) := by decide +kernel
theorem dL_law_636 : decode cL_law 636 = .ok (.invokevirtual 79, 3) := by decide +kernel
theorem dL_law_639 : decode cL_law 639 = .ok (.aload_n 2, 1) := by decide +kernel
theorem dL_law_640 : decode cL_law 640 = .ok (.aload_n 0, 1) := by decide +kernel
theorem dL_law_641 : decode cL_law 641 = .ok (.iload_n 3, 1) := by decide +kernel
theorem dL_law_642 : decode cL_law 642 = .ok (.iconst 1, 1) := by decide +kernel
theorem dL_law_643 : decode cL_law 643 = .ok (.iadd, 1) := by decide +kernel
theorem dL_law_644 : decode cL_law 644 = .ok (.iaload, 1) := by decide +kernel
theorem dL_law_645 : decode cL_law 645 = .ok (.invokevirtual 82, 3) := by decide +kernel
theorem dL_law_648 : decode cL_law 648 = .ok (.if_icmp .eq 467, 3) := by decide +kernel
theorem dL_law_651 : decode cL_law 651 = .ok (.iconst 0, 1) := by decide +kernel
theorem dL_law_652 : decode cL_law 652 = .ok (.ireturn, 1) := by decide +kernel
theorem dL_law_653 : decode cL_law 653 = .ok (.aload_n 1, 1) := by decide +kernel
theorem dL_law_654 : decode cL_law 654 = .ok (.aload_n 0, 1) := by decide +kernel
theorem dL_law_655 : decode cL_law 655 = .ok (.iload_n 3, 1) := by decide +kernel
theorem dL_law_656 : decode cL_law 656 = .ok (.iconst 1, 1) := by decide +kernel
theorem dL_law_657 : decode cL_law 657 = .ok (.iadd, 1) := by decide +kernel
theorem dL_law_658 : decode cL_law 658 = .ok (.iaload, 1) := by decide +kernel
theorem dL_law_659 : decode cL_law 659 = .ok (.aload_n 0, 1) := by decide +kernel
theorem dL_law_660 : decode cL_law 660 = .ok (.iload_n 3, 1) := by decide +kernel
theorem dL_law_661 : decode cL_law 661 = .ok (.iconst 2, 1) := by decide +kernel
theorem dL_law_662 : decode cL_law 662 = .ok (.iadd, 1) := by decide +kernel
theorem dL_law_663 : decode cL_law 663 = .ok (.iaload, 1) := by decide +kernel
theorem dL_law_664 : decode cL_law 664 = .ok (.invokevirtual 83, 3) := by decide +kernel
theorem dL_law_667 : decode cL_law 667 = .ok (.aload_n 2, 1) := by decide +kernel
theorem dL_law_668 : decode cL_law 668 = .ok (.aload_n 0, 1) := by decide +kernel
theorem dL_law_669 : decode cL_law 669 = .ok (.iload_n 3, 1) := by decide +kernel
theorem dL_law_670 : decode cL_law 670 = .ok (.iconst 1, 1) := by decide +kernel
theorem dL_law_671 : decode cL_law 671 = .ok (.iadd, 1) := by decide +kernel
theorem dL_law_672 : decode cL_law 672 = .ok (.iaload, 1) := by decide +kernel
theorem dL_law_673 : decode cL_law 673 = .ok (.aload_n 0, 1) := by decide +kernel
theorem dL_law_674 : decode cL_law 674 = .ok (.iload_n 3, 1) := by decide +kernel
theorem dL_law_675 : decode cL_law 675 = .ok (.iconst 2, 1) := by decide +kernel
theorem dL_law_676 : decode cL_law 676 = .ok (.iadd, 1) := by decide +kernel
theorem dL_law_677 : decode cL_law 677 = .ok (.iaload, 1) := by decide +kernel
theorem dL_law_678 : decode cL_law 678 = .ok (.invokevirtual 86, 3) := by decide +kernel
theorem dL_law_681 : decode cL_law 681 = .ok (.if_icmp .eq 434, 3) := by decide +kernel
theorem dL_law_684 : decode cL_law 684 = .ok (.iconst 0, 1) := by decide +kernel
theorem dL_law_685 : decode cL_law 685 = .ok (.ireturn, 1) := by decide +kernel
theorem dL_law_686 : decode cL_law 686 = .ok (.aload_n 1, 1) := by decide +kernel
theorem dL_law_687 : decode cL_law 687 = .ok (.aload_n 0, 1) := by decide +kernel
theorem dL_law_688 : decode cL_law 688 = .ok (.iload_n 3, 1) := by decide +kernel
theorem dL_law_689 : decode cL_law 689 = .ok (.iconst 1, 1) := by decide +kernel
theorem dL_law_690 : decode cL_law 690 = .ok (.iadd, 1) := by decide +kernel
theorem dL_law_691 : decode cL_law 691 = .ok (.iaload, 1) := by decide +kernel
theorem dL_law_692 : decode cL_law 692 = .ok (.invokevirtual 87, 3) := by decide +kernel
theorem dL_law_695 : decode cL_law 695 = .ok (.aload_n 2, 1) := by decide +kernel
theorem dL_law_696 : decode cL_law 696 = .ok (.aload_n 0, 1) := by decide +kernel
theorem dL_law_697 : decode cL_law 697 = .ok (.iload_n 3, 1) := by decide +kernel
theorem dL_law_698 : decode cL_law 698 = .ok (.iconst 1, 1) := by decide +kernel
theorem dL_law_699 : decode cL_law 699 = .ok (.iadd, 1) := by decide +kernel
theorem dL_law_700 : decode cL_law 700 = .ok (.iaload, 1) := by decide +kernel
theorem dL_law_701 : decode cL_law 701 = .ok (.invokevirtual 90, 3) := by decide +kernel
theorem dL_law_704 : decode cL_law 704 = .ok (.if_icmp .eq 411, 3) := by decide +kernel
theorem dL_law_707 : decode cL_law 707 = .ok (.iconst 0, 1) := by decide +kernel
theorem dL_law_708 : decode cL_law 708 = .ok (.ireturn, 1) := by decide +kernel
theorem dL_law_709 : decode cL_law 709 = .ok (.aload_n 1, 1) := by decide +kernel
theorem dL_law_710 : decode cL_law 710 = .ok (.aload_n 0, 1) := by decide +kernel
theorem dL_law_711 : decode cL_law 711 = .ok (.iload_n 3, 1) := by decide +kernel
theorem dL_law_712 : decode cL_law 712 = .ok (.iconst 1, 1) := by decide +kernel
theorem dL_law_713 : decode cL_law 713 = .ok (.iadd, 1) := by decide +kernel
theorem dL_law_714 : decode cL_law 714 = .ok (.iaload, 1) := by decide +kernel
theorem dL_law_715 : decode cL_law 715 = .ok (.aload_n 0, 1) := by decide +kernel
theorem dL_law_716 : decode cL_law 716 = .ok (.iload_n 3, 1) := by decide +kernel
theorem dL_law_717 : decode cL_law 717 = .ok (.iconst 2, 1) := by decide +kernel
theorem dL_law_718 : decode cL_law 718 = .ok (.iadd, 1) := by decide +kernel
theorem dL_law_719 : decode cL_law 719 = .ok (.iaload, 1) := by decide +kernel
theorem dL_law_720 : decode cL_law 720 = .ok (.invokevirtual 91, 3) := by decide +kernel
theorem dL_law_723 : decode cL_law 723 = .ok (.aload_n 2, 1) := by decide +kernel
theorem dL_law_724 : decode cL_law 724 = .ok (.aload_n 0, 1) := by decide +kernel
theorem dL_law_725 : decode cL_law 725 = .ok (.iload_n 3, 1) := by decide +kernel
theorem dL_law_726 : decode cL_law 726 = .ok (.iconst 1, 1) := by decide +kernel
theorem dL_law_727 : decode cL_law 727 = .ok (.iadd, 1) := by decide +kernel
theorem dL_law_728 : decode cL_law 728 = .ok (.iaload, 1) := by decide +kernel
theorem dL_law_729 : decode cL_law 729 = .ok (.aload_n 0, 1) := by decide +kernel
theorem dL_law_730 : decode cL_law 730 = .ok (.iload_n 3, 1) := by decide +kernel
theorem dL_law_731 : decode cL_law 731 = .ok (.iconst 2, 1) := by decide +kernel
theorem dL_law_732 : decode cL_law 732 = .ok (.iadd, 1) := by decide +kernel
theorem dL_law_733 : decode cL_law 733 = .ok (.iaload, 1) := by decide +kernel
theorem dL_law_734 : decode cL_law 734 = .ok (.invokevirtual 94, 3) := by decide +kernel
theorem dL_law_737 : decode cL_law 737 = .ok (.if_icmp .eq 378, 3) := by decide +kernel
theorem dL_law_740 : decode cL_law 740 = .ok (.iconst 0, 1) := by decide +kernel
theorem dL_law_741 : decode cL_law 741 = .ok (.ireturn, 1) := by decide +kernel
theorem dL_law_742 : decode cL_law 742 = .ok (.aload_n 1, 1) := by decide +kernel
theorem dL_law_743 : decode cL_law 743 = .ok (.invokevirtual 95, 3) := by decide +kernel
theorem dL_law_746 : decode cL_law 746 = .ok (.aload_n 2, 1) := by decide +kernel
theorem dL_law_747 : decode cL_law 747 = .ok (.invokevirtual 98, 3) := by decide +kernel
theorem dL_law_750 : decode cL_law 750 = .ok (.if_icmp .eq 365, 3) := by decide +kernel
theorem dL_law_753 : decode cL_law 753 = .ok (.iconst 0, 1) := by decide +kernel
theorem dL_law_754 : decode cL_law 754 = .ok (.ireturn, 1) := by decide +kernel
theorem dL_law_755 : decode cL_law 755 = .ok (.aload_n 1, 1) := by decide +kernel
theorem dL_law_756 : decode cL_law 756 = .ok (.aload_n 0, 1) := by decide +kernel
theorem dL_law_757 : decode cL_law 757 = .ok (.iload_n 3, 1) := by decide +kernel
theorem dL_law_758 : decode cL_law 758 = .ok (.iconst 1, 1) := by decide +kernel
theorem dL_law_759 : decode cL_law 759 = .ok (.iadd, 1) := by decide +kernel
theorem dL_law_760 : decode cL_law 760 = .ok (.iaload, 1) := by decide +kernel
theorem dL_law_761 : decode cL_law 761 = .ok (.aload_n 0, 1) := by decide +kernel
theorem dL_law_762 : decode cL_law 762 = .ok (.iload_n 3, 1) := by decide +kernel
theorem dL_law_763 : decode cL_law 763 = .ok (.iconst 2, 1) := by decide +kernel
theorem dL_law_764 : decode cL_law 764 = .ok (.iadd, 1) := by decide +kernel
theorem dL_law_765 : decode cL_law 765 = .ok (.iaload, 1) := by decide +kernel
theorem dL_law_766 : decode cL_law 766 = .ok (.invokevirtual 99, 3) := by decide +kernel
theorem dL_law_769 : decode cL_law 769 = .ok (.aload_n 2, 1) := by decide +kernel
theorem dL_law_770 : decode cL_law 770 = .ok (.aload_n 0, 1) := by decide +kernel
theorem dL_law_771 : decode cL_law 771 = .ok (.iload_n 3, 1) := by decide +kernel
theorem dL_law_772 : decode cL_law 772 = .ok (.iconst 1, 1) := by decide +kernel
theorem dL_law_773 : decode cL_law 773 = .ok (.iadd, 1) := by decide +kernel
theorem dL_law_774 : decode cL_law 774 = .ok (.iaload, 1) := by decide +kernel
theorem dL_law_775 : decode cL_law 775 = .ok (.aload_n 0, 1) := by decide +kernel
theorem dL_law_776 : decode cL_law 776 = .ok (.iload_n 3, 1) := by decide +kernel
theorem dL_law_777 : decode cL_law 777 = .ok (.iconst 2, 1) := by decide +kernel
theorem dL_law_778 : decode cL_law 778 = .ok (.iadd, 1) := by decide +kernel
theorem dL_law_779 : decode cL_law 779 = .ok (.iaload, 1) := by decide +kernel
theorem dL_law_780 : decode cL_law 780 = .ok (.invokevirtual 102, 3) := by decide +kernel
theorem dL_law_783 : decode cL_law 783 = .ok (.if_icmp .eq 332, 3) := by decide +kernel
theorem dL_law_786 : decode cL_law 786 = .ok (.iconst 0, 1) := by decide +kernel
theorem dL_law_787 : decode cL_law 787 = .ok (.ireturn, 1) := by decide +kernel
theorem dL_law_788 : decode cL_law 788 = .ok (.aload_n 1, 1) := by decide +kernel
theorem dL_law_789 : decode cL_law 789 = .ok (.aload_n 0, 1) := by decide +kernel
theorem dL_law_790 : decode cL_law 790 = .ok (.iload_n 3, 1) := by decide +kernel
theorem dL_law_791 : decode cL_law 791 = .ok (.iconst 1, 1) := by decide +kernel
theorem dL_law_792 : decode cL_law 792 = .ok (.iadd, 1) := by decide +kernel
theorem dL_law_793 : decode cL_law 793 = .ok (.iaload, 1) := by decide +kernel
theorem dL_law_794 : decode cL_law 794 = .ok (.aload_n 0, 1) := by decide +kernel
theorem dL_law_795 : decode cL_law 795 = .ok (.iload_n 3, 1) := by decide +kernel
theorem dL_law_796 : decode cL_law 796 = .ok (.iconst 2, 1) := by decide +kernel
theorem dL_law_797 : decode cL_law 797 = .ok (.iadd, 1) := by decide +kernel
theorem dL_law_798 : decode cL_law 798 = .ok (.iaload, 1) := by decide +kernel
theorem dL_law_799 : decode cL_law 799 = .ok (.invokevirtual 103, 3) := by decide +kernel
theorem dL_law_802 : decode cL_law 802 = .ok (.aload_n 2, 1) := by decide +kernel
theorem dL_law_803 : decode cL_law 803 = .ok (.aload_n 0, 1) := by decide +kernel
theorem dL_law_804 : decode cL_law 804 = .ok (.iload_n 3, 1) := by decide +kernel
theorem dL_law_805 : decode cL_law 805 = .ok (.iconst 1, 1) := by decide +kernel
theorem dL_law_806 : decode cL_law 806 = .ok (.iadd, 1) := by decide +kernel
theorem dL_law_807 : decode cL_law 807 = .ok (.iaload, 1) := by decide +kernel
theorem dL_law_808 : decode cL_law 808 = .ok (.aload_n 0, 1) := by decide +kernel
theorem dL_law_809 : decode cL_law 809 = .ok (.iload_n 3, 1) := by decide +kernel
theorem dL_law_810 : decode cL_law 810 = .ok (.iconst 2, 1) := by decide +kernel
theorem dL_law_811 : decode cL_law 811 = .ok (.iadd, 1) := by decide +kernel
theorem dL_law_812 : decode cL_law 812 = .ok (.iaload, 1) := by decide +kernel
theorem dL_law_813 : decode cL_law 813 = .ok (.invokevirtual 106, 3) := by decide +kernel
theorem dL_law_816 : decode cL_law 816 = .ok (.if_icmp .eq 299, 3) := by decide +kernel
theorem dL_law_819 : decode cL_law 819 = .ok (.iconst 0, 1) := by decide +kernel
theorem dL_law_820 : decode cL_law 820 = .ok (.ireturn, 1) := by decide +kernel
theorem dL_law_821 : decode cL_law 821 = .ok (.aload_n 1, 1) := by decide +kernel
theorem dL_law_822 : decode cL_law 822 = .ok (.aload_n 0, 1) := by decide +kernel
theorem dL_law_823 : decode cL_law 823 = .ok (.iload_n 3, 1) := by decide +kernel
theorem dL_law_824 : decode cL_law 824 = .ok (.iconst 1, 1) := by decide +kernel
theorem dL_law_825 : decode cL_law 825 = .ok (.iadd, 1) := by decide +kernel
theorem dL_law_826 : decode cL_law 826 = .ok (.iaload, 1) := by decide +kernel
theorem dL_law_827 : decode cL_law 827 = .ok (.invokevirtual 107, 3) := by decide +kernel
theorem dL_law_830 : decode cL_law 830 = .ok (.aload_n 2, 1) := by decide +kernel
theorem dL_law_831 : decode cL_law 831 = .ok (.aload_n 0, 1) := by decide +kernel
theorem dL_law_832 : decode cL_law 832 = .ok (.iload_n 3, 1) := by decide +kernel
theorem dL_law_833 : decode cL_law 833 = .ok (.iconst 1, 1) := by decide +kernel
theorem dL_law_834 : decode cL_law 834 = .ok (.iadd, 1) := by decide +kernel
theorem dL_law_835 : decode cL_law 835 = .ok (.iaload, 1) := by decide +kernel
theorem dL_law_836 : decode cL_law 836 = .ok (.invokevirtual 110, 3) := by decide +kernel
theorem dL_law_839 : decode cL_law 839 = .ok (.if_icmp .eq 276, 3) := by decide +kernel
theorem dL_law_842 : decode cL_law 842 = .ok (.iconst 0, 1) := by decide +kernel
theorem dL_law_843 : decode cL_law 843 = .ok (.ireturn, 1) := by decide +kernel
theorem dL_law_844 : decode cL_law 844 = .ok (.aload_n 1, 1) := by decide +kernel
theorem dL_law_845 : decode cL_law 845 = .ok (.aload_n 0, 1) := by decide +kernel
theorem dL_law_846 : decode cL_law 846 = .ok (.iload_n 3, 1) := by decide +kernel
theorem dL_law_847 : decode cL_law 847 = .ok (.iconst 1, 1) := by decide +kernel
theorem dL_law_848 : decode cL_law 848 = .ok (.iadd, 1) := by decide +kernel
theorem dL_law_849 : decode cL_law 849 = .ok (.iaload, 1) := by decide +kernel
theorem dL_law_850 : decode cL_law 850 = .ok (.invokevirtual 111, 3) := by decide +kernel
theorem dL_law_853 : decode cL_law 853 = .ok (.aload_n 2, 1) := by decide +kernel
theorem dL_law_854 : decode cL_law 854 = .ok (.aload_n 0, 1) := by decide +kernel
theorem dL_law_855 : decode cL_law 855 = .ok (.iload_n 3, 1) := by decide +kernel
theorem dL_law_856 : decode cL_law 856 = .ok (.iconst 1, 1) := by decide +kernel
theorem dL_law_857 : decode cL_law 857 = .ok (.iadd, 1) := by decide +kernel
theorem dL_law_858 : decode cL_law 858 = .ok (.iaload, 1) := by decide +kernel
theorem dL_law_859 : decode cL_law 859 = .ok (.invokevirtual 114, 3) := by decide +kernel
theorem dL_law_862 : decode cL_law 862 = .ok (.if_icmp .eq 253, 3) := by decide +kernel
theorem dL_law_865 : decode cL_law 865 = .ok (.iconst 0, 1) := by decide +kernel
theorem dL_law_866 : decode cL_law 866 = .ok (.ireturn, 1) := by decide +kernel
theorem dL_law_867 : decode cL_law 867 = .ok (.aload_n 1, 1) := by decide +kernel
theorem dL_law_868 : decode cL_law 868 = .ok (.invokevirtual 115, 3) := by decide +kernel
theorem dL_law_871 : decode cL_law 871 = .ok (.aload_n 2, 1) := by decide +kernel
theorem dL_law_872 : decode cL_law 872 = .ok (.invokevirtual 118, 3) := by decide +kernel
theorem dL_law_875 : decode cL_law 875 = .ok (.if_icmp .eq 240, 3) := by decide +kernel
theorem dL_law_878 : decode cL_law 878 = .ok (.iconst 0, 1) := by decide +kernel
theorem dL_law_879 : decode cL_law 879 = .ok (.ireturn, 1) := by decide +kernel
theorem dL_law_880 : decode cL_law 880 = .ok (.aload_n 1, 1) := by decide +kernel
theorem dL_law_881 : decode cL_law 881 = .ok (.invokevirtual 119, 3) := by decide +kernel
theorem dL_law_884 : decode cL_law 884 = .ok (.aload_n 2, 1) := by decide +kernel
theorem dL_law_885 : decode cL_law 885 = .ok (.invokevirtual 122, 3) := by decide +kernel
theorem dL_law_888 : decode cL_law 888 = .ok (.if_icmp .eq 227, 3) := by decide +kernel
theorem dL_law_891 : decode cL_law 891 = .ok (.iconst 0, 1) := by decide +kernel
theorem dL_law_892 : decode cL_law 892 = .ok (.ireturn, 1) := by decide +kernel
theorem dL_law_893 : decode cL_law 893 = .ok (.aload_n 1, 1) := by decide +kernel
theorem dL_law_894 : decode cL_law 894 = .ok (.aload_n 0, 1) := by decide +kernel
theorem dL_law_895 : decode cL_law 895 = .ok (.iload_n 3, 1) := by decide +kernel
theorem dL_law_896 : decode cL_law 896 = .ok (.iconst 1, 1) := by decide +kernel
theorem dL_law_897 : decode cL_law 897 = .ok (.iadd, 1) := by decide +kernel
theorem dL_law_898 : decode cL_law 898 = .ok (.iaload, 1) := by decide +kernel
theorem dL_law_899 : decode cL_law 899 = .ok (.aload_n 0, 1) := by decide +kernel
theorem dL_law_900 : decode cL_law 900 = .ok (.iload_n 3, 1) := by decide +kernel
theorem dL_law_901 : decode cL_law 901 = .ok (.iconst 2, 1) := by decide +kernel
theorem dL_law_902 : decode cL_law 902 = .ok (.iadd, 1) := by decide +kernel
theorem dL_law_903 : decode cL_law 903 = .ok (.iaload, 1) := by decide +kernel
theorem dL_law_904 : decode cL_law 904 = .ok (.invokevirtual 123, 3) := by decide +kernel
theorem dL_law_907 : decode cL_law 907 = .ok (.aload_n 2, 1) := by decide +kernel
theorem dL_law_908 : decode cL_law 908 = .ok (.aload_n 0, 1) := by decide +kernel
theorem dL_law_909 : decode cL_law 909 = .ok (.iload_n 3, 1) := by decide +kernel
theorem dL_law_910 : decode cL_law 910 = .ok (.iconst 1, 1) := by decide +kernel
theorem dL_law_911 : decode cL_law 911 = .ok (.iadd, 1) := by decide +kernel
theorem dL_law_912 : decode cL_law 912 = .ok (.iaload, 1) := by decide +kernel
theorem dL_law_913 : decode cL_law 913 = .ok (.aload_n 0, 1) := by decide +kernel
theorem dL_law_914 : decode cL_law 914 = .ok (.iload_n 3, 1) := by decide +kernel
theorem dL_law_915 : decode cL_law 915 = .ok (.iconst 2, 1) := by decide +kernel
theorem dL_law_916 : decode cL_law 916 = .ok (.iadd, 1) := by decide +kernel
theorem dL_law_917 : decode cL_law 917 = .ok (.iaload, 1) := by decide +kernel
theorem dL_law_918 : decode cL_law 918 = .ok (.invokevirtual 126, 3) := by decide +kernel
theorem dL_law_921 : decode cL_law 921 = .ok (.if_icmp .eq 194, 3) := by decide +kernel
theorem dL_law_924 : decode cL_law 924 = .ok (.iconst 0, 1) := by decide +kernel
theorem dL_law_925 : decode cL_law 925 = .ok (.ireturn, 1) := by decide +kernel
theorem dL_law_926 : decode cL_law 926 = .ok (.aload_n 1, 1) := by decide +kernel
theorem dL_law_927 : decode cL_law 927 = .ok (.invokevirtual 127, 3) := by decide +kernel
theorem dL_law_930 : decode cL_law 930 = .ok (.aload_n 2, 1) := by decide +kernel
theorem dL_law_931 : decode cL_law 931 = .ok (.invokevirtual 130, 3) := by decide +kernel
theorem dL_law_934 : decode cL_law 934 = .ok (.lcmp, 1) := by decide +kernel
theorem dL_law_935 : decode cL_law 935 = .ok (.ifCond .eq 180, 3) := by decide +kernel
theorem dL_law_938 : decode cL_law 938 = .ok (.iconst 0, 1) := by decide +kernel
theorem dL_law_939 : decode cL_law 939 = .ok (.ireturn, 1) := by decide +kernel
theorem dL_law_940 : decode cL_law 940 = .ok (.aload_n 1, 1) := by decide +kernel
theorem dL_law_941 : decode cL_law 941 = .ok (.aload_n 0, 1) := by decide +kernel
theorem dL_law_942 : decode cL_law 942 = .ok (.iload_n 3, 1) := by decide +kernel
theorem dL_law_943 : decode cL_law 943 = .ok (.iconst 1, 1) := by decide +kernel
theorem dL_law_944 : decode cL_law 944 = .ok (.iadd, 1) := by decide +kernel
theorem dL_law_945 : decode cL_law 945 = .ok (.iaload, 1) := by decide +kernel
theorem dL_law_946 : decode cL_law 946 = .ok (.aload_n 0, 1) := by decide +kernel
theorem dL_law_947 : decode cL_law 947 = .ok (.iload_n 3, 1) := by decide +kernel
theorem dL_law_948 : decode cL_law 948 = .ok (.iconst 2, 1) := by decide +kernel
theorem dL_law_949 : decode cL_law 949 = .ok (.iadd, 1) := by decide +kernel
theorem dL_law_950 : decode cL_law 950 = .ok (.iaload, 1) := by decide +kernel
theorem dL_law_951 : decode cL_law 951 = .ok (.invokevirtual 131, 3) := by decide +kernel
theorem dL_law_954 : decode cL_law 954 = .ok (.aload_n 2, 1) := by decide +kernel
theorem dL_law_955 : decode cL_law 955 = .ok (.aload_n 0, 1) := by decide +kernel
theorem dL_law_956 : decode cL_law 956 = .ok (.iload_n 3, 1) := by decide +kernel
theorem dL_law_957 : decode cL_law 957 = .ok (.iconst 1, 1) := by decide +kernel
theorem dL_law_958 : decode cL_law 958 = .ok (.iadd, 1) := by decide +kernel
theorem dL_law_959 : decode cL_law 959 = .ok (.iaload, 1) := by decide +kernel
theorem dL_law_960 : decode cL_law 960 = .ok (.aload_n 0, 1) := by decide +kernel
theorem dL_law_961 : decode cL_law 961 = .ok (.iload_n 3, 1) := by decide +kernel
theorem dL_law_962 : decode cL_law 962 = .ok (.iconst 2, 1) := by decide +kernel
theorem dL_law_963 : decode cL_law 963 = .ok (.iadd, 1) := by decide +kernel
theorem dL_law_964 : decode cL_law 964 = .ok (.iaload, 1) := by decide +kernel
theorem dL_law_965 : decode cL_law 965 = .ok (.invokevirtual 134, 3) := by decide +kernel
theorem dL_law_968 : decode cL_law 968 = .ok (.if_icmp .eq 147, 3) := by decide +kernel
theorem dL_law_971 : decode cL_law 971 = .ok (.iconst 0, 1) := by decide +kernel
theorem dL_law_972 : decode cL_law 972 = .ok (.ireturn, 1) := by decide +kernel
theorem dL_law_973 : decode cL_law 973 = .ok (.aload_n 1, 1) := by decide +kernel
theorem dL_law_974 : decode cL_law 974 = .ok (.aload_n 0, 1) := by decide +kernel
theorem dL_law_975 : decode cL_law 975 = .ok (.iload_n 3, 1) := by decide +kernel
theorem dL_law_976 : decode cL_law 976 = .ok (.iconst 1, 1) := by decide +kernel
theorem dL_law_977 : decode cL_law 977 = .ok (.iadd, 1) := by decide +kernel
theorem dL_law_978 : decode cL_law 978 = .ok (.iaload, 1) := by decide +kernel
theorem dL_law_979 : decode cL_law 979 = .ok (.aload_n 0, 1) := by decide +kernel
theorem dL_law_980 : decode cL_law 980 = .ok (.iload_n 3, 1) := by decide +kernel
theorem dL_law_981 : decode cL_law 981 = .ok (.iconst 2, 1) := by decide +kernel
theorem dL_law_982 : decode cL_law 982 = .ok (.iadd, 1) := by decide +kernel
theorem dL_law_983 : decode cL_law 983 = .ok (.iaload, 1) := by decide +kernel
theorem dL_law_984 : decode cL_law 984 = .ok (.invokevirtual 135, 3) := by decide +kernel
theorem dL_law_987 : decode cL_law 987 = .ok (.aload_n 2, 1) := by decide +kernel
theorem dL_law_988 : decode cL_law 988 = .ok (.aload_n 0, 1) := by decide +kernel
theorem dL_law_989 : decode cL_law 989 = .ok (.iload_n 3, 1) := by decide +kernel
theorem dL_law_990 : decode cL_law 990 = .ok (.iconst 1, 1) := by decide +kernel
theorem dL_law_991 : decode cL_law 991 = .ok (.iadd, 1) := by decide +kernel
theorem dL_law_992 : decode cL_law 992 = .ok (.iaload, 1) := by decide +kernel
theorem dL_law_993 : decode cL_law 993 = .ok (.aload_n 0, 1) := by decide +kernel
theorem dL_law_994 : decode cL_law 994 = .ok (.iload_n 3, 1) := by decide +kernel
theorem dL_law_995 : decode cL_law 995 = .ok (.iconst 2, 1) := by decide +kernel
theorem dL_law_996 : decode cL_law 996 = .ok (.iadd, 1) := by decide +kernel
theorem dL_law_997 : decode cL_law 997 = .ok (.iaload, 1) := by decide +kernel
theorem dL_law_998 : decode cL_law 998 = .ok (.invokevirtual 138, 3) := by decide +kernel
theorem dL_law_1001 : decode cL_law 1001 = .ok (.if_icmp .eq 114, 3) := by decide +kernel
theorem dL_law_1004 : decode cL_law 1004 = .ok (.iconst 0, 1) := by decide +kernel
theorem dL_law_1005 : decode cL_law 1005 = .ok (.ireturn, 1) := by decide +kernel
theorem dL_law_1006 : decode cL_law 1006 = .ok (.aload_n 1, 1) := by decide +kernel
theorem dL_law_1007 : decode cL_law 1007 = .ok (.aload_n 0, 1) := by decide +kernel
theorem dL_law_1008 : decode cL_law 1008 = .ok (.iload_n 3, 1) := by decide +kernel
theorem dL_law_1009 : decode cL_law 1009 = .ok (.iconst 1, 1) := by decide +kernel
theorem dL_law_1010 : decode cL_law 1010 = .ok (.iadd, 1) := by decide +kernel
theorem dL_law_1011 : decode cL_law 1011 = .ok (.iaload, 1) := by decide +kernel
theorem dL_law_1012 : decode cL_law 1012 = .ok (.aload_n 0, 1) := by decide +kernel
theorem dL_law_1013 : decode cL_law 1013 = .ok (.iload_n 3, 1) := by decide +kernel
theorem dL_law_1014 : decode cL_law 1014 = .ok (.iconst 2, 1) := by decide +kernel
theorem dL_law_1015 : decode cL_law 1015 = .ok (.iadd, 1) := by decide +kernel
theorem dL_law_1016 : decode cL_law 1016 = .ok (.iaload, 1) := by decide +kernel
theorem dL_law_1017 : decode cL_law 1017 = .ok (.aload_n 0, 1) := by decide +kernel
theorem dL_law_1018 : decode cL_law 1018 = .ok (.iload_n 3, 1) := by decide +kernel
theorem dL_law_1019 : decode cL_law 1019 = .ok (.iconst 3, 1) := by decide +kernel
theorem dL_law_1020 : decode cL_law 1020 = .ok (.iadd, 1) := by decide +kernel
theorem dL_law_1021 : decode cL_law 1021 = .ok (.iaload, 1) := by decide +kernel
theorem dL_law_1022 : decode cL_law 1022 = .ok (.ifCond .eq 7, 3) := by decide +kernel
theorem dL_law_1025 : decode cL_law 1025 = .ok (.iconst 1, 1) := by decide +kernel
theorem dL_law_1026 : decode cL_law 1026 = .ok (.goto 4, 3) := by decide +kernel
theorem dL_law_1029 : decode cL_law 1029 = .ok (.iconst 0, 1) := by decide +kernel
theorem dL_law_1030 : decode cL_law 1030 = .ok (.invokevirtual 139, 3) := by decide +kernel
theorem dL_law_1033 : decode cL_law 1033 = .ok (.aload_n 2, 1) := by decide +kernel
theorem dL_law_1034 : decode cL_law 1034 = .ok (.aload_n 0, 1) := by decide +kernel
theorem dL_law_1035 : decode cL_law 1035 = .ok (.iload_n 3, 1) := by decide +kernel
theorem dL_law_1036 : decode cL_law 1036 = .ok (.iconst 1, 1) := by decide +kernel
theorem dL_law_1037 : decode cL_law 1037 = .ok (.iadd, 1) := by decide +kernel
theorem dL_law_1038 : decode cL_law 1038 = .ok (.iaload, 1) := by decide +kernel
theorem dL_law_1039 : decode cL_law 1039 = .ok (.aload_n 0, 1) := by decide +kernel
theorem dL_law_1040 : decode cL_law 1040 = .ok (.iload_n 3, 1) := by decide +kernel
theorem dL_law_1041 : decode cL_law 1041 = .ok (.iconst 2, 1) := by decide +kernel
theorem dL_law_1042 : decode cL_law 1042 = .ok (.iadd, 1) := by decide +kernel
theorem dL_law_1043 : decode cL_law 1043 = .ok (.iaload, 1) := by decide +kernel
theorem dL_law_1044 : decode cL_law 1044 = .ok (.aload_n 0, 1) := by decide +kernel
theorem dL_law_1045 : decode cL_law 1045 = .ok (.iload_n 3, 1) := by decide +kernel
theorem dL_law_1046 : decode cL_law 1046 = .ok (.iconst 3, 1) := by decide +kernel
theorem dL_law_1047 : decode cL_law 1047 = .ok (.iadd, 1) := by decide +kernel
theorem dL_law_1048 : decode cL_law 1048 = .ok (.iaload, 1) := by decide +kernel
theorem dL_law_1049 : decode cL_law 1049 = .ok (.ifCond .eq 7, 3) := by decide +kernel
theorem dL_law_1052 : decode cL_law 1052 = .ok (.iconst 1, 1) := by decide +kernel
theorem dL_law_1053 : decode cL_law 1053 = .ok (.goto 4, 3) := by decide +kernel
theorem dL_law_1056 : decode cL_law 1056 = .ok (.iconst 0, 1) := by decide +kernel
theorem dL_law_1057 : decode cL_law 1057 = .ok (.invokevirtual 142, 3) := by decide +kernel
theorem dL_law_1060 : decode cL_law 1060 = .ok (.if_icmp .eq 55, 3) := by decide +kernel
theorem dL_law_1063 : decode cL_law 1063 = .ok (.iconst 0, 1) := by decide +kernel
theorem dL_law_1064 : decode cL_law 1064 = .ok (.ireturn, 1) := by decide +kernel
theorem dL_law_1065 : decode cL_law 1065 = .ok (.aload_n 1, 1) := by decide +kernel
theorem dL_law_1066 : decode cL_law 1066 = .ok (.aload_n 0, 1) := by decide +kernel
theorem dL_law_1067 : decode cL_law 1067 = .ok (.iload_n 3, 1) := by decide +kernel
theorem dL_law_1068 : decode cL_law 1068 = .ok (.iconst 1, 1) := by decide +kernel
theorem dL_law_1069 : decode cL_law 1069 = .ok (.iadd, 1) := by decide +kernel
theorem dL_law_1070 : decode cL_law 1070 = .ok (.iaload, 1) := by decide +kernel
theorem dL_law_1071 : decode cL_law 1071 = .ok (.invokevirtual 143, 3) := by decide +kernel
theorem dL_law_1074 : decode cL_law 1074 = .ok (.aload_n 2, 1) := by decide +kernel
theorem dL_law_1075 : decode cL_law 1075 = .ok (.aload_n 0, 1) := by decide +kernel
theorem dL_law_1076 : decode cL_law 1076 = .ok (.iload_n 3, 1) := by decide +kernel
theorem dL_law_1077 : decode cL_law 1077 = .ok (.iconst 1, 1) := by decide +kernel
theorem dL_law_1078 : decode cL_law 1078 = .ok (.iadd, 1) := by decide +kernel
theorem dL_law_1079 : decode cL_law 1079 = .ok (.iaload, 1) := by decide +kernel
theorem dL_law_1080 : decode cL_law 1080 = .ok (.invokevirtual 146, 3) := by decide +kernel
theorem dL_law_1083 : decode cL_law 1083 = .ok (.if_icmp .eq 32, 3) := by decide +kernel
theorem dL_law_1086 : decode cL_law 1086 = .ok (.iconst 0, 1) := by decide +kernel
theorem dL_law_1087 : decode cL_law 1087 = .ok (.ireturn, 1) := by decide +kernel
theorem dL_law_1088 : decode cL_law 1088 = .ok (.aload_n 1, 1) := by decide +kernel
theorem dL_law_1089 : decode cL_law 1089 = .ok (.invokevirtual 147, 3) := by decide +kernel
theorem dL_law_1092 : decode cL_law 1092 = .ok (.aload_n 2, 1) := by decide +kernel
theorem dL_law_1093 : decode cL_law 1093 = .ok (.invokevirtual 150, 3) := by decide +kernel
theorem dL_law_1096 : decode cL_law 1096 = .ok (.lcmp, 1) := by decide +kernel
theorem dL_law_1097 : decode cL_law 1097 = .ok (.ifCond .eq 18, 3) := by decide +kernel
theorem dL_law_1100 : decode cL_law 1100 = .ok (.iconst 0, 1) := by decide +kernel
theorem dL_law_1101 : decode cL_law 1101 = .ok (.ireturn, 1) := by decide +kernel
theorem dL_law_1102 : decode cL_law 1102 = .ok (.aload_n 1, 1) := by decide +kernel
theorem dL_law_1103 : decode cL_law 1103 = .ok (.invokevirtual 151, 3) := by decide +kernel
theorem dL_law_1106 : decode cL_law 1106 = .ok (.aload_n 2, 1) := by decide +kernel
theorem dL_law_1107 : decode cL_law 1107 = .ok (.invokevirtual 154, 3) := by decide +kernel
theorem dL_law_1110 : decode cL_law 1110 = .ok (.if_icmp .eq 5, 3) := by decide +kernel
theorem dL_law_1113 : decode cL_law 1113 = .ok (.iconst 0, 1) := by decide +kernel
theorem dL_law_1114 : decode cL_law 1114 = .ok (.ireturn, 1) := by decide +kernel
theorem dL_law_1115 : decode cL_law 1115 = .ok (.iinc 3 4, 3) := by decide +kernel
theorem dL_law_1118 : decode cL_law 1118 = .ok (.goto (-1100), 3) := by decide +kernel
theorem dL_law_1121 : decode cL_law 1121 = .ok (.iconst 1, 1) := by decide +kernel
theorem dL_law_1122 : decode cL_law 1122 = .ok (.ireturn, 1) := by decide +kernel
