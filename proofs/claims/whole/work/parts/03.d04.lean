theorem dX12_init_0 : decode cX12_init 0 = .ok (.aload_n 0, 1) := by decide +kernel
theorem dX12_init_1 : decode cX12_init 1 = .ok (.invokespecial 1, 3) := by decide +kernel
theorem dX12_init_4 : decode cX12_init 4 = .ok (.aload_n 0, 1) := by decide +kernel
theorem dX12_init_5 : decode cX12_init 5 = .ok (.sipush 400, 3) := by decide +kernel
theorem dX12_init_8 : decode cX12_init 8 = .ok (.newarray .int, 2) := by decide +kernel
theorem dX12_init_10 : decode cX12_init 10 = .ok (.putfield 7, 3) := by decide +kernel
theorem dX12_init_13 : decode cX12_init 13 = .ok (.aload_n 0, 1) := by decide +kernel
theorem dX12_init_14 : decode cX12_init 14 = .ok (.sipush 400, 3) := by decide +kernel
theorem dX12_init_17 : decode cX12_init 17 = .ok (.newarray .int, 2) := by decide +kernel
theorem dX12_init_19 : decode cX12_init 19 = .ok (.putfield 13, 3) := by decide +kernel
theorem dX12_init_22 : decode cX12_init 22 = .ok (.aload_n 0, 1) := by decide +kernel
theorem dX12_init_23 : decode cX12_init 23 = .ok (.sipush 400, 3) := by decide +kernel
theorem dX12_init_26 : decode cX12_init 26 = .ok (.newarray .int, 2) := by decide +kernel
theorem dX12_init_28 : decode cX12_init 28 = .ok (.putfield 16, 3) := by decide +kernel
theorem dX12_init_31 : decode cX12_init 31 = .ok (.aload_n 0, 1) := by decide +kernel
theorem dX12_init_32 : decode cX12_init 32 = .ok (.sipush 400, 3) := by decide +kernel
theorem dX12_init_35 : decode cX12_init 35 = .ok (.newarray .int, 2) := by decide +kernel
theorem dX12_init_37 : decode cX12_init 37 = .ok (.putfield 19, 3) := by decide +kernel
theorem dX12_init_40 : decode cX12_init 40 = .ok (.aload_n 0, 1) := by decide +kernel
theorem dX12_init_41 : decode cX12_init 41 = .ok (.bipush 10, 2) := by decide +kernel
theorem dX12_init_43 : decode cX12_init 43 = .ok (.newarray .int, 2) := by decide +kernel
theorem dX12_init_45 : decode cX12_init 45 = .ok (.putfield 22, 3) := by decide +kernel
theorem dX12_init_48 : decode cX12_init 48 = .ok (.aload_n 0, 1) := by decide +kernel
theorem dX12_init_49 : decode cX12_init 49 = .ok (.bipush 10, 2) := by decide +kernel
theorem dX12_init_51 : decode cX12_init 51 = .ok (.newarray .int, 2) := by decide +kernel
theorem dX12_init_53 : decode cX12_init 53 = .ok (.putfield 25, 3) := by decide +kernel
theorem dX12_init_56 : decode cX12_init 56 = .ok (.aload_n 0, 1) := by decide +kernel
theorem dX12_init_57 : decode cX12_init 57 = .ok (.bipush 10, 2) := by decide +kernel
theorem dX12_init_59 : decode cX12_init 59 = .ok (.newarray .int, 2) := by decide +kernel
theorem dX12_init_61 : decode cX12_init 61 = .ok (.putfield 28, 3) := by decide +kernel
theorem dX12_init_64 : decode cX12_init 64 = .ok (.aload_n 0, 1) := by decide +kernel
theorem dX12_init_65 : decode cX12_init 65 = .ok (.bipush 10, 2) := by decide +kernel
theorem dX12_init_67 : decode cX12_init 67 = .ok (.newarray .int, 2) := by decide +kernel
theorem dX12_init_69 : decode cX12_init 69 = .ok (.putfield 31, 3) := by decide +kernel
theorem dX12_init_72 : decode cX12_init 72 = .ok (.aload_n 0, 1) := by decide +kernel
theorem dX12_init_73 : decode cX12_init 73 = .ok (.bipush 10, 2) := by decide +kernel
theorem dX12_init_75 : decode cX12_init 75 = .ok (.newarray .int, 2) := by decide +kernel
theorem dX12_init_77 : decode cX12_init 77 = .ok (.putfield 34, 3) := by decide +kernel
theorem dX12_init_80 : decode cX12_init 80 = .ok (.aload_n 0, 1) := by decide +kernel
theorem dX12_init_81 : decode cX12_init 81 = .ok (.bipush 10, 2) := by decide +kernel
theorem dX12_init_83 : decode cX12_init 83 = .ok (.newarray .int, 2) := by decide +kernel
theorem dX12_init_85 : decode cX12_init 85 = .ok (.putfield 37, 3) := by decide +kernel
theorem dX12_init_88 : decode cX12_init 88 = .ok (.aload_n 0, 1) := by decide +kernel
theorem dX12_init_89 : decode cX12_init 89 = .ok (.bipush 10, 2) := by decide +kernel
theorem dX12_init_91 : decode cX12_init 91 = .ok (.newarray .int, 2) := by decide +kernel
theorem dX12_init_93 : decode cX12_init 93 = .ok (.putfield 40, 3) := by decide +kernel
theorem dX12_init_96 : decode cX12_init 96 = .ok (.aload_n 0, 1) := by decide +kernel
theorem dX12_init_97 : decode cX12_init 97 = .ok (.bipush 16, 2) := by decide +kernel
theorem dX12_init_99 : decode cX12_init 99 = .ok (.newarray .boolean, 2) := by decide +kernel
theorem dX12_init_101 : decode cX12_init 101 = .ok (.putfield 43, 3) := by decide +kernel
theorem dX12_init_104 : decode cX12_init 104 = .ok (.aload_n 0, 1) := by decide +kernel
theorem dX12_init_105 : decode cX12_init 105 = .ok (.sipush 400, 3) := by decide +kernel
theorem dX12_init_108 : decode cX12_init 108 = .ok (.newarray .int, 2) := by decide +kernel
theorem dX12_init_110 : decode cX12_init 110 = .ok (.putfield 47, 3) := by decide +kernel
theorem dX12_init_113 : decode cX12_init 113 = .ok (.aload_n 0, 1) := by decide +kernel
theorem dX12_init_114 : decode cX12_init 114 = .ok (.iconst (-1), 1) := by decide +kernel
theorem dX12_init_115 : decode cX12_init 115 = .ok (.putfield 50, 3) := by decide +kernel
theorem dX12_init_118 : decode cX12_init 118 = .ok (.aload_n 0, 1) := by decide +kernel
theorem dX12_init_119 : decode cX12_init 119 = .ok (.sipush 400, 3) := by decide +kernel
theorem dX12_init_122 : decode cX12_init 122 = .ok (.newarray .int, 2) := by decide +kernel
theorem dX12_init_124 : decode cX12_init 124 = .ok (.putfield 54, 3) := by decide +kernel
theorem dX12_init_127 : decode cX12_init 127 = .ok (.aload_n 0, 1) := by decide +kernel
theorem dX12_init_128 : decode cX12_init 128 = .ok (.sipush 400, 3) := by decide +kernel
theorem dX12_init_131 : decode cX12_init 131 = .ok (.newarray .int, 2) := by decide +kernel
theorem dX12_init_133 : decode cX12_init 133 = .ok (.putfield 57, 3) := by decide +kernel
theorem dX12_init_136 : decode cX12_init 136 = .ok (.aload_n 0, 1) := by decide +kernel
theorem dX12_init_137 : decode cX12_init 137 = .ok (.sipush 400, 3) := by decide +kernel
theorem dX12_init_140 : decode cX12_init 140 = .ok (.newarray .int, 2) := by decide +kernel
theorem dX12_init_142 : decode cX12_init 142 = .ok (.putfield 60, 3) := by decide +kernel
theorem dX12_init_145 : decode cX12_init 145 = .ok (.aload_n 0, 1) := by decide +kernel
theorem dX12_init_146 : decode cX12_init 146 = .ok (.sipush 400, 3) := by decide +kernel
theorem dX12_init_149 : decode cX12_init 149 = .ok (.newarray .int, 2) := by decide +kernel
theorem dX12_init_151 : decode cX12_init 151 = .ok (.putfield 63, 3) := by decide +kernel
theorem dX12_init_154 : decode cX12_init 154 = .ok (.aload_n 0, 1) := by decide +kernel
theorem dX12_init_155 : decode cX12_init 155 = .ok (.sipush 400, 3) := by decide +kernel
theorem dX12_init_158 : decode cX12_init 158 = .ok (.newarray .int, 2) := by decide +kernel
theorem dX12_init_160 : decode cX12_init 160 = .ok (.putfield 66, 3) := by decide +kernel
theorem dX12_init_163 : decode cX12_init 163 = .ok (.aload_n 0, 1) := by decide +kernel
theorem dX12_init_164 : decode cX12_init 164 = .ok (.bipush 8, 2) := by decide +kernel
theorem dX12_init_166 : decode cX12_init 166 = .ok (.newarray .int, 2) := by decide +kernel
theorem dX12_init_168 : decode cX12_init 168 = .ok (.putfield 69, 3) := by decide +kernel
theorem dX12_init_171 : decode cX12_init 171 = .ok (.aload_n 0, 1) := by decide +kernel
theorem dX12_init_172 : decode cX12_init 172 = .ok (.sipush 1600, 3) := by decide +kernel
theorem dX12_init_175 : decode cX12_init 175 = .ok (.newarray .int, 2) := by decide +kernel
theorem dX12_init_177 : decode cX12_init 177 = .ok (.putfield 72, 3) := by decide +kernel
theorem dX12_init_180 : decode cX12_init 180 = .ok (.aload_n 0, 1) := by decide +kernel
theorem dX12_init_181 : decode cX12_init 181 = .ok (.sipush 1024, 3) := by decide +kernel
theorem dX12_init_184 : decode cX12_init 184 = .ok (.newarray .boolean, 2) := by decide +kernel
theorem dX12_init_186 : decode cX12_init 186 = .ok (.putfield 75, 3) := by decide +kernel
theorem dX12_init_189 : decode cX12_init 189 = .ok (.aload_n 0, 1) := by decide +kernel
theorem dX12_init_190 : decode cX12_init 190 = .ok (.sipush 1024, 3) := by decide +kernel
theorem dX12_init_193 : decode cX12_init 193 = .ok (.newarray .int, 2) := by decide +kernel
theorem dX12_init_195 : decode cX12_init 195 = .ok (.putfield 78, 3) := by decide +kernel
theorem dX12_init_198 : decode cX12_init 198 = .ok (.aload_n 0, 1) := by decide +kernel
theorem dX12_init_199 : decode cX12_init 199 = .ok (.sipush 1024, 3) := by decide +kernel
theorem dX12_init_202 : decode cX12_init 202 = .ok (.newarray .long, 2) := by decide +kernel
theorem dX12_init_204 : decode cX12_init 204 = .ok (.putfield 81, 3) := by decide +kernel
theorem dX12_init_207 : decode cX12_init 207 = .ok (.aload_n 0, 1) := by decide +kernel
theorem dX12_init_208 : decode cX12_init 208 = .ok (.sipush 1024, 3) := by decide +kernel
theorem dX12_init_211 : decode cX12_init 211 = .ok (.newarray .long, 2) := by decide +kernel
theorem dX12_init_213 : decode cX12_init 213 = .ok (.putfield 85, 3) := by decide +kernel
theorem dX12_init_216 : decode cX12_init 216 = .ok (.aload_n 0, 1) := by decide +kernel
theorem dX12_init_217 : decode cX12_init 217 = .ok (.sipush 4096, 3) := by decide +kernel
theorem dX12_init_220 : decode cX12_init 220 = .ok (.newarray .int, 2) := by decide +kernel
theorem dX12_init_222 : decode cX12_init 222 = .ok (.putfield 88, 3) := by decide +kernel
theorem dX12_init_225 : decode cX12_init 225 = .ok (.aload_n 0, 1) := by decide +kernel
theorem dX12_init_226 : decode cX12_init 226 = .ok (.sipush 4096, 3) := by decide +kernel
theorem dX12_init_229 : decode cX12_init 229 = .ok (.newarray .int, 2) := by decide +kernel
theorem dX12_init_231 : decode cX12_init 231 = .ok (.putfield 91, 3) := by decide +kernel
theorem dX12_init_234 : decode cX12_init 234 = .ok (.aload_n 0, 1) := by decide +kernel
theorem dX12_init_235 : decode cX12_init 235 = .ok (.sipush 1024, 3) := by decide +kernel
theorem dX12_init_238 : decode cX12_init 238 = .ok (.newarray .int, 2) := by decide +kernel
theorem dX12_init_240 : decode cX12_init 240 = .ok (.putfield 94, 3) := by decide +kernel
theorem dX12_init_243 : decode cX12_init 243 = .ok (.aload_n 0, 1) := by decide +kernel
theorem dX12_init_244 : decode cX12_init 244 = .ok (.ldc 97, 2) := by decide +kernel
theorem dX12_init_246 : decode cX12_init 246 = .ok (.newarray .int, 2) := by decide +kernel
theorem dX12_init_248 : decode cX12_init 248 = .ok (.putfield 98, 3) := by decide +kernel
theorem dX12_init_251 : decode cX12_init 251 = .ok (.aload_n 0, 1) := by decide +kernel
theorem dX12_init_252 : decode cX12_init 252 = .ok (.sipush 1024, 3) := by decide +kernel
theorem dX12_init_255 : decode cX12_init 255 = .ok (.newarray .long, 2) := by decide +kernel
theorem dX12_init_257 : decode cX12_init 257 = .ok (.putfield 101, 3) := by decide +kernel
theorem dX12_init_260 : decode cX12_init 260 = .ok (.aload_n 0, 1) := by decide +kernel
theorem dX12_init_261 : decode cX12_init 261 = .ok (.sipush 1024, 3) := by decide +kernel
theorem dX12_init_264 : decode cX12_init 264 = .ok (.newarray .int, 2) := by decide +kernel
theorem dX12_init_266 : decode cX12_init 266 = .ok (.putfield 104, 3) := by decide +kernel
theorem dX12_init_269 : decode cX12_init 269 = .ok (.aload_n 0, 1) := by decide +kernel
theorem dX12_init_270 : decode cX12_init 270 = .ok (.bipush 40, 2) := by decide +kernel
theorem dX12_init_272 : decode cX12_init 272 = .ok (.newarray .int, 2) := by decide +kernel
theorem dX12_init_274 : decode cX12_init 274 = .ok (.putfield 107, 3) := by decide +kernel
theorem dX12_init_277 : decode cX12_init 277 = .ok (.aload_n 0, 1) := by decide +kernel
theorem dX12_init_278 : decode cX12_init 278 = .ok (.bipush 40, 2) := by decide +kernel
theorem dX12_init_280 : decode cX12_init 280 = .ok (.newarray .int, 2) := by decide +kernel
theorem dX12_init_282 : decode cX12_init 282 = .ok (.putfield 110, 3) := by decide +kernel
theorem dX12_init_285 : decode cX12_init 285 = .ok (.aload_n 0, 1) := by decide +kernel
theorem dX12_init_286 : decode cX12_init 286 = .ok (.bipush 41, 2) := by decide +kernel
theorem dX12_init_288 : decode cX12_init 288 = .ok (.newarray .int, 2) := by decide +kernel
theorem dX12_init_290 : decode cX12_init 290 = .ok (.putfield 113, 3) := by decide +kernel
theorem dX12_init_293 : decode cX12_init 293 = .ok (.aload_n 0, 1) := by decide +kernel
theorem dX12_init_294 : decode cX12_init 294 = .ok (.bipush 40, 2) := by decide +kernel
theorem dX12_init_296 : decode cX12_init 296 = .ok (.newarray .int, 2) := by decide +kernel
theorem dX12_init_298 : decode cX12_init 298 = .ok (.putfield 116, 3) := by decide +kernel
theorem dX12_init_301 : decode cX12_init 301 = .ok (.aload_n 0, 1) := by decide +kernel
theorem dX12_init_302 : decode cX12_init 302 = .ok (.iconst 4, 1) := by decide +kernel
theorem dX12_init_303 : decode cX12_init 303 = .ok (.newarray .int, 2) := by decide +kernel
theorem dX12_init_305 : decode cX12_init 305 = .ok (.putfield 119, 3) := by decide +kernel
theorem dX12_init_308 : decode cX12_init 308 = .ok (.aload_n 0, 1) := by decide +kernel
theorem dX12_init_309 : decode cX12_init 309 = .ok (.sipush 160, 3) := by decide +kernel
theorem dX12_init_312 : decode cX12_init 312 = .ok (.newarray .int, 2) := by decide +kernel
theorem dX12_init_314 : decode cX12_init 314 = .ok (.putfield 122, 3) := by decide +kernel
theorem dX12_init_317 : decode cX12_init 317 = .ok (.aload_n 0, 1) := by decide +kernel
theorem dX12_init_318 : decode cX12_init 318 = .ok (.sipush 4096, 3) := by decide +kernel
theorem dX12_init_321 : decode cX12_init 321 = .ok (.newarray .long, 2) := by decide +kernel
theorem dX12_init_323 : decode cX12_init 323 = .ok (.putfield 125, 3) := by decide +kernel
theorem dX12_init_326 : decode cX12_init 326 = .ok (.aload_n 0, 1) := by decide +kernel
theorem dX12_init_327 : decode cX12_init 327 = .ok (.sipush 4096, 3) := by decide +kernel
theorem dX12_init_330 : decode cX12_init 330 = .ok (.newarray .long, 2) := by decide +kernel
theorem dX12_init_332 : decode cX12_init 332 = .ok (.putfield 128, 3) := by decide +kernel
theorem dX12_init_335 : decode cX12_init 335 = .ok (.aload_n 0, 1) := by decide +kernel
theorem dX12_init_336 : decode cX12_init 336 = .ok (.sipush 10000, 3) := by decide +kernel
theorem dX12_init_339 : decode cX12_init 339 = .ok (.newarray .boolean, 2) := by decide +kernel
theorem dX12_init_341 : decode cX12_init 341 = .ok (.putfield 131, 3) := by decide +kernel
theorem dX12_init_344 : decode cX12_init 344 = .ok (.aload_n 0, 1) := by decide +kernel
theorem dX12_init_345 : decode cX12_init 345 = .ok (.sipush 1024, 3) := by decide +kernel
theorem dX12_init_348 : decode cX12_init 348 = .ok (.newarray .long, 2) := by decide +kernel
theorem dX12_init_350 : decode cX12_init 350 = .ok (.putfield 134, 3) := by decide +kernel
theorem dX12_init_353 : decode cX12_init 353 = .ok (.aload_n 0, 1) := by decide +kernel
theorem dX12_init_354 : decode cX12_init 354 = .ok (.invokevirtual 137, 3) := by decide +kernel
theorem dX12_init_357 : decode cX12_init 357 = .ok (.pop, 1) := by decide +kernel
theorem dX12_init_358 : decode cX12_init 358 = .ok (.return_, 1) := by decide +kernel
theorem dX12_in_0 : decode cX12_in 0 = .ok (.lload_n 0, 1) := by decide +kernel
theorem dX12_in_1 : decode cX12_in 1 = .ok (.lload_n 2, 1) := by decide +kernel
theorem dX12_in_2 : decode cX12_in 2 = .ok (.lcmp, 1) := by decide +kernel
theorem dX12_in_3 : decode cX12_in 3 = .ok (.ifCond .lt 14, 3) := by decide +kernel
theorem dX12_in_6 : decode cX12_in 6 = .ok (.lload_n 0, 1) := by decide +kernel
theorem dX12_in_7 : decode cX12_in 7 = .ok (.lload 4, 2) := by decide +kernel
theorem dX12_in_9 : decode cX12_in 9 = .ok (.lcmp, 1) := by decide +kernel
theorem dX12_in_10 : decode cX12_in 10 = .ok (.ifCond .gt 7, 3) := by decide +kernel
theorem dX12_in_13 : decode cX12_in 13 = .ok (.iconst 1, 1) := by decide +kernel
theorem dX12_in_14 : decode cX12_in 14 = .ok (.goto 4, 3) := by decide +kernel
theorem dX12_in_17 : decode cX12_in 17 = .ok (.iconst 0, 1) := by decide +kernel
theorem dX12_in_18 : decode cX12_in 18 = .ok (.ireturn, 1) := by decide +kernel
theorem dX12_has_0 : decode cX12_has 0 = .ok (.iload_n 0, 1) := by decide +kernel
theorem dX12_has_1 : decode cX12_has 1 = .ok (.iload_n 1, 1) := by decide +kernel
theorem dX12_has_2 : decode cX12_has 2 = .ok (.ishr, 1) := by decide +kernel
theorem dX12_has_3 : decode cX12_has 3 = .ok (.iconst 1, 1) := by decide +kernel
theorem dX12_has_4 : decode cX12_has 4 = .ok (.iand, 1) := by decide +kernel
theorem dX12_has_5 : decode cX12_has 5 = .ok (.iconst 1, 1) := by decide +kernel
theorem dX12_has_6 : decode cX12_has 6 = .ok (.if_icmp .ne 7, 3) := by decide +kernel
theorem dX12_has_9 : decode cX12_has 9 = .ok (.iconst 1, 1) := by decide +kernel
theorem dX12_has_10 : decode cX12_has 10 = .ok (.goto 4, 3) := by decide +kernel
theorem dX12_has_13 : decode cX12_has 13 = .ok (.iconst 0, 1) := by decide +kernel
theorem dX12_has_14 : decode cX12_has 14 = .ok (.ireturn, 1) := by decide +kernel
theorem dX12_bits_0 : decode cX12_bits 0 = .ok (.iconst 0, 1) := by decide +kernel
theorem dX12_bits_1 : decode cX12_bits 1 = .ok (.istore_n 1, 1) := by decide +kernel
theorem dX12_bits_2 : decode cX12_bits 2 = .ok (.iconst 0, 1) := by decide +kernel
theorem dX12_bits_3 : decode cX12_bits 3 = .ok (.istore_n 2, 1) := by decide +kernel
theorem dX12_bits_4 : decode cX12_bits 4 = .ok (.iload_n 2, 1) := by decide +kernel
theorem dX12_bits_5 : decode cX12_bits 5 = .ok (.bipush 10, 2) := by decide +kernel
theorem dX12_bits_7 : decode cX12_bits 7 = .ok (.if_icmp .ge 17, 3) := by decide +kernel
theorem dX12_bits_10 : decode cX12_bits 10 = .ok (.iload_n 1, 1) := by decide +kernel
theorem dX12_bits_11 : decode cX12_bits 11 = .ok (.iload_n 0, 1) := by decide +kernel
theorem dX12_bits_12 : decode cX12_bits 12 = .ok (.iload_n 2, 1) := by decide +kernel
theorem dX12_bits_13 : decode cX12_bits 13 = .ok (.ishr, 1) := by decide +kernel
theorem dX12_bits_14 : decode cX12_bits 14 = .ok (.iconst 1, 1) := by decide +kernel
theorem dX12_bits_15 : decode cX12_bits 15 = .ok (.iand, 1) := by decide +kernel
theorem dX12_bits_16 : decode cX12_bits 16 = .ok (.iadd, 1) := by decide +kernel
theorem dX12_bits_17 : decode cX12_bits 17 = .ok (.istore_n 1, 1) := by decide +kernel
theorem dX12_bits_18 : decode cX12_bits 18 = .ok (.iinc 2 1, 3) := by decide +kernel
theorem dX12_bits_21 : decode cX12_bits 21 = .ok (.goto (-17), 3) := by decide +kernel
theorem dX12_bits_24 : decode cX12_bits 24 = .ok (.iload_n 1, 1) := by decide +kernel
theorem dX12_bits_25 : decode cX12_bits 25 = .ok (.ireturn, 1) := by decide +kernel
theorem dX12_isMark_0 : decode cX12_isMark 0 = .ok (.iload_n 1, 1) := by decide +kernel
theorem dX12_isMark_1 : decode cX12_isMark 1 = .ok (.i2l, 1) := by decide +kernel
theorem dX12_isMark_2 : decode cX12_isMark 2 = .ok (.lconst 0, 1) := by decide +kernel
theorem dX12_isMark_3 : decode cX12_isMark 3 = .ok (.aload_n 0, 1) := by decide +kernel
theorem dX12_isMark_4 : decode cX12_isMark 4 = .ok (.getfield 141, 3) := by decide +kernel
theorem dX12_isMark_7 : decode cX12_isMark 7 = .ok (.iconst 1, 1) := by decide +kernel
theorem dX12_isMark_8 : decode cX12_isMark 8 = .ok (.isub, 1) := by decide +kernel
theorem dX12_isMark_9 : decode cX12_isMark 9 = .ok (.i2l, 1) := by decide +kernel
theorem dX12_isMark_10 : decode cX12_isMark 10 = .ok (.invokestatic 144, 3) := by decide +kernel
theorem dX12_isMark_13 : decode cX12_isMark 13 = .ok (.ireturn, 1) := by decide +kernel
theorem dX12_all_0 : decode cX12_all 0 = .ok (.iconst 1, 1) := by decide +kernel
theorem dX12_all_1 : decode cX12_all 1 = .ok (.aload_n 0, 1) := by decide +kernel
theorem dX12_all_2 : decode cX12_all 2 = .ok (.getfield 141, 3) := by decide +kernel
theorem dX12_all_5 : decode cX12_all 5 = .ok (.ishl, 1) := by decide +kernel
theorem dX12_all_6 : decode cX12_all 6 = .ok (.iconst 1, 1) := by decide +kernel
theorem dX12_all_7 : decode cX12_all 7 = .ok (.isub, 1) := by decide +kernel
theorem dX12_all_8 : decode cX12_all 8 = .ok (.ireturn, 1) := by decide +kernel
theorem dX12_areMarks_0 : decode cX12_areMarks 0 = .ok (.iload_n 1, 1) := by decide +kernel
theorem dX12_areMarks_1 : decode cX12_areMarks 1 = .ok (.i2l, 1) := by decide +kernel
theorem dX12_areMarks_2 : decode cX12_areMarks 2 = .ok (.lconst 0, 1) := by decide +kernel
theorem dX12_areMarks_3 : decode cX12_areMarks 3 = .ok (.aload_n 0, 1) := by decide +kernel
theorem dX12_areMarks_4 : decode cX12_areMarks 4 = .ok (.invokevirtual 148, 3) := by decide +kernel
theorem dX12_areMarks_7 : decode cX12_areMarks 7 = .ok (.i2l, 1) := by decide +kernel
theorem dX12_areMarks_8 : decode cX12_areMarks 8 = .ok (.invokestatic 144, 3) := by decide +kernel
theorem dX12_areMarks_11 : decode cX12_areMarks 11 = .ok (.ireturn, 1) := by decide +kernel
theorem dX12_feed_0 : decode cX12_feed 0 = .ok (.iload_n 1, 1) := by decide +kernel
theorem dX12_feed_1 : decode cX12_feed 1 = .ok (.i2l, 1) := by decide +kernel
theorem dX12_feed_2 : decode cX12_feed 2 = .ok (.lconst 1, 1) := by decide +kernel
theorem dX12_feed_3 : decode cX12_feed 3 = .ok (.ldc2_w 152, 3) := by decide +kernel
theorem dX12_feed_6 : decode cX12_feed 6 = .ok (.invokestatic 144, 3) := by decide +kernel
theorem dX12_feed_9 : decode cX12_feed 9 = .ok (.ifCond .ne 7, 3) := by decide +kernel
theorem dX12_feed_12 : decode cX12_feed 12 = .ok (.sipush (-1002), 3) := by decide +kernel
theorem dX12_feed_15 : decode cX12_feed 15 = .ok (.ireturn, 1) := by decide +kernel
theorem dX12_feed_16 : decode cX12_feed 16 = .ok (.aload_n 0, 1) := by decide +kernel
theorem dX12_feed_17 : decode cX12_feed 17 = .ok (.getfield 154, 3) := by decide +kernel
theorem dX12_feed_20 : decode cX12_feed 20 = .ok (.iload_n 1, 1) := by decide +kernel
theorem dX12_feed_21 : decode cX12_feed 21 = .ok (.iadd, 1) := by decide +kernel
theorem dX12_feed_22 : decode cX12_feed 22 = .ok (.sipush 400, 3) := by decide +kernel
theorem dX12_feed_25 : decode cX12_feed 25 = .ok (.if_icmp .le 7, 3) := by decide +kernel
theorem dX12_feed_28 : decode cX12_feed 28 = .ok (.sipush (-1004), 3) := by decide +kernel
theorem dX12_feed_31 : decode cX12_feed 31 = .ok (.ireturn, 1) := by decide +kernel
theorem dX12_feed_32 : decode cX12_feed 32 = .ok (.iload_n 1, 1) := by decide +kernel
theorem dX12_feed_33 : decode cX12_feed 33 = .ok (.iconst 1, 1) := by decide +kernel
theorem dX12_feed_34 : decode cX12_feed 34 = .ok (.isub, 1) := by decide +kernel
theorem dX12_feed_35 : decode cX12_feed 35 = .ok (.istore 4, 2) := by decide +kernel
theorem dX12_feed_37 : decode cX12_feed 37 = .ok (.iload 4, 2) := by decide +kernel
theorem dX12_feed_39 : decode cX12_feed 39 = .ok (.ifCond .lt 40, 3) := by decide +kernel
theorem dX12_feed_42 : decode cX12_feed 42 = .ok (.aload_n 0, 1) := by decide +kernel
theorem dX12_feed_43 : decode cX12_feed 43 = .ok (.getfield 47, 3) := by decide +kernel
theorem dX12_feed_46 : decode cX12_feed 46 = .ok (.aload_n 0, 1) := by decide +kernel
theorem dX12_feed_47 : decode cX12_feed 47 = .ok (.getfield 154, 3) := by decide +kernel
theorem dX12_feed_50 : decode cX12_feed 50 = .ok (.lload_n 2, 1) := by decide +kernel
theorem dX12_feed_51 : decode cX12_feed 51 = .ok (.bipush 8, 2) := by decide +kernel
theorem dX12_feed_53 : decode cX12_feed 53 = .ok (.iload 4, 2) := by decide +kernel
theorem dX12_feed_55 : decode cX12_feed 55 = .ok (.imul, 1) := by decide +kernel
theorem dX12_feed_56 : decode cX12_feed 56 = .ok (.lshr, 1) := by decide +kernel
theorem dX12_feed_57 : decode cX12_feed 57 = .ok (.ldc2_w 157, 3) := by decide +kernel
theorem dX12_feed_60 : decode cX12_feed 60 = .ok (.land, 1) := by decide +kernel
theorem dX12_feed_61 : decode cX12_feed 61 = .ok (.l2i, 1) := by decide +kernel
theorem dX12_feed_62 : decode cX12_feed 62 = .ok (.iastore, 1) := by decide +kernel
theorem dX12_feed_63 : decode cX12_feed 63 = .ok (.aload_n 0, 1) := by decide +kernel
theorem dX12_feed_64 : decode cX12_feed 64 = .ok (.dup, 1) := by decide +kernel
theorem dX12_feed_65 : decode cX12_feed 65 = .ok (.getfield 154, 3) := by decide +kernel
theorem dX12_feed_68 : decode cX12_feed 68 = .ok (.iconst 1, 1) := by decide +kernel
theorem dX12_feed_69 : decode cX12_feed 69 = .ok (.iadd, 1) := by decide +kernel
theorem dX12_feed_70 : decode cX12_feed 70 = .ok (.putfield 154, 3) := by decide +kernel
theorem dX12_feed_73 : decode cX12_feed 73 = .ok (.iinc 4 (-1), 3) := by decide +kernel
theorem dX12_feed_76 : decode cX12_feed 76 = .ok (.goto (-39), 3) := by decide +kernel
theorem dX12_feed_79 : decode cX12_feed 79 = .ok (.aload_n 0, 1) := by decide +kernel
theorem dX12_feed_80 : decode cX12_feed 80 = .ok (.getfield 154, 3) := by decide +kernel
theorem dX12_feed_83 : decode cX12_feed 83 = .ok (.ireturn, 1) := by decide +kernel
theorem dX12_here_0 : decode cX12_here 0 = .ok (.aload_n 0, 1) := by decide +kernel
theorem dX12_here_1 : decode cX12_here 1 = .ok (.getfield 159, 3) := by decide +kernel
theorem dX12_here_4 : decode cX12_here 4 = .ok (.aload_n 0, 1) := by decide +kernel
theorem dX12_here_5 : decode cX12_here 5 = .ok (.getfield 154, 3) := by decide +kernel
theorem dX12_here_8 : decode cX12_here 8 = .ok (.if_icmp .ge 30, 3) := by decide +kernel
theorem dX12_here_11 : decode cX12_here 11 = .ok (.aload_n 0, 1) := by decide +kernel
theorem dX12_here_12 : decode cX12_here 12 = .ok (.getfield 47, 3) := by decide +kernel
theorem dX12_here_15 : decode cX12_here 15 = .ok (.aload_n 0, 1) := by decide +kernel
theorem dX12_here_16 : decode cX12_here 16 = .ok (.getfield 159, 3) := by decide +kernel
theorem dX12_here_19 : decode cX12_here 19 = .ok (.iaload, 1) := by decide +kernel
theorem dX12_here_20 : decode cX12_here 20 = .ok (.bipush 32, 2) := by decide +kernel
theorem dX12_here_22 : decode cX12_here 22 = .ok (.if_icmp .ne 16, 3) := by decide +kernel
theorem dX12_here_25 : decode cX12_here 25 = .ok (.aload_n 0, 1) := by decide +kernel
theorem dX12_here_26 : decode cX12_here 26 = .ok (.dup, 1) := by decide +kernel
theorem dX12_here_27 : decode cX12_here 27 = .ok (.getfield 159, 3) := by decide +kernel
theorem dX12_here_30 : decode cX12_here 30 = .ok (.iconst 1, 1) := by decide +kernel
theorem dX12_here_31 : decode cX12_here 31 = .ok (.iadd, 1) := by decide +kernel
theorem dX12_here_32 : decode cX12_here 32 = .ok (.putfield 159, 3) := by decide +kernel
theorem dX12_here_35 : decode cX12_here 35 = .ok (.goto (-35), 3) := by decide +kernel
theorem dX12_here_38 : decode cX12_here 38 = .ok (.aload_n 0, 1) := by decide +kernel
theorem dX12_here_39 : decode cX12_here 39 = .ok (.getfield 159, 3) := by decide +kernel
theorem dX12_here_42 : decode cX12_here 42 = .ok (.aload_n 0, 1) := by decide +kernel
theorem dX12_here_43 : decode cX12_here 43 = .ok (.getfield 154, 3) := by decide +kernel
theorem dX12_here_46 : decode cX12_here 46 = .ok (.if_icmp .ge 15, 3) := by decide +kernel
theorem dX12_here_49 : decode cX12_here 49 = .ok (.aload_n 0, 1) := by decide +kernel
theorem dX12_here_50 : decode cX12_here 50 = .ok (.getfield 47, 3) := by decide +kernel
theorem dX12_here_53 : decode cX12_here 53 = .ok (.aload_n 0, 1) := by decide +kernel
theorem dX12_here_54 : decode cX12_here 54 = .ok (.getfield 159, 3) := by decide +kernel
theorem dX12_here_57 : decode cX12_here 57 = .ok (.iaload, 1) := by decide +kernel
theorem dX12_here_58 : decode cX12_here 58 = .ok (.goto 4, 3) := by decide +kernel
theorem dX12_here_61 : decode cX12_here 61 = .ok (.iconst (-1), 1) := by decide +kernel
theorem dX12_here_62 : decode cX12_here 62 = .ok (.ireturn, 1) := by decide +kernel
theorem dX12_fails_0 : decode cX12_fails 0 = .ok (.aload_n 0, 1) := by decide +kernel
theorem dX12_fails_1 : decode cX12_fails 1 = .ok (.iload_n 2, 1) := by decide +kernel
theorem dX12_fails_2 : decode cX12_fails 2 = .ok (.putfield 50, 3) := by decide +kernel
theorem dX12_fails_5 : decode cX12_fails 5 = .ok (.iload_n 1, 1) := by decide +kernel
theorem dX12_fails_6 : decode cX12_fails 6 = .ok (.ireturn, 1) := by decide +kernel
theorem dX12_takeNumber_0 : decode cX12_takeNumber 0 = .ok (.aload_n 0, 1) := by decide +kernel
theorem dX12_takeNumber_1 : decode cX12_takeNumber 1 = .ok (.invokevirtual 162, 3) := by decide +kernel
theorem dX12_takeNumber_4 : decode cX12_takeNumber 4 = .ok (.istore_n 2, 1) := by decide +kernel
theorem dX12_takeNumber_5 : decode cX12_takeNumber 5 = .ok (.iload_n 2, 1) := by decide +kernel
theorem dX12_takeNumber_6 : decode cX12_takeNumber 6 = .ok (.i2l, 1) := by decide +kernel
theorem dX12_takeNumber_7 : decode cX12_takeNumber 7 = .ok (.ldc2_w 165, 3) := by decide +kernel
theorem dX12_takeNumber_10 : decode cX12_takeNumber 10 = .ok (.ldc2_w 167, 3) := by decide +kernel
theorem dX12_takeNumber_13 : decode cX12_takeNumber 13 = .ok (.invokestatic 144, 3) := by decide +kernel
theorem dX12_takeNumber_16 : decode cX12_takeNumber 16 = .ok (.ifCond .ne 13, 3) := by decide +kernel
theorem dX12_takeNumber_19 : decode cX12_takeNumber 19 = .ok (.aload_n 0, 1) := by decide +kernel
theorem dX12_takeNumber_20 : decode cX12_takeNumber 20 = .ok (.iconst 1, 1) := by decide +kernel
theorem dX12_takeNumber_21 : decode cX12_takeNumber 21 = .ok (.aload_n 0, 1) := by decide +kernel
theorem dX12_takeNumber_22 : decode cX12_takeNumber 22 = .ok (.getfield 159, 3) := by decide +kernel
theorem dX12_takeNumber_25 : decode cX12_takeNumber 25 = .ok (.invokevirtual 169, 3) := by decide +kernel
theorem dX12_takeNumber_28 : decode cX12_takeNumber 28 = .ok (.ireturn, 1) := by decide +kernel
theorem dX12_takeNumber_29 : decode cX12_takeNumber 29 = .ok (.aload_n 0, 1) := by decide +kernel
theorem dX12_takeNumber_30 : decode cX12_takeNumber 30 = .ok (.aload_n 0, 1) := by decide +kernel
theorem dX12_takeNumber_31 : decode cX12_takeNumber 31 = .ok (.getfield 159, 3) := by decide +kernel
theorem dX12_takeNumber_34 : decode cX12_takeNumber 34 = .ok (.putfield 173, 3) := by decide +kernel
theorem dX12_takeNumber_37 : decode cX12_takeNumber 37 = .ok (.aload_n 0, 1) := by decide +kernel
theorem dX12_takeNumber_38 : decode cX12_takeNumber 38 = .ok (.iconst 0, 1) := by decide +kernel
theorem dX12_takeNumber_39 : decode cX12_takeNumber 39 = .ok (.putfield 176, 3) := by decide +kernel
theorem dX12_takeNumber_42 : decode cX12_takeNumber 42 = .ok (.aload_n 0, 1) := by decide +kernel
theorem dX12_takeNumber_43 : decode cX12_takeNumber 43 = .ok (.getfield 159, 3) := by decide +kernel
theorem dX12_takeNumber_46 : decode cX12_takeNumber 46 = .ok (.aload_n 0, 1) := by decide +kernel
theorem dX12_takeNumber_47 : decode cX12_takeNumber 47 = .ok (.getfield 154, 3) := by decide +kernel
theorem dX12_takeNumber_50 : decode cX12_takeNumber 50 = .ok (.if_icmp .ge 79, 3) := by decide +kernel
theorem dX12_takeNumber_53 : decode cX12_takeNumber 53 = .ok (.aload_n 0, 1) := by decide +kernel
theorem dX12_takeNumber_54 : decode cX12_takeNumber 54 = .ok (.getfield 47, 3) := by decide +kernel
theorem dX12_takeNumber_57 : decode cX12_takeNumber 57 = .ok (.aload_n 0, 1) := by decide +kernel
theorem dX12_takeNumber_58 : decode cX12_takeNumber 58 = .ok (.getfield 159, 3) := by decide +kernel
theorem dX12_takeNumber_61 : decode cX12_takeNumber 61 = .ok (.iaload, 1) := by decide +kernel
theorem dX12_takeNumber_62 : decode cX12_takeNumber 62 = .ok (.i2l, 1) := by decide +kernel
theorem dX12_takeNumber_63 : decode cX12_takeNumber 63 = .ok (.ldc2_w 165, 3) := by decide +kernel
theorem dX12_takeNumber_66 : decode cX12_takeNumber 66 = .ok (.ldc2_w 167, 3) := by decide +kernel
theorem dX12_takeNumber_69 : decode cX12_takeNumber 69 = .ok (.invokestatic 144, 3) := by decide +kernel
theorem dX12_takeNumber_72 : decode cX12_takeNumber 72 = .ok (.ifCond .eq 57, 3) := by decide +kernel
theorem dX12_takeNumber_75 : decode cX12_takeNumber 75 = .ok (.aload_n 0, 1) := by decide +kernel
theorem dX12_takeNumber_76 : decode cX12_takeNumber 76 = .ok (.aload_n 0, 1) := by decide +kernel
theorem dX12_takeNumber_77 : decode cX12_takeNumber 77 = .ok (.getfield 176, 3) := by decide +kernel
theorem dX12_takeNumber_80 : decode cX12_takeNumber 80 = .ok (.sipush 1000, 3) := by decide +kernel
theorem dX12_takeNumber_83 : decode cX12_takeNumber 83 = .ok (.if_icmp .le 10, 3) := by decide +kernel
theorem dX12_takeNumber_86 : decode cX12_takeNumber 86 = .ok (.aload_n 0, 1) := by decide +kernel
theorem dX12_takeNumber_87 : decode cX12_takeNumber 87 = .ok (.getfield 176, 3) := by decide +kernel
theorem dX12_takeNumber_90 : decode cX12_takeNumber 90 = .ok (.goto 23, 3) := by decide +kernel
theorem dX12_takeNumber_93 : decode cX12_takeNumber 93 = .ok (.bipush 10, 2) := by decide +kernel
theorem dX12_takeNumber_95 : decode cX12_takeNumber 95 = .ok (.aload_n 0, 1) := by decide +kernel
theorem dX12_takeNumber_96 : decode cX12_takeNumber 96 = .ok (.getfield 176, 3) := by decide +kernel
theorem dX12_takeNumber_99 : decode cX12_takeNumber 99 = .ok (.imul, 1) := by decide +kernel
theorem dX12_takeNumber_100 : decode cX12_takeNumber 100 = .ok (.aload_n 0, 1) := by decide +kernel
theorem dX12_takeNumber_101 : decode cX12_takeNumber 101 = .ok (.getfield 47, 3) := by decide +kernel
theorem dX12_takeNumber_104 : decode cX12_takeNumber 104 = .ok (.aload_n 0, 1) := by decide +kernel
theorem dX12_takeNumber_105 : decode cX12_takeNumber 105 = .ok (.getfield 159, 3) := by decide +kernel
theorem dX12_takeNumber_108 : decode cX12_takeNumber 108 = .ok (.iaload, 1) := by decide +kernel
theorem dX12_takeNumber_109 : decode cX12_takeNumber 109 = .ok (.iadd, 1) := by decide +kernel
theorem dX12_takeNumber_110 : decode cX12_takeNumber 110 = .ok (.bipush 48, 2) := by decide +kernel
theorem dX12_takeNumber_112 : decode cX12_takeNumber 112 = .ok (.isub, 1) := by decide +kernel
theorem dX12_takeNumber_113 : decode cX12_takeNumber 113 = .ok (.putfield 176, 3) := by decide +kernel
theorem dX12_takeNumber_116 : decode cX12_takeNumber 116 = .ok (.aload_n 0, 1) := by decide +kernel
theorem dX12_takeNumber_117 : decode cX12_takeNumber 117 = .ok (.dup, 1) := by decide +kernel
theorem dX12_takeNumber_118 : decode cX12_takeNumber 118 = .ok (.getfield 159, 3) := by decide +kernel
theorem dX12_takeNumber_121 : decode cX12_takeNumber 121 = .ok (.iconst 1, 1) := by decide +kernel
theorem dX12_takeNumber_122 : decode cX12_takeNumber 122 = .ok (.iadd, 1) := by decide +kernel
theorem dX12_takeNumber_123 : decode cX12_takeNumber 123 = .ok (.putfield 159, 3) := by decide +kernel
theorem dX12_takeNumber_126 : decode cX12_takeNumber 126 = .ok (.goto (-84), 3) := by decide +kernel
theorem dX12_takeNumber_129 : decode cX12_takeNumber 129 = .ok (.aload_n 0, 1) := by decide +kernel
theorem dX12_takeNumber_130 : decode cX12_takeNumber 130 = .ok (.getfield 159, 3) := by decide +kernel
theorem dX12_takeNumber_133 : decode cX12_takeNumber 133 = .ok (.aload_n 0, 1) := by decide +kernel
theorem dX12_takeNumber_134 : decode cX12_takeNumber 134 = .ok (.getfield 173, 3) := by decide +kernel
theorem dX12_takeNumber_137 : decode cX12_takeNumber 137 = .ok (.isub, 1) := by decide +kernel
theorem dX12_takeNumber_138 : decode cX12_takeNumber 138 = .ok (.iconst 2, 1) := by decide +kernel
theorem dX12_takeNumber_139 : decode cX12_takeNumber 139 = .ok (.if_icmp .gt 11, 3) := by decide +kernel
theorem dX12_takeNumber_142 : decode cX12_takeNumber 142 = .ok (.aload_n 0, 1) := by decide +kernel
theorem dX12_takeNumber_143 : decode cX12_takeNumber 143 = .ok (.getfield 176, 3) := by decide +kernel
theorem dX12_takeNumber_146 : decode cX12_takeNumber 146 = .ok (.iload_n 1, 1) := by decide +kernel
theorem dX12_takeNumber_147 : decode cX12_takeNumber 147 = .ok (.if_icmp .le 15, 3) := by decide +kernel
theorem dX12_takeNumber_150 : decode cX12_takeNumber 150 = .ok (.aload_n 0, 1) := by decide +kernel
theorem dX12_takeNumber_151 : decode cX12_takeNumber 151 = .ok (.iconst 2, 1) := by decide +kernel
theorem dX12_takeNumber_152 : decode cX12_takeNumber 152 = .ok (.aload_n 0, 1) := by decide +kernel
theorem dX12_takeNumber_153 : decode cX12_takeNumber 153 = .ok (.getfield 173, 3) := by decide +kernel
theorem dX12_takeNumber_156 : decode cX12_takeNumber 156 = .ok (.invokevirtual 169, 3) := by decide +kernel
theorem dX12_takeNumber_159 : decode cX12_takeNumber 159 = .ok (.goto 4, 3) := by decide +kernel
theorem dX12_takeNumber_162 : decode cX12_takeNumber 162 = .ok (.iconst 0, 1) := by decide +kernel
theorem dX12_takeNumber_163 : decode cX12_takeNumber 163 = .ok (.ireturn, 1) := by decide +kernel
theorem dX12_addSign_0 : decode cX12_addSign 0 = .ok (.aload_n 0, 1) := by decide +kernel
theorem dX12_addSign_1 : decode cX12_addSign 1 = .ok (.getfield 54, 3) := by decide +kernel
theorem dX12_addSign_4 : decode cX12_addSign 4 = .ok (.aload_n 0, 1) := by decide +kernel
theorem dX12_addSign_5 : decode cX12_addSign 5 = .ok (.getfield 179, 3) := by decide +kernel
theorem dX12_addSign_8 : decode cX12_addSign 8 = .ok (.iload_n 1, 1) := by decide +kernel
theorem dX12_addSign_9 : decode cX12_addSign 9 = .ok (.iastore, 1) := by decide +kernel
theorem dX12_addSign_10 : decode cX12_addSign 10 = .ok (.aload_n 0, 1) := by decide +kernel
theorem dX12_addSign_11 : decode cX12_addSign 11 = .ok (.getfield 57, 3) := by decide +kernel
theorem dX12_addSign_14 : decode cX12_addSign 14 = .ok (.aload_n 0, 1) := by decide +kernel
theorem dX12_addSign_15 : decode cX12_addSign 15 = .ok (.getfield 179, 3) := by decide +kernel
theorem dX12_addSign_18 : decode cX12_addSign 18 = .ok (.iload_n 2, 1) := by decide +kernel
theorem dX12_addSign_19 : decode cX12_addSign 19 = .ok (.iastore, 1) := by decide +kernel
theorem dX12_addSign_20 : decode cX12_addSign 20 = .ok (.aload_n 0, 1) := by decide +kernel
theorem dX12_addSign_21 : decode cX12_addSign 21 = .ok (.getfield 60, 3) := by decide +kernel
theorem dX12_addSign_24 : decode cX12_addSign 24 = .ok (.aload_n 0, 1) := by decide +kernel
theorem dX12_addSign_25 : decode cX12_addSign 25 = .ok (.getfield 179, 3) := by decide +kernel
theorem dX12_addSign_28 : decode cX12_addSign 28 = .ok (.iload_n 3, 1) := by decide +kernel
theorem dX12_addSign_29 : decode cX12_addSign 29 = .ok (.iastore, 1) := by decide +kernel
theorem dX12_addSign_30 : decode cX12_addSign 30 = .ok (.aload_n 0, 1) := by decide +kernel
theorem dX12_addSign_31 : decode cX12_addSign 31 = .ok (.getfield 63, 3) := by decide +kernel
theorem dX12_addSign_34 : decode cX12_addSign 34 = .ok (.aload_n 0, 1) := by decide +kernel
theorem dX12_addSign_35 : decode cX12_addSign 35 = .ok (.getfield 179, 3) := by decide +kernel
theorem dX12_addSign_38 : decode cX12_addSign 38 = .ok (.iconst (-1), 1) := by decide +kernel
theorem dX12_addSign_39 : decode cX12_addSign 39 = .ok (.iastore, 1) := by decide +kernel
theorem dX12_addSign_40 : decode cX12_addSign 40 = .ok (.aload_n 0, 1) := by decide +kernel
theorem dX12_addSign_41 : decode cX12_addSign 41 = .ok (.getfield 66, 3) := by decide +kernel
theorem dX12_addSign_44 : decode cX12_addSign 44 = .ok (.aload_n 0, 1) := by decide +kernel
theorem dX12_addSign_45 : decode cX12_addSign 45 = .ok (.getfield 179, 3) := by decide +kernel
theorem dX12_addSign_48 : decode cX12_addSign 48 = .ok (.iload 4, 2) := by decide +kernel
theorem dX12_addSign_50 : decode cX12_addSign 50 = .ok (.iastore, 1) := by decide +kernel
theorem dX12_addSign_51 : decode cX12_addSign 51 = .ok (.aload_n 0, 1) := by decide +kernel
theorem dX12_addSign_52 : decode cX12_addSign 52 = .ok (.dup, 1) := by decide +kernel
theorem dX12_addSign_53 : decode cX12_addSign 53 = .ok (.getfield 179, 3) := by decide +kernel
theorem dX12_addSign_56 : decode cX12_addSign 56 = .ok (.iconst 1, 1) := by decide +kernel
theorem dX12_addSign_57 : decode cX12_addSign 57 = .ok (.iadd, 1) := by decide +kernel
theorem dX12_addSign_58 : decode cX12_addSign 58 = .ok (.putfield 179, 3) := by decide +kernel
theorem dX12_addSign_61 : decode cX12_addSign 61 = .ok (.return_, 1) := by decide +kernel
theorem dX12_takeMark_0 : decode cX12_takeMark 0 = .ok (.aload_n 0, 1) := by decide +kernel
theorem dX12_takeMark_1 : decode cX12_takeMark 1 = .ok (.bipush 9, 2) := by decide +kernel
theorem dX12_takeMark_3 : decode cX12_takeMark 3 = .ok (.invokevirtual 182, 3) := by decide +kernel
theorem dX12_takeMark_6 : decode cX12_takeMark 6 = .ok (.istore_n 1, 1) := by decide +kernel
theorem dX12_takeMark_7 : decode cX12_takeMark 7 = .ok (.iload_n 1, 1) := by decide +kernel
theorem dX12_takeMark_8 : decode cX12_takeMark 8 = .ok (.ifCond .le 5, 3) := by decide +kernel
theorem dX12_takeMark_11 : decode cX12_takeMark 11 = .ok (.iload_n 1, 1) := by decide +kernel
theorem dX12_takeMark_12 : decode cX12_takeMark 12 = .ok (.ireturn, 1) := by decide +kernel
theorem dX12_takeMark_13 : decode cX12_takeMark 13 = .ok (.aload_n 0, 1) := by decide +kernel
theorem dX12_takeMark_14 : decode cX12_takeMark 14 = .ok (.getfield 186, 3) := by decide +kernel
theorem dX12_takeMark_17 : decode cX12_takeMark 17 = .ok (.aload_n 0, 1) := by decide +kernel
theorem dX12_takeMark_18 : decode cX12_takeMark 18 = .ok (.getfield 176, 3) := by decide +kernel
theorem dX12_takeMark_21 : decode cX12_takeMark 21 = .ok (.invokestatic 189, 3) := by decide +kernel
theorem dX12_takeMark_24 : decode cX12_takeMark 24 = .ok (.ifCond .eq 13, 3) := by decide +kernel
theorem dX12_takeMark_27 : decode cX12_takeMark 27 = .ok (.aload_n 0, 1) := by decide +kernel
theorem dX12_takeMark_28 : decode cX12_takeMark 28 = .ok (.iconst 3, 1) := by decide +kernel
theorem dX12_takeMark_29 : decode cX12_takeMark 29 = .ok (.aload_n 0, 1) := by decide +kernel
theorem dX12_takeMark_30 : decode cX12_takeMark 30 = .ok (.getfield 173, 3) := by decide +kernel
theorem dX12_takeMark_33 : decode cX12_takeMark 33 = .ok (.invokevirtual 169, 3) := by decide +kernel
theorem dX12_takeMark_36 : decode cX12_takeMark 36 = .ok (.ireturn, 1) := by decide +kernel
theorem dX12_takeMark_37 : decode cX12_takeMark 37 = .ok (.aload_n 0, 1) := by decide +kernel
theorem dX12_takeMark_38 : decode cX12_takeMark 38 = .ok (.dup, 1) := by decide +kernel
theorem dX12_takeMark_39 : decode cX12_takeMark 39 = .ok (.getfield 186, 3) := by decide +kernel
theorem dX12_takeMark_42 : decode cX12_takeMark 42 = .ok (.iconst 1, 1) := by decide +kernel
theorem dX12_takeMark_43 : decode cX12_takeMark 43 = .ok (.aload_n 0, 1) := by decide +kernel
theorem dX12_takeMark_44 : decode cX12_takeMark 44 = .ok (.getfield 176, 3) := by decide +kernel
theorem dX12_takeMark_47 : decode cX12_takeMark 47 = .ok (.ishl, 1) := by decide +kernel
theorem dX12_takeMark_48 : decode cX12_takeMark 48 = .ok (.ior, 1) := by decide +kernel
theorem dX12_takeMark_49 : decode cX12_takeMark 49 = .ok (.putfield 186, 3) := by decide +kernel
theorem dX12_takeMark_52 : decode cX12_takeMark 52 = .ok (.iconst 0, 1) := by decide +kernel
theorem dX12_takeMark_53 : decode cX12_takeMark 53 = .ok (.ireturn, 1) := by decide +kernel
theorem dX12_takeWord_0 : decode cX12_takeWord 0 = .ok (.aload_n 0, 1) := by decide +kernel
theorem dX12_takeWord_1 : decode cX12_takeWord 1 = .ok (.bipush 99, 2) := by decide +kernel
theorem dX12_takeWord_3 : decode cX12_takeWord 3 = .ok (.invokevirtual 182, 3) := by decide +kernel
theorem dX12_takeWord_6 : decode cX12_takeWord 6 = .ok (.istore_n 1, 1) := by decide +kernel
theorem dX12_takeWord_7 : decode cX12_takeWord 7 = .ok (.iload_n 1, 1) := by decide +kernel
theorem dX12_takeWord_8 : decode cX12_takeWord 8 = .ok (.ifCond .le 5, 3) := by decide +kernel
theorem dX12_takeWord_11 : decode cX12_takeWord 11 = .ok (.iload_n 1, 1) := by decide +kernel
theorem dX12_takeWord_12 : decode cX12_takeWord 12 = .ok (.ireturn, 1) := by decide +kernel
theorem dX12_takeWord_13 : decode cX12_takeWord 13 = .ok (.aload_n 0, 1) := by decide +kernel
theorem dX12_takeWord_14 : decode cX12_takeWord 14 = .ok (.getfield 193, 3) := by decide +kernel
theorem dX12_takeWord_17 : decode cX12_takeWord 17 = .ok (.bipush 40, 2) := by decide +kernel
theorem dX12_takeWord_19 : decode cX12_takeWord 19 = .ok (.if_icmp .ne 13, 3) := by decide +kernel
theorem dX12_takeWord_22 : decode cX12_takeWord 22 = .ok (.aload_n 0, 1) := by decide +kernel
theorem dX12_takeWord_23 : decode cX12_takeWord 23 = .ok (.iconst 4, 1) := by decide +kernel
theorem dX12_takeWord_24 : decode cX12_takeWord 24 = .ok (.aload_n 0, 1) := by decide +kernel
theorem dX12_takeWord_25 : decode cX12_takeWord 25 = .ok (.getfield 173, 3) := by decide +kernel
theorem dX12_takeWord_28 : decode cX12_takeWord 28 = .ok (.invokevirtual 169, 3) := by decide +kernel
theorem dX12_takeWord_31 : decode cX12_takeWord 31 = .ok (.ireturn, 1) := by decide +kernel
theorem dX12_takeWord_32 : decode cX12_takeWord 32 = .ok (.aload_n 0, 1) := by decide +kernel
theorem dX12_takeWord_33 : decode cX12_takeWord 33 = .ok (.dup, 1) := by decide +kernel
theorem dX12_takeWord_34 : decode cX12_takeWord 34 = .ok (.getfield 193, 3) := by decide +kernel
theorem dX12_takeWord_37 : decode cX12_takeWord 37 = .ok (.iconst 1, 1) := by decide +kernel
theorem dX12_takeWord_38 : decode cX12_takeWord 38 = .ok (.iadd, 1) := by decide +kernel
theorem dX12_takeWord_39 : decode cX12_takeWord 39 = .ok (.putfield 193, 3) := by decide +kernel
theorem dX12_takeWord_42 : decode cX12_takeWord 42 = .ok (.iconst 0, 1) := by decide +kernel
theorem dX12_takeWord_43 : decode cX12_takeWord 43 = .ok (.ireturn, 1) := by decide +kernel
theorem dX12_takeOpen_0 : decode cX12_takeOpen 0 = .ok (.aload_n 0, 1) := by decide +kernel
theorem dX12_takeOpen_1 : decode cX12_takeOpen 1 = .ok (.getfield 196, 3) := by decide +kernel
theorem dX12_takeOpen_4 : decode cX12_takeOpen 4 = .ok (.bipush 8, 2) := by decide +kernel
theorem dX12_takeOpen_6 : decode cX12_takeOpen 6 = .ok (.if_icmp .ne 13, 3) := by decide +kernel
theorem dX12_takeOpen_9 : decode cX12_takeOpen 9 = .ok (.aload_n 0, 1) := by decide +kernel
theorem dX12_takeOpen_10 : decode cX12_takeOpen 10 = .ok (.iconst 5, 1) := by decide +kernel
theorem dX12_takeOpen_11 : decode cX12_takeOpen 11 = .ok (.aload_n 0, 1) := by decide +kernel
theorem dX12_takeOpen_12 : decode cX12_takeOpen 12 = .ok (.getfield 159, 3) := by decide +kernel
theorem dX12_takeOpen_15 : decode cX12_takeOpen 15 = .ok (.invokevirtual 169, 3) := by decide +kernel
theorem dX12_takeOpen_18 : decode cX12_takeOpen 18 = .ok (.ireturn, 1) := by decide +kernel
theorem dX12_takeOpen_19 : decode cX12_takeOpen 19 = .ok (.aload_n 0, 1) := by decide +kernel
theorem dX12_takeOpen_20 : decode cX12_takeOpen 20 = .ok (.getfield 159, 3) := by decide +kernel
theorem dX12_takeOpen_23 : decode cX12_takeOpen 23 = .ok (.istore_n 2, 1) := by decide +kernel
theorem dX12_takeOpen_24 : decode cX12_takeOpen 24 = .ok (.aload_n 0, 1) := by decide +kernel
theorem dX12_takeOpen_25 : decode cX12_takeOpen 25 = .ok (.dup, 1) := by decide +kernel
theorem dX12_takeOpen_26 : decode cX12_takeOpen 26 = .ok (.getfield 159, 3) := by decide +kernel
theorem dX12_takeOpen_29 : decode cX12_takeOpen 29 = .ok (.iconst 1, 1) := by decide +kernel
theorem dX12_takeOpen_30 : decode cX12_takeOpen 30 = .ok (.iadd, 1) := by decide +kernel
theorem dX12_takeOpen_31 : decode cX12_takeOpen 31 = .ok (.putfield 159, 3) := by decide +kernel
theorem dX12_takeOpen_34 : decode cX12_takeOpen 34 = .ok (.aload_n 0, 1) := by decide +kernel
theorem dX12_takeOpen_35 : decode cX12_takeOpen 35 = .ok (.invokevirtual 199, 3) := by decide +kernel
theorem dX12_takeOpen_38 : decode cX12_takeOpen 38 = .ok (.istore_n 3, 1) := by decide +kernel
theorem dX12_takeOpen_39 : decode cX12_takeOpen 39 = .ok (.aload_n 0, 1) := by decide +kernel
theorem dX12_takeOpen_40 : decode cX12_takeOpen 40 = .ok (.getfield 176, 3) := by decide +kernel
theorem dX12_takeOpen_43 : decode cX12_takeOpen 43 = .ok (.istore 4, 2) := by decide +kernel
theorem dX12_takeOpen_45 : decode cX12_takeOpen 45 = .ok (.iconst (-1), 1) := by decide +kernel
theorem dX12_takeOpen_46 : decode cX12_takeOpen 46 = .ok (.istore 5, 2) := by decide +kernel
theorem dX12_takeOpen_48 : decode cX12_takeOpen 48 = .ok (.iload_n 3, 1) := by decide +kernel
theorem dX12_takeOpen_49 : decode cX12_takeOpen 49 = .ok (.ifCond .ne 38, 3) := by decide +kernel
theorem dX12_takeOpen_52 : decode cX12_takeOpen 52 = .ok (.iload_n 1, 1) := by decide +kernel
theorem dX12_takeOpen_53 : decode cX12_takeOpen 53 = .ok (.iconst 2, 1) := by decide +kernel
theorem dX12_takeOpen_54 : decode cX12_takeOpen 54 = .ok (.if_icmp .ne 33, 3) := by decide +kernel
theorem dX12_takeOpen_57 : decode cX12_takeOpen 57 = .ok (.aload_n 0, 1) := by decide +kernel
theorem dX12_takeOpen_58 : decode cX12_takeOpen 58 = .ok (.invokevirtual 162, 3) := by decide +kernel
theorem dX12_takeOpen_61 : decode cX12_takeOpen 61 = .ok (.bipush 33, 2) := by decide +kernel
theorem dX12_takeOpen_63 : decode cX12_takeOpen 63 = .ok (.if_icmp .ne 24, 3) := by decide +kernel
theorem dX12_takeOpen_66 : decode cX12_takeOpen 66 = .ok (.aload_n 0, 1) := by decide +kernel
theorem dX12_takeOpen_67 : decode cX12_takeOpen 67 = .ok (.dup, 1) := by decide +kernel
theorem dX12_takeOpen_68 : decode cX12_takeOpen 68 = .ok (.getfield 159, 3) := by decide +kernel
theorem dX12_takeOpen_71 : decode cX12_takeOpen 71 = .ok (.iconst 1, 1) := by decide +kernel
theorem dX12_takeOpen_72 : decode cX12_takeOpen 72 = .ok (.iadd, 1) := by decide +kernel
theorem dX12_takeOpen_73 : decode cX12_takeOpen 73 = .ok (.putfield 159, 3) := by decide +kernel
theorem dX12_takeOpen_76 : decode cX12_takeOpen 76 = .ok (.aload_n 0, 1) := by decide +kernel
theorem dX12_takeOpen_77 : decode cX12_takeOpen 77 = .ok (.invokevirtual 199, 3) := by decide +kernel
theorem dX12_takeOpen_80 : decode cX12_takeOpen 80 = .ok (.istore_n 3, 1) := by decide +kernel
theorem dX12_takeOpen_81 : decode cX12_takeOpen 81 = .ok (.aload_n 0, 1) := by decide +kernel
theorem dX12_takeOpen_82 : decode cX12_takeOpen 82 = .ok (.getfield 176, 3) := by decide +kernel
theorem dX12_takeOpen_85 : decode cX12_takeOpen 85 = .ok (.istore 5, 2) := by decide +kernel
theorem dX12_takeOpen_87 : decode cX12_takeOpen 87 = .ok (.iload_n 3, 1) := by decide +kernel
theorem dX12_takeOpen_88 : decode cX12_takeOpen 88 = .ok (.ifCond .le 5, 3) := by decide +kernel
theorem dX12_takeOpen_91 : decode cX12_takeOpen 91 = .ok (.iload_n 3, 1) := by decide +kernel
theorem dX12_takeOpen_92 : decode cX12_takeOpen 92 = .ok (.ireturn, 1) := by decide +kernel
theorem dX12_takeOpen_93 : decode cX12_takeOpen 93 = .ok (.aload_n 0, 1) := by decide +kernel
theorem dX12_takeOpen_94 : decode cX12_takeOpen 94 = .ok (.invokevirtual 162, 3) := by decide +kernel
theorem dX12_takeOpen_97 : decode cX12_takeOpen 97 = .ok (.bipush 58, 2) := by decide +kernel
theorem dX12_takeOpen_99 : decode cX12_takeOpen 99 = .ok (.if_icmp .eq 13, 3) := by decide +kernel
theorem dX12_takeOpen_102 : decode cX12_takeOpen 102 = .ok (.aload_n 0, 1) := by decide +kernel
theorem dX12_takeOpen_103 : decode cX12_takeOpen 103 = .ok (.iconst 1, 1) := by decide +kernel
theorem dX12_takeOpen_104 : decode cX12_takeOpen 104 = .ok (.aload_n 0, 1) := by decide +kernel
theorem dX12_takeOpen_105 : decode cX12_takeOpen 105 = .ok (.getfield 159, 3) := by decide +kernel
theorem dX12_takeOpen_108 : decode cX12_takeOpen 108 = .ok (.invokevirtual 169, 3) := by decide +kernel
theorem dX12_takeOpen_111 : decode cX12_takeOpen 111 = .ok (.ireturn, 1) := by decide +kernel
theorem dX12_takeOpen_112 : decode cX12_takeOpen 112 = .ok (.aload_n 0, 1) := by decide +kernel
theorem dX12_takeOpen_113 : decode cX12_takeOpen 113 = .ok (.dup, 1) := by decide +kernel
theorem dX12_takeOpen_114 : decode cX12_takeOpen 114 = .ok (.getfield 159, 3) := by decide +kernel
theorem dX12_takeOpen_117 : decode cX12_takeOpen 117 = .ok (.iconst 1, 1) := by decide +kernel
theorem dX12_takeOpen_118 : decode cX12_takeOpen 118 = .ok (.iadd, 1) := by decide +kernel
theorem dX12_takeOpen_119 : decode cX12_takeOpen 119 = .ok (.putfield 159, 3) := by decide +kernel
theorem dX12_takeOpen_122 : decode cX12_takeOpen 122 = .ok (.aload_n 0, 1) := by decide +kernel
theorem dX12_takeOpen_123 : decode cX12_takeOpen 123 = .ok (.getfield 69, 3) := by decide +kernel
theorem dX12_takeOpen_126 : decode cX12_takeOpen 126 = .ok (.aload_n 0, 1) := by decide +kernel
theorem dX12_takeOpen_127 : decode cX12_takeOpen 127 = .ok (.getfield 196, 3) := by decide +kernel
theorem dX12_takeOpen_130 : decode cX12_takeOpen 130 = .ok (.aload_n 0, 1) := by decide +kernel
theorem dX12_takeOpen_131 : decode cX12_takeOpen 131 = .ok (.getfield 179, 3) := by decide +kernel
theorem dX12_takeOpen_134 : decode cX12_takeOpen 134 = .ok (.iastore, 1) := by decide +kernel
theorem dX12_takeOpen_135 : decode cX12_takeOpen 135 = .ok (.aload_n 0, 1) := by decide +kernel
theorem dX12_takeOpen_136 : decode cX12_takeOpen 136 = .ok (.dup, 1) := by decide +kernel
theorem dX12_takeOpen_137 : decode cX12_takeOpen 137 = .ok (.getfield 196, 3) := by decide +kernel
theorem dX12_takeOpen_140 : decode cX12_takeOpen 140 = .ok (.iconst 1, 1) := by decide +kernel
theorem dX12_takeOpen_141 : decode cX12_takeOpen 141 = .ok (.iadd, 1) := by decide +kernel
theorem dX12_takeOpen_142 : decode cX12_takeOpen 142 = .ok (.putfield 196, 3) := by decide +kernel
theorem dX12_takeOpen_145 : decode cX12_takeOpen 145 = .ok (.aload_n 0, 1) := by decide +kernel
theorem dX12_takeOpen_146 : decode cX12_takeOpen 146 = .ok (.dup, 1) := by decide +kernel
theorem dX12_takeOpen_147 : decode cX12_takeOpen 147 = .ok (.getfield 202, 3) := by decide +kernel
theorem dX12_takeOpen_150 : decode cX12_takeOpen 150 = .ok (.iload_n 1, 1) := by decide +kernel
theorem dX12_takeOpen_151 : decode cX12_takeOpen 151 = .ok (.iconst 3, 1) := by decide +kernel
theorem dX12_takeOpen_152 : decode cX12_takeOpen 152 = .ok (.if_icmp .ne 7, 3) := by decide +kernel
theorem dX12_takeOpen_155 : decode cX12_takeOpen 155 = .ok (.iconst 1, 1) := by decide +kernel
theorem dX12_takeOpen_156 : decode cX12_takeOpen 156 = .ok (.goto 4, 3) := by decide +kernel
theorem dX12_takeOpen_159 : decode cX12_takeOpen 159 = .ok (.iconst 0, 1) := by decide +kernel
theorem dX12_takeOpen_160 : decode cX12_takeOpen 160 = .ok (.iadd, 1) := by decide +kernel
theorem dX12_takeOpen_161 : decode cX12_takeOpen 161 = .ok (.putfield 202, 3) := by decide +kernel
theorem dX12_takeOpen_164 : decode cX12_takeOpen 164 = .ok (.aload_n 0, 1) := by decide +kernel
theorem dX12_takeOpen_165 : decode cX12_takeOpen 165 = .ok (.dup, 1) := by decide +kernel
theorem dX12_takeOpen_166 : decode cX12_takeOpen 166 = .ok (.getfield 205, 3) := by decide +kernel
theorem dX12_takeOpen_169 : decode cX12_takeOpen 169 = .ok (.iload_n 1, 1) := by decide +kernel
theorem dX12_takeOpen_170 : decode cX12_takeOpen 170 = .ok (.iconst 3, 1) := by decide +kernel
theorem dX12_takeOpen_171 : decode cX12_takeOpen 171 = .ok (.if_icmp .ne 10, 3) := by decide +kernel
theorem dX12_takeOpen_174 : decode cX12_takeOpen 174 = .ok (.iconst 1, 1) := by decide +kernel
theorem dX12_takeOpen_175 : decode cX12_takeOpen 175 = .ok (.iload 4, 2) := by decide +kernel
theorem dX12_takeOpen_177 : decode cX12_takeOpen 177 = .ok (.ishl, 1) := by decide +kernel
theorem dX12_takeOpen_178 : decode cX12_takeOpen 178 = .ok (.goto 4, 3) := by decide +kernel
theorem dX12_takeOpen_181 : decode cX12_takeOpen 181 = .ok (.iconst 0, 1) := by decide +kernel
theorem dX12_takeOpen_182 : decode cX12_takeOpen 182 = .ok (.ior, 1) := by decide +kernel
theorem dX12_takeOpen_183 : decode cX12_takeOpen 183 = .ok (.putfield 205, 3) := by decide +kernel
theorem dX12_takeOpen_186 : decode cX12_takeOpen 186 = .ok (.aload_n 0, 1) := by decide +kernel
theorem dX12_takeOpen_187 : decode cX12_takeOpen 187 = .ok (.iload_n 1, 1) := by decide +kernel
theorem dX12_takeOpen_188 : decode cX12_takeOpen 188 = .ok (.iload 4, 2) := by decide +kernel
theorem dX12_takeOpen_190 : decode cX12_takeOpen 190 = .ok (.iload 5, 2) := by decide +kernel
theorem dX12_takeOpen_192 : decode cX12_takeOpen 192 = .ok (.iload_n 2, 1) := by decide +kernel
theorem dX12_takeOpen_193 : decode cX12_takeOpen 193 = .ok (.invokevirtual 208, 3) := by decide +kernel
theorem dX12_takeOpen_196 : decode cX12_takeOpen 196 = .ok (.aload_n 0, 1) := by decide +kernel
theorem dX12_takeOpen_197 : decode cX12_takeOpen 197 = .ok (.iconst 1, 1) := by decide +kernel
theorem dX12_takeOpen_198 : decode cX12_takeOpen 198 = .ok (.putfield 212, 3) := by decide +kernel
theorem dX12_takeOpen_201 : decode cX12_takeOpen 201 = .ok (.iconst 0, 1) := by decide +kernel
theorem dX12_takeOpen_202 : decode cX12_takeOpen 202 = .ok (.ireturn, 1) := by decide +kernel
theorem dX12_takeClose_0 : decode cX12_takeClose 0 = .ok (.aload_n 0, 1) := by decide +kernel
theorem dX12_takeClose_1 : decode cX12_takeClose 1 = .ok (.getfield 196, 3) := by decide +kernel
theorem dX12_takeClose_4 : decode cX12_takeClose 4 = .ok (.ifCond .eq 30, 3) := by decide +kernel
theorem dX12_takeClose_7 : decode cX12_takeClose 7 = .ok (.aload_n 0, 1) := by decide +kernel
theorem dX12_takeClose_8 : decode cX12_takeClose 8 = .ok (.getfield 212, 3) := by decide +kernel
theorem dX12_takeClose_11 : decode cX12_takeClose 11 = .ok (.ifCond .ne 23, 3) := by decide +kernel
theorem dX12_takeClose_14 : decode cX12_takeClose 14 = .ok (.aload_n 0, 1) := by decide +kernel
theorem dX12_takeClose_15 : decode cX12_takeClose 15 = .ok (.getfield 54, 3) := by decide +kernel
theorem dX12_takeClose_18 : decode cX12_takeClose 18 = .ok (.aload_n 0, 1) := by decide +kernel
theorem dX12_takeClose_19 : decode cX12_takeClose 19 = .ok (.getfield 69, 3) := by decide +kernel
theorem dX12_takeClose_22 : decode cX12_takeClose 22 = .ok (.aload_n 0, 1) := by decide +kernel
theorem dX12_takeClose_23 : decode cX12_takeClose 23 = .ok (.getfield 196, 3) := by decide +kernel
theorem dX12_takeClose_26 : decode cX12_takeClose 26 = .ok (.iconst 1, 1) := by decide +kernel
theorem dX12_takeClose_27 : decode cX12_takeClose 27 = .ok (.isub, 1) := by decide +kernel
theorem dX12_takeClose_28 : decode cX12_takeClose 28 = .ok (.iaload, 1) := by decide +kernel
theorem dX12_takeClose_29 : decode cX12_takeClose 29 = .ok (.iaload, 1) := by decide +kernel
theorem dX12_takeClose_30 : decode cX12_takeClose 30 = .ok (.iload_n 1, 1) := by decide +kernel
theorem dX12_takeClose_31 : decode cX12_takeClose 31 = .ok (.if_icmp .eq 13, 3) := by decide +kernel
theorem dX12_takeClose_34 : decode cX12_takeClose 34 = .ok (.aload_n 0, 1) := by decide +kernel
theorem dX12_takeClose_35 : decode cX12_takeClose 35 = .ok (.iconst 1, 1) := by decide +kernel
theorem dX12_takeClose_36 : decode cX12_takeClose 36 = .ok (.aload_n 0, 1) := by decide +kernel
theorem dX12_takeClose_37 : decode cX12_takeClose 37 = .ok (.getfield 159, 3) := by decide +kernel
theorem dX12_takeClose_40 : decode cX12_takeClose 40 = .ok (.invokevirtual 169, 3) := by decide +kernel
theorem dX12_takeClose_43 : decode cX12_takeClose 43 = .ok (.ireturn, 1) := by decide +kernel
theorem dX12_takeClose_44 : decode cX12_takeClose 44 = .ok (.aload_n 0, 1) := by decide +kernel
theorem dX12_takeClose_45 : decode cX12_takeClose 45 = .ok (.dup, 1) := by decide +kernel
theorem dX12_takeClose_46 : decode cX12_takeClose 46 = .ok (.getfield 196, 3) := by decide +kernel
theorem dX12_takeClose_49 : decode cX12_takeClose 49 = .ok (.iconst 1, 1) := by decide +kernel
theorem dX12_takeClose_50 : decode cX12_takeClose 50 = .ok (.isub, 1) := by decide +kernel
theorem dX12_takeClose_51 : decode cX12_takeClose 51 = .ok (.putfield 196, 3) := by decide +kernel
theorem dX12_takeClose_54 : decode cX12_takeClose 54 = .ok (.aload_n 0, 1) := by decide +kernel
theorem dX12_takeClose_55 : decode cX12_takeClose 55 = .ok (.getfield 69, 3) := by decide +kernel
theorem dX12_takeClose_58 : decode cX12_takeClose 58 = .ok (.aload_n 0, 1) := by decide +kernel
theorem dX12_takeClose_59 : decode cX12_takeClose 59 = .ok (.getfield 196, 3) := by decide +kernel
theorem dX12_takeClose_62 : decode cX12_takeClose 62 = .ok (.iaload, 1) := by decide +kernel
theorem dX12_takeClose_63 : decode cX12_takeClose 63 = .ok (.istore_n 2, 1) := by decide +kernel
theorem dX12_takeClose_64 : decode cX12_takeClose 64 = .ok (.aload_n 0, 1) := by decide +kernel
theorem dX12_takeClose_65 : decode cX12_takeClose 65 = .ok (.getfield 63, 3) := by decide +kernel
theorem dX12_takeClose_68 : decode cX12_takeClose 68 = .ok (.iload_n 2, 1) := by decide +kernel
theorem dX12_takeClose_69 : decode cX12_takeClose 69 = .ok (.aload_n 0, 1) := by decide +kernel
theorem dX12_takeClose_70 : decode cX12_takeClose 70 = .ok (.getfield 179, 3) := by decide +kernel
theorem dX12_takeClose_73 : decode cX12_takeClose 73 = .ok (.iastore, 1) := by decide +kernel
theorem dX12_takeClose_74 : decode cX12_takeClose 74 = .ok (.aload_n 0, 1) := by decide +kernel
theorem dX12_takeClose_75 : decode cX12_takeClose 75 = .ok (.dup, 1) := by decide +kernel
theorem dX12_takeClose_76 : decode cX12_takeClose 76 = .ok (.getfield 202, 3) := by decide +kernel
theorem dX12_takeClose_79 : decode cX12_takeClose 79 = .ok (.iload_n 1, 1) := by decide +kernel
theorem dX12_takeClose_80 : decode cX12_takeClose 80 = .ok (.iconst 3, 1) := by decide +kernel
theorem dX12_takeClose_81 : decode cX12_takeClose 81 = .ok (.if_icmp .ne 7, 3) := by decide +kernel
theorem dX12_takeClose_84 : decode cX12_takeClose 84 = .ok (.iconst 1, 1) := by decide +kernel
theorem dX12_takeClose_85 : decode cX12_takeClose 85 = .ok (.goto 4, 3) := by decide +kernel
theorem dX12_takeClose_88 : decode cX12_takeClose 88 = .ok (.iconst 0, 1) := by decide +kernel
theorem dX12_takeClose_89 : decode cX12_takeClose 89 = .ok (.isub, 1) := by decide +kernel
theorem dX12_takeClose_90 : decode cX12_takeClose 90 = .ok (.putfield 202, 3) := by decide +kernel
theorem dX12_takeClose_93 : decode cX12_takeClose 93 = .ok (.aload_n 0, 1) := by decide +kernel
theorem dX12_takeClose_94 : decode cX12_takeClose 94 = .ok (.iconst 4, 1) := by decide +kernel
theorem dX12_takeClose_95 : decode cX12_takeClose 95 = .ok (.iload_n 1, 1) := by decide +kernel
theorem dX12_takeClose_96 : decode cX12_takeClose 96 = .ok (.iconst 0, 1) := by decide +kernel
theorem dX12_takeClose_97 : decode cX12_takeClose 97 = .ok (.aload_n 0, 1) := by decide +kernel
theorem dX12_takeClose_98 : decode cX12_takeClose 98 = .ok (.getfield 159, 3) := by decide +kernel
theorem dX12_takeClose_101 : decode cX12_takeClose 101 = .ok (.invokevirtual 208, 3) := by decide +kernel
theorem dX12_takeClose_104 : decode cX12_takeClose 104 = .ok (.aload_n 0, 1) := by decide +kernel
theorem dX12_takeClose_105 : decode cX12_takeClose 105 = .ok (.getfield 63, 3) := by decide +kernel
theorem dX12_takeClose_108 : decode cX12_takeClose 108 = .ok (.aload_n 0, 1) := by decide +kernel
theorem dX12_takeClose_109 : decode cX12_takeClose 109 = .ok (.getfield 179, 3) := by decide +kernel
theorem dX12_takeClose_112 : decode cX12_takeClose 112 = .ok (.iconst 1, 1) := by decide +kernel
theorem dX12_takeClose_113 : decode cX12_takeClose 113 = .ok (.isub, 1) := by decide +kernel
theorem dX12_takeClose_114 : decode cX12_takeClose 114 = .ok (.iload_n 2, 1) := by decide +kernel
theorem dX12_takeClose_115 : decode cX12_takeClose 115 = .ok (.iastore, 1) := by decide +kernel
theorem dX12_takeClose_116 : decode cX12_takeClose 116 = .ok (.aload_n 0, 1) := by decide +kernel
theorem dX12_takeClose_117 : decode cX12_takeClose 117 = .ok (.dup, 1) := by decide +kernel
theorem dX12_takeClose_118 : decode cX12_takeClose 118 = .ok (.getfield 159, 3) := by decide +kernel
theorem dX12_takeClose_121 : decode cX12_takeClose 121 = .ok (.iconst 1, 1) := by decide +kernel
theorem dX12_takeClose_122 : decode cX12_takeClose 122 = .ok (.iadd, 1) := by decide +kernel
theorem dX12_takeClose_123 : decode cX12_takeClose 123 = .ok (.putfield 159, 3) := by decide +kernel
theorem dX12_takeClose_126 : decode cX12_takeClose 126 = .ok (.iconst 0, 1) := by decide +kernel
theorem dX12_takeClose_127 : decode cX12_takeClose 127 = .ok (.ireturn, 1) := by decide +kernel
theorem dX12_takeStar_0 : decode cX12_takeStar 0 = .ok (.aload_n 0, 1) := by decide +kernel
theorem dX12_takeStar_1 : decode cX12_takeStar 1 = .ok (.getfield 202, 3) := by decide +kernel
theorem dX12_takeStar_4 : decode cX12_takeStar 4 = .ok (.ifCond .le 13, 3) := by decide +kernel
theorem dX12_takeStar_7 : decode cX12_takeStar 7 = .ok (.aload_n 0, 1) := by decide +kernel
theorem dX12_takeStar_8 : decode cX12_takeStar 8 = .ok (.iconst 1, 1) := by decide +kernel
theorem dX12_takeStar_9 : decode cX12_takeStar 9 = .ok (.aload_n 0, 1) := by decide +kernel
theorem dX12_takeStar_10 : decode cX12_takeStar 10 = .ok (.getfield 159, 3) := by decide +kernel
theorem dX12_takeStar_13 : decode cX12_takeStar 13 = .ok (.invokevirtual 169, 3) := by decide +kernel
theorem dX12_takeStar_16 : decode cX12_takeStar 16 = .ok (.ireturn, 1) := by decide +kernel
theorem dX12_takeStar_17 : decode cX12_takeStar 17 = .ok (.aload_n 0, 1) := by decide +kernel
theorem dX12_takeStar_18 : decode cX12_takeStar 18 = .ok (.getfield 159, 3) := by decide +kernel
theorem dX12_takeStar_21 : decode cX12_takeStar 21 = .ok (.istore_n 1, 1) := by decide +kernel
theorem dX12_takeStar_22 : decode cX12_takeStar 22 = .ok (.aload_n 0, 1) := by decide +kernel
theorem dX12_takeStar_23 : decode cX12_takeStar 23 = .ok (.dup, 1) := by decide +kernel
theorem dX12_takeStar_24 : decode cX12_takeStar 24 = .ok (.getfield 159, 3) := by decide +kernel
theorem dX12_takeStar_27 : decode cX12_takeStar 27 = .ok (.iconst 1, 1) := by decide +kernel
theorem dX12_takeStar_28 : decode cX12_takeStar 28 = .ok (.iadd, 1) := by decide +kernel
theorem dX12_takeStar_29 : decode cX12_takeStar 29 = .ok (.putfield 159, 3) := by decide +kernel
theorem dX12_takeStar_32 : decode cX12_takeStar 32 = .ok (.aload_n 0, 1) := by decide +kernel
theorem dX12_takeStar_33 : decode cX12_takeStar 33 = .ok (.bipush 9, 2) := by decide +kernel
theorem dX12_takeStar_35 : decode cX12_takeStar 35 = .ok (.invokevirtual 182, 3) := by decide +kernel
theorem dX12_takeStar_38 : decode cX12_takeStar 38 = .ok (.istore_n 2, 1) := by decide +kernel
theorem dX12_takeStar_39 : decode cX12_takeStar 39 = .ok (.iload_n 2, 1) := by decide +kernel
theorem dX12_takeStar_40 : decode cX12_takeStar 40 = .ok (.ifCond .ne 27, 3) := by decide +kernel
theorem dX12_takeStar_43 : decode cX12_takeStar 43 = .ok (.aload_n 0, 1) := by decide +kernel
theorem dX12_takeStar_44 : decode cX12_takeStar 44 = .ok (.getfield 216, 3) := by decide +kernel
theorem dX12_takeStar_47 : decode cX12_takeStar 47 = .ok (.aload_n 0, 1) := by decide +kernel
theorem dX12_takeStar_48 : decode cX12_takeStar 48 = .ok (.getfield 176, 3) := by decide +kernel
theorem dX12_takeStar_51 : decode cX12_takeStar 51 = .ok (.invokestatic 189, 3) := by decide +kernel
theorem dX12_takeStar_54 : decode cX12_takeStar 54 = .ok (.ifCond .eq 13, 3) := by decide +kernel
theorem dX12_takeStar_57 : decode cX12_takeStar 57 = .ok (.aload_n 0, 1) := by decide +kernel
theorem dX12_takeStar_58 : decode cX12_takeStar 58 = .ok (.iconst 3, 1) := by decide +kernel
theorem dX12_takeStar_59 : decode cX12_takeStar 59 = .ok (.aload_n 0, 1) := by decide +kernel
theorem dX12_takeStar_60 : decode cX12_takeStar 60 = .ok (.getfield 173, 3) := by decide +kernel
theorem dX12_takeStar_63 : decode cX12_takeStar 63 = .ok (.invokevirtual 169, 3) := by decide +kernel
theorem dX12_takeStar_66 : decode cX12_takeStar 66 = .ok (.istore_n 2, 1) := by decide +kernel
theorem dX12_takeStar_67 : decode cX12_takeStar 67 = .ok (.aload_n 0, 1) := by decide +kernel
theorem dX12_takeStar_68 : decode cX12_takeStar 68 = .ok (.dup, 1) := by decide +kernel
theorem dX12_takeStar_69 : decode cX12_takeStar 69 = .ok (.getfield 216, 3) := by decide +kernel
theorem dX12_takeStar_72 : decode cX12_takeStar 72 = .ok (.iload_n 2, 1) := by decide +kernel
theorem dX12_takeStar_73 : decode cX12_takeStar 73 = .ok (.ifCond .le 7, 3) := by decide +kernel
theorem dX12_takeStar_76 : decode cX12_takeStar 76 = .ok (.iconst 0, 1) := by decide +kernel
theorem dX12_takeStar_77 : decode cX12_takeStar 77 = .ok (.goto 9, 3) := by decide +kernel
theorem dX12_takeStar_80 : decode cX12_takeStar 80 = .ok (.iconst 1, 1) := by decide +kernel
theorem dX12_takeStar_81 : decode cX12_takeStar 81 = .ok (.aload_n 0, 1) := by decide +kernel
theorem dX12_takeStar_82 : decode cX12_takeStar 82 = .ok (.getfield 176, 3) := by decide +kernel
theorem dX12_takeStar_85 : decode cX12_takeStar 85 = .ok (.ishl, 1) := by decide +kernel
theorem dX12_takeStar_86 : decode cX12_takeStar 86 = .ok (.ior, 1) := by decide +kernel
theorem dX12_takeStar_87 : decode cX12_takeStar 87 = .ok (.putfield 216, 3) := by decide +kernel
theorem dX12_takeStar_90 : decode cX12_takeStar 90 = .ok (.aload_n 0, 1) := by decide +kernel
theorem dX12_takeStar_91 : decode cX12_takeStar 91 = .ok (.iconst 5, 1) := by decide +kernel
theorem dX12_takeStar_92 : decode cX12_takeStar 92 = .ok (.aload_n 0, 1) := by decide +kernel
theorem dX12_takeStar_93 : decode cX12_takeStar 93 = .ok (.getfield 176, 3) := by decide +kernel
theorem dX12_takeStar_96 : decode cX12_takeStar 96 = .ok (.iconst 0, 1) := by decide +kernel
theorem dX12_takeStar_97 : decode cX12_takeStar 97 = .ok (.iload_n 1, 1) := by decide +kernel
theorem dX12_takeStar_98 : decode cX12_takeStar 98 = .ok (.invokevirtual 208, 3) := by decide +kernel
theorem dX12_takeStar_101 : decode cX12_takeStar 101 = .ok (.aload_n 0, 1) := by decide +kernel
theorem dX12_takeStar_102 : decode cX12_takeStar 102 = .ok (.iconst 0, 1) := by decide +kernel
theorem dX12_takeStar_103 : decode cX12_takeStar 103 = .ok (.putfield 212, 3) := by decide +kernel
theorem dX12_takeStar_106 : decode cX12_takeStar 106 = .ok (.iload_n 2, 1) := by decide +kernel
theorem dX12_takeStar_107 : decode cX12_takeStar 107 = .ok (.ireturn, 1) := by decide +kernel
theorem dX12_takeRow_0 : decode cX12_takeRow 0 = .ok (.aload_n 0, 1) := by decide +kernel
theorem dX12_takeRow_1 : decode cX12_takeRow 1 = .ok (.getfield 179, 3) := by decide +kernel
theorem dX12_takeRow_4 : decode cX12_takeRow 4 = .ok (.istore_n 1, 1) := by decide +kernel
theorem dX12_takeRow_5 : decode cX12_takeRow 5 = .ok (.aload_n 0, 1) := by decide +kernel
theorem dX12_takeRow_6 : decode cX12_takeRow 6 = .ok (.getfield 159, 3) := by decide +kernel
theorem dX12_takeRow_9 : decode cX12_takeRow 9 = .ok (.istore_n 2, 1) := by decide +kernel
theorem dX12_takeRow_10 : decode cX12_takeRow 10 = .ok (.aload_n 0, 1) := by decide +kernel
theorem dX12_takeRow_11 : decode cX12_takeRow 11 = .ok (.dup, 1) := by decide +kernel
theorem dX12_takeRow_12 : decode cX12_takeRow 12 = .ok (.getfield 159, 3) := by decide +kernel
theorem dX12_takeRow_15 : decode cX12_takeRow 15 = .ok (.iconst 1, 1) := by decide +kernel
theorem dX12_takeRow_16 : decode cX12_takeRow 16 = .ok (.iadd, 1) := by decide +kernel
theorem dX12_takeRow_17 : decode cX12_takeRow 17 = .ok (.putfield 159, 3) := by decide +kernel
theorem dX12_takeRow_20 : decode cX12_takeRow 20 = .ok (.aload_n 0, 1) := by decide +kernel
theorem dX12_takeRow_21 : decode cX12_takeRow 21 = .ok (.invokevirtual 219, 3) := by decide +kernel
theorem dX12_takeRow_24 : decode cX12_takeRow 24 = .ok (.istore_n 3, 1) := by decide +kernel
theorem dX12_takeRow_25 : decode cX12_takeRow 25 = .ok (.aload_n 0, 1) := by decide +kernel
theorem dX12_takeRow_26 : decode cX12_takeRow 26 = .ok (.bipush 6, 2) := by decide +kernel
theorem dX12_takeRow_28 : decode cX12_takeRow 28 = .ok (.aload_n 0, 1) := by decide +kernel
theorem dX12_takeRow_29 : decode cX12_takeRow 29 = .ok (.getfield 176, 3) := by decide +kernel
theorem dX12_takeRow_32 : decode cX12_takeRow 32 = .ok (.iconst 0, 1) := by decide +kernel
theorem dX12_takeRow_33 : decode cX12_takeRow 33 = .ok (.iload_n 2, 1) := by decide +kernel
theorem dX12_takeRow_34 : decode cX12_takeRow 34 = .ok (.invokevirtual 208, 3) := by decide +kernel
theorem dX12_takeRow_37 : decode cX12_takeRow 37 = .ok (.iload_n 3, 1) := by decide +kernel
theorem dX12_takeRow_38 : decode cX12_takeRow 38 = .ok (.ifCond .ne 7, 3) := by decide +kernel
theorem dX12_takeRow_41 : decode cX12_takeRow 41 = .ok (.iconst 1, 1) := by decide +kernel
theorem dX12_takeRow_42 : decode cX12_takeRow 42 = .ok (.goto 4, 3) := by decide +kernel
theorem dX12_takeRow_45 : decode cX12_takeRow 45 = .ok (.iconst 0, 1) := by decide +kernel
theorem dX12_takeRow_46 : decode cX12_takeRow 46 = .ok (.istore 4, 2) := by decide +kernel
theorem dX12_takeRow_48 : decode cX12_takeRow 48 = .ok (.iconst 0, 1) := by decide +kernel
theorem dX12_takeRow_49 : decode cX12_takeRow 49 = .ok (.istore 5, 2) := by decide +kernel
theorem dX12_takeRow_51 : decode cX12_takeRow 51 = .ok (.iload 4, 2) := by decide +kernel
theorem dX12_takeRow_53 : decode cX12_takeRow 53 = .ok (.ifCond .eq 126, 3) := by decide +kernel
theorem dX12_takeRow_56 : decode cX12_takeRow 56 = .ok (.aload_n 0, 1) := by decide +kernel
theorem dX12_takeRow_57 : decode cX12_takeRow 57 = .ok (.invokevirtual 162, 3) := by decide +kernel
theorem dX12_takeRow_60 : decode cX12_takeRow 60 = .ok (.istore 6, 2) := by decide +kernel
theorem dX12_takeRow_62 : decode cX12_takeRow 62 = .ok (.iload 6, 2) := by decide +kernel
theorem dX12_takeRow_64 : decode cX12_takeRow 64 = .ok (.bipush 47, 2) := by decide +kernel
theorem dX12_takeRow_66 : decode cX12_takeRow 66 = .ok (.if_icmp .eq 25, 3) := by decide +kernel
theorem dX12_takeRow_69 : decode cX12_takeRow 69 = .ok (.iload 6, 2) := by decide +kernel
theorem dX12_takeRow_71 : decode cX12_takeRow 71 = .ok (.bipush 41, 2) := by decide +kernel
theorem dX12_takeRow_73 : decode cX12_takeRow 73 = .ok (.if_icmp .ne 8, 3) := by decide +kernel
theorem dX12_takeRow_76 : decode cX12_takeRow 76 = .ok (.iload 5, 2) := by decide +kernel
theorem dX12_takeRow_78 : decode cX12_takeRow 78 = .ok (.ifCond .ne 13, 3) := by decide +kernel
theorem dX12_takeRow_81 : decode cX12_takeRow 81 = .ok (.aload_n 0, 1) := by decide +kernel
theorem dX12_takeRow_82 : decode cX12_takeRow 82 = .ok (.iconst 1, 1) := by decide +kernel
theorem dX12_takeRow_83 : decode cX12_takeRow 83 = .ok (.aload_n 0, 1) := by decide +kernel
theorem dX12_takeRow_84 : decode cX12_takeRow 84 = .ok (.getfield 159, 3) := by decide +kernel
theorem dX12_takeRow_87 : decode cX12_takeRow 87 = .ok (.invokevirtual 169, 3) := by decide +kernel
theorem dX12_takeRow_90 : decode cX12_takeRow 90 = .ok (.ireturn, 1) := by decide +kernel
theorem dX12_takeRow_91 : decode cX12_takeRow 91 = .ok (.aload_n 0, 1) := by decide +kernel
theorem dX12_takeRow_92 : decode cX12_takeRow 92 = .ok (.getfield 159, 3) := by decide +kernel
theorem dX12_takeRow_95 : decode cX12_takeRow 95 = .ok (.istore_n 2, 1) := by decide +kernel
theorem dX12_takeRow_96 : decode cX12_takeRow 96 = .ok (.aload_n 0, 1) := by decide +kernel
theorem dX12_takeRow_97 : decode cX12_takeRow 97 = .ok (.dup, 1) := by decide +kernel
theorem dX12_takeRow_98 : decode cX12_takeRow 98 = .ok (.getfield 159, 3) := by decide +kernel
theorem dX12_takeRow_101 : decode cX12_takeRow 101 = .ok (.iconst 1, 1) := by decide +kernel
theorem dX12_takeRow_102 : decode cX12_takeRow 102 = .ok (.iadd, 1) := by decide +kernel
theorem dX12_takeRow_103 : decode cX12_takeRow 103 = .ok (.putfield 159, 3) := by decide +kernel
theorem dX12_takeRow_106 : decode cX12_takeRow 106 = .ok (.iload 6, 2) := by decide +kernel
theorem dX12_takeRow_108 : decode cX12_takeRow 108 = .ok (.bipush 47, 2) := by decide +kernel
theorem dX12_takeRow_110 : decode cX12_takeRow 110 = .ok (.if_icmp .ne 7, 3) := by decide +kernel
theorem dX12_takeRow_113 : decode cX12_takeRow 113 = .ok (.iconst 1, 1) := by decide +kernel
theorem dX12_takeRow_114 : decode cX12_takeRow 114 = .ok (.goto 4, 3) := by decide +kernel
theorem dX12_takeRow_117 : decode cX12_takeRow 117 = .ok (.iconst 0, 1) := by decide +kernel
theorem dX12_takeRow_118 : decode cX12_takeRow 118 = .ok (.istore 4, 2) := by decide +kernel
theorem dX12_takeRow_120 : decode cX12_takeRow 120 = .ok (.iload 4, 2) := by decide +kernel
theorem dX12_takeRow_122 : decode cX12_takeRow 122 = .ok (.ifCond .eq 54, 3) := by decide +kernel
theorem dX12_takeRow_125 : decode cX12_takeRow 125 = .ok (.aload_n 0, 1) := by decide +kernel
theorem dX12_takeRow_126 : decode cX12_takeRow 126 = .ok (.invokevirtual 199, 3) := by decide +kernel
theorem dX12_takeRow_129 : decode cX12_takeRow 129 = .ok (.istore_n 3, 1) := by decide +kernel
theorem dX12_takeRow_130 : decode cX12_takeRow 130 = .ok (.aload_n 0, 1) := by decide +kernel
theorem dX12_takeRow_131 : decode cX12_takeRow 131 = .ok (.getfield 176, 3) := by decide +kernel
theorem dX12_takeRow_134 : decode cX12_takeRow 134 = .ok (.istore 7, 2) := by decide +kernel
theorem dX12_takeRow_136 : decode cX12_takeRow 136 = .ok (.iload_n 3, 1) := by decide +kernel
theorem dX12_takeRow_137 : decode cX12_takeRow 137 = .ok (.ifCond .le 7, 3) := by decide +kernel
theorem dX12_takeRow_140 : decode cX12_takeRow 140 = .ok (.iload_n 3, 1) := by decide +kernel
theorem dX12_takeRow_141 : decode cX12_takeRow 141 = .ok (.goto 7, 3) := by decide +kernel
theorem dX12_takeRow_144 : decode cX12_takeRow 144 = .ok (.aload_n 0, 1) := by decide +kernel
theorem dX12_takeRow_145 : decode cX12_takeRow 145 = .ok (.invokevirtual 219, 3) := by decide +kernel
theorem dX12_takeRow_148 : decode cX12_takeRow 148 = .ok (.istore_n 3, 1) := by decide +kernel
theorem dX12_takeRow_149 : decode cX12_takeRow 149 = .ok (.aload_n 0, 1) := by decide +kernel
theorem dX12_takeRow_150 : decode cX12_takeRow 150 = .ok (.bipush 7, 2) := by decide +kernel
theorem dX12_takeRow_152 : decode cX12_takeRow 152 = .ok (.aload_n 0, 1) := by decide +kernel
theorem dX12_takeRow_153 : decode cX12_takeRow 153 = .ok (.getfield 176, 3) := by decide +kernel
theorem dX12_takeRow_156 : decode cX12_takeRow 156 = .ok (.iload 7, 2) := by decide +kernel
theorem dX12_takeRow_158 : decode cX12_takeRow 158 = .ok (.iload_n 2, 1) := by decide +kernel
theorem dX12_takeRow_159 : decode cX12_takeRow 159 = .ok (.invokevirtual 208, 3) := by decide +kernel
theorem dX12_takeRow_162 : decode cX12_takeRow 162 = .ok (.iload_n 3, 1) := by decide +kernel
theorem dX12_takeRow_163 : decode cX12_takeRow 163 = .ok (.ifCond .ne 7, 3) := by decide +kernel
theorem dX12_takeRow_166 : decode cX12_takeRow 166 = .ok (.iconst 1, 1) := by decide +kernel
theorem dX12_takeRow_167 : decode cX12_takeRow 167 = .ok (.goto 4, 3) := by decide +kernel
theorem dX12_takeRow_170 : decode cX12_takeRow 170 = .ok (.iconst 0, 1) := by decide +kernel
theorem dX12_takeRow_171 : decode cX12_takeRow 171 = .ok (.istore 4, 2) := by decide +kernel
theorem dX12_takeRow_173 : decode cX12_takeRow 173 = .ok (.iconst 1, 1) := by decide +kernel
theorem dX12_takeRow_174 : decode cX12_takeRow 174 = .ok (.istore 5, 2) := by decide +kernel
theorem dX12_takeRow_176 : decode cX12_takeRow 176 = .ok (.goto (-125), 3) := by decide +kernel
theorem dX12_takeRow_179 : decode cX12_takeRow 179 = .ok (.iload_n 3, 1) := by decide +kernel
theorem dX12_takeRow_180 : decode cX12_takeRow 180 = .ok (.ifCond .le 5, 3) := by decide +kernel
theorem dX12_takeRow_183 : decode cX12_takeRow 183 = .ok (.iload_n 3, 1) := by decide +kernel
theorem dX12_takeRow_184 : decode cX12_takeRow 184 = .ok (.ireturn, 1) := by decide +kernel
theorem dX12_takeRow_185 : decode cX12_takeRow 185 = .ok (.aload_n 0, 1) := by decide +kernel
theorem dX12_takeRow_186 : decode cX12_takeRow 186 = .ok (.getfield 63, 3) := by decide +kernel
theorem dX12_takeRow_189 : decode cX12_takeRow 189 = .ok (.iload_n 1, 1) := by decide +kernel
theorem dX12_takeRow_190 : decode cX12_takeRow 190 = .ok (.aload_n 0, 1) := by decide +kernel
theorem dX12_takeRow_191 : decode cX12_takeRow 191 = .ok (.getfield 179, 3) := by decide +kernel
theorem dX12_takeRow_194 : decode cX12_takeRow 194 = .ok (.iastore, 1) := by decide +kernel
theorem dX12_takeRow_195 : decode cX12_takeRow 195 = .ok (.aload_n 0, 1) := by decide +kernel
theorem dX12_takeRow_196 : decode cX12_takeRow 196 = .ok (.bipush 8, 2) := by decide +kernel
theorem dX12_takeRow_198 : decode cX12_takeRow 198 = .ok (.iconst 0, 1) := by decide +kernel
theorem dX12_takeRow_199 : decode cX12_takeRow 199 = .ok (.iconst 0, 1) := by decide +kernel
theorem dX12_takeRow_200 : decode cX12_takeRow 200 = .ok (.iload_n 2, 1) := by decide +kernel
theorem dX12_takeRow_201 : decode cX12_takeRow 201 = .ok (.invokevirtual 208, 3) := by decide +kernel
theorem dX12_takeRow_204 : decode cX12_takeRow 204 = .ok (.aload_n 0, 1) := by decide +kernel
theorem dX12_takeRow_205 : decode cX12_takeRow 205 = .ok (.iconst 0, 1) := by decide +kernel
theorem dX12_takeRow_206 : decode cX12_takeRow 206 = .ok (.putfield 212, 3) := by decide +kernel
theorem dX12_takeRow_209 : decode cX12_takeRow 209 = .ok (.iconst 0, 1) := by decide +kernel
theorem dX12_takeRow_210 : decode cX12_takeRow 210 = .ok (.ireturn, 1) := by decide +kernel
theorem dX12_takeItem_0 : decode cX12_takeItem 0 = .ok (.aload_n 0, 1) := by decide +kernel
theorem dX12_takeItem_1 : decode cX12_takeItem 1 = .ok (.invokevirtual 162, 3) := by decide +kernel
theorem dX12_takeItem_4 : decode cX12_takeItem 4 = .ok (.istore_n 1, 1) := by decide +kernel
theorem dX12_takeItem_5 : decode cX12_takeItem 5 = .ok (.iload_n 1, 1) := by decide +kernel
theorem dX12_takeItem_6 : decode cX12_takeItem 6 = .ok (.bipush 123, 2) := by decide +kernel
theorem dX12_takeItem_8 : decode cX12_takeItem 8 = .ok (.if_icmp .eq 15, 3) := by decide +kernel
theorem dX12_takeItem_11 : decode cX12_takeItem 11 = .ok (.iload_n 1, 1) := by decide +kernel
theorem dX12_takeItem_12 : decode cX12_takeItem 12 = .ok (.bipush 91, 2) := by decide +kernel
theorem dX12_takeItem_14 : decode cX12_takeItem 14 = .ok (.if_icmp .eq 9, 3) := by decide +kernel
theorem dX12_takeItem_17 : decode cX12_takeItem 17 = .ok (.iload_n 1, 1) := by decide +kernel
theorem dX12_takeItem_18 : decode cX12_takeItem 18 = .ok (.bipush 60, 2) := by decide +kernel
theorem dX12_takeItem_20 : decode cX12_takeItem 20 = .ok (.if_icmp .ne 29, 3) := by decide +kernel
theorem dX12_takeItem_23 : decode cX12_takeItem 23 = .ok (.aload_n 0, 1) := by decide +kernel
theorem dX12_takeItem_24 : decode cX12_takeItem 24 = .ok (.iload_n 1, 1) := by decide +kernel
theorem dX12_takeItem_25 : decode cX12_takeItem 25 = .ok (.bipush 123, 2) := by decide +kernel
theorem dX12_takeItem_27 : decode cX12_takeItem 27 = .ok (.if_icmp .ne 7, 3) := by decide +kernel
theorem dX12_takeItem_30 : decode cX12_takeItem 30 = .ok (.iconst 1, 1) := by decide +kernel
theorem dX12_takeItem_31 : decode cX12_takeItem 31 = .ok (.goto 14, 3) := by decide +kernel
theorem dX12_takeItem_34 : decode cX12_takeItem 34 = .ok (.iload_n 1, 1) := by decide +kernel
theorem dX12_takeItem_35 : decode cX12_takeItem 35 = .ok (.bipush 91, 2) := by decide +kernel
theorem dX12_takeItem_37 : decode cX12_takeItem 37 = .ok (.if_icmp .ne 7, 3) := by decide +kernel
theorem dX12_takeItem_40 : decode cX12_takeItem 40 = .ok (.iconst 2, 1) := by decide +kernel
theorem dX12_takeItem_41 : decode cX12_takeItem 41 = .ok (.goto 4, 3) := by decide +kernel
theorem dX12_takeItem_44 : decode cX12_takeItem 44 = .ok (.iconst 3, 1) := by decide +kernel
theorem dX12_takeItem_45 : decode cX12_takeItem 45 = .ok (.invokevirtual 222, 3) := by decide +kernel
theorem dX12_takeItem_48 : decode cX12_takeItem 48 = .ok (.ireturn, 1) := by decide +kernel
theorem dX12_takeItem_49 : decode cX12_takeItem 49 = .ok (.iload_n 1, 1) := by decide +kernel
theorem dX12_takeItem_50 : decode cX12_takeItem 50 = .ok (.bipush 125, 2) := by decide +kernel
theorem dX12_takeItem_52 : decode cX12_takeItem 52 = .ok (.if_icmp .eq 15, 3) := by decide +kernel
theorem dX12_takeItem_55 : decode cX12_takeItem 55 = .ok (.iload_n 1, 1) := by decide +kernel
theorem dX12_takeItem_56 : decode cX12_takeItem 56 = .ok (.bipush 93, 2) := by decide +kernel
theorem dX12_takeItem_58 : decode cX12_takeItem 58 = .ok (.if_icmp .eq 9, 3) := by decide +kernel
theorem dX12_takeItem_61 : decode cX12_takeItem 61 = .ok (.iload_n 1, 1) := by decide +kernel
theorem dX12_takeItem_62 : decode cX12_takeItem 62 = .ok (.bipush 62, 2) := by decide +kernel
theorem dX12_takeItem_64 : decode cX12_takeItem 64 = .ok (.if_icmp .ne 29, 3) := by decide +kernel
theorem dX12_takeItem_67 : decode cX12_takeItem 67 = .ok (.aload_n 0, 1) := by decide +kernel
theorem dX12_takeItem_68 : decode cX12_takeItem 68 = .ok (.iload_n 1, 1) := by decide +kernel
theorem dX12_takeItem_69 : decode cX12_takeItem 69 = .ok (.bipush 125, 2) := by decide +kernel
theorem dX12_takeItem_71 : decode cX12_takeItem 71 = .ok (.if_icmp .ne 7, 3) := by decide +kernel
theorem dX12_takeItem_74 : decode cX12_takeItem 74 = .ok (.iconst 1, 1) := by decide +kernel
theorem dX12_takeItem_75 : decode cX12_takeItem 75 = .ok (.goto 14, 3) := by decide +kernel
theorem dX12_takeItem_78 : decode cX12_takeItem 78 = .ok (.iload_n 1, 1) := by decide +kernel
theorem dX12_takeItem_79 : decode cX12_takeItem 79 = .ok (.bipush 93, 2) := by decide +kernel
theorem dX12_takeItem_81 : decode cX12_takeItem 81 = .ok (.if_icmp .ne 7, 3) := by decide +kernel
theorem dX12_takeItem_84 : decode cX12_takeItem 84 = .ok (.iconst 2, 1) := by decide +kernel
theorem dX12_takeItem_85 : decode cX12_takeItem 85 = .ok (.goto 4, 3) := by decide +kernel
theorem dX12_takeItem_88 : decode cX12_takeItem 88 = .ok (.iconst 3, 1) := by decide +kernel
theorem dX12_takeItem_89 : decode cX12_takeItem 89 = .ok (.invokevirtual 225, 3) := by decide +kernel
theorem dX12_takeItem_92 : decode cX12_takeItem 92 = .ok (.ireturn, 1) := by decide +kernel
theorem dX12_takeItem_93 : decode cX12_takeItem 93 = .ok (.iload_n 1, 1) := by decide +kernel
theorem dX12_takeItem_94 : decode cX12_takeItem 94 = .ok (.bipush 42, 2) := by decide +kernel
theorem dX12_takeItem_96 : decode cX12_takeItem 96 = .ok (.if_icmp .ne 8, 3) := by decide +kernel
theorem dX12_takeItem_99 : decode cX12_takeItem 99 = .ok (.aload_n 0, 1) := by decide +kernel
theorem dX12_takeItem_100 : decode cX12_takeItem 100 = .ok (.invokevirtual 228, 3) := by decide +kernel
theorem dX12_takeItem_103 : decode cX12_takeItem 103 = .ok (.ireturn, 1) := by decide +kernel
theorem dX12_takeItem_104 : decode cX12_takeItem 104 = .ok (.iload_n 1, 1) := by decide +kernel
theorem dX12_takeItem_105 : decode cX12_takeItem 105 = .ok (.bipush 40, 2) := by decide +kernel
theorem dX12_takeItem_107 : decode cX12_takeItem 107 = .ok (.if_icmp .ne 8, 3) := by decide +kernel
theorem dX12_takeItem_110 : decode cX12_takeItem 110 = .ok (.aload_n 0, 1) := by decide +kernel
theorem dX12_takeItem_111 : decode cX12_takeItem 111 = .ok (.invokevirtual 231, 3) := by decide +kernel
theorem dX12_takeItem_114 : decode cX12_takeItem 114 = .ok (.ireturn, 1) := by decide +kernel
theorem dX12_takeItem_115 : decode cX12_takeItem 115 = .ok (.aload_n 0, 1) := by decide +kernel
theorem dX12_takeItem_116 : decode cX12_takeItem 116 = .ok (.invokevirtual 219, 3) := by decide +kernel
theorem dX12_takeItem_119 : decode cX12_takeItem 119 = .ok (.istore_n 2, 1) := by decide +kernel
theorem dX12_takeItem_120 : decode cX12_takeItem 120 = .ok (.aload_n 0, 1) := by decide +kernel
theorem dX12_takeItem_121 : decode cX12_takeItem 121 = .ok (.iconst 0, 1) := by decide +kernel
theorem dX12_takeItem_122 : decode cX12_takeItem 122 = .ok (.aload_n 0, 1) := by decide +kernel
theorem dX12_takeItem_123 : decode cX12_takeItem 123 = .ok (.getfield 176, 3) := by decide +kernel
theorem dX12_takeItem_126 : decode cX12_takeItem 126 = .ok (.iconst 0, 1) := by decide +kernel
theorem dX12_takeItem_127 : decode cX12_takeItem 127 = .ok (.aload_n 0, 1) := by decide +kernel
theorem dX12_takeItem_128 : decode cX12_takeItem 128 = .ok (.getfield 173, 3) := by decide +kernel
theorem dX12_takeItem_131 : decode cX12_takeItem 131 = .ok (.invokevirtual 208, 3) := by decide +kernel
theorem dX12_takeItem_134 : decode cX12_takeItem 134 = .ok (.aload_n 0, 1) := by decide +kernel
theorem dX12_takeItem_135 : decode cX12_takeItem 135 = .ok (.iconst 0, 1) := by decide +kernel
theorem dX12_takeItem_136 : decode cX12_takeItem 136 = .ok (.putfield 212, 3) := by decide +kernel
theorem dX12_takeItem_139 : decode cX12_takeItem 139 = .ok (.iload_n 2, 1) := by decide +kernel
theorem dX12_takeItem_140 : decode cX12_takeItem 140 = .ok (.ireturn, 1) := by decide +kernel
theorem dX12_checkMarks_0 : decode cX12_checkMarks 0 = .ok (.iconst 0, 1) := by decide +kernel
theorem dX12_checkMarks_1 : decode cX12_checkMarks 1 = .ok (.istore_n 1, 1) := by decide +kernel
theorem dX12_checkMarks_2 : decode cX12_checkMarks 2 = .ok (.iload_n 1, 1) := by decide +kernel
theorem dX12_checkMarks_3 : decode cX12_checkMarks 3 = .ok (.aload_n 0, 1) := by decide +kernel
theorem dX12_checkMarks_4 : decode cX12_checkMarks 4 = .ok (.getfield 179, 3) := by decide +kernel
theorem dX12_checkMarks_7 : decode cX12_checkMarks 7 = .ok (.if_icmp .ge 94, 3) := by decide +kernel
theorem dX12_checkMarks_10 : decode cX12_checkMarks 10 = .ok (.aload_n 0, 1) := by decide +kernel
theorem dX12_checkMarks_11 : decode cX12_checkMarks 11 = .ok (.getfield 54, 3) := by decide +kernel
theorem dX12_checkMarks_14 : decode cX12_checkMarks 14 = .ok (.iload_n 1, 1) := by decide +kernel
theorem dX12_checkMarks_15 : decode cX12_checkMarks 15 = .ok (.iaload, 1) := by decide +kernel
theorem dX12_checkMarks_16 : decode cX12_checkMarks 16 = .ok (.iconst 5, 1) := by decide +kernel
theorem dX12_checkMarks_17 : decode cX12_checkMarks 17 = .ok (.if_icmp .ne 23, 3) := by decide +kernel
theorem dX12_checkMarks_20 : decode cX12_checkMarks 20 = .ok (.aload_n 0, 1) := by decide +kernel
theorem dX12_checkMarks_21 : decode cX12_checkMarks 21 = .ok (.getfield 205, 3) := by decide +kernel
theorem dX12_checkMarks_24 : decode cX12_checkMarks 24 = .ok (.aload_n 0, 1) := by decide +kernel
theorem dX12_checkMarks_25 : decode cX12_checkMarks 25 = .ok (.getfield 57, 3) := by decide +kernel
theorem dX12_checkMarks_28 : decode cX12_checkMarks 28 = .ok (.iload_n 1, 1) := by decide +kernel
theorem dX12_checkMarks_29 : decode cX12_checkMarks 29 = .ok (.iaload, 1) := by decide +kernel
theorem dX12_checkMarks_30 : decode cX12_checkMarks 30 = .ok (.invokestatic 189, 3) := by decide +kernel
theorem dX12_checkMarks_33 : decode cX12_checkMarks 33 = .ok (.ifCond .ne 7, 3) := by decide +kernel
theorem dX12_checkMarks_36 : decode cX12_checkMarks 36 = .ok (.iconst 1, 1) := by decide +kernel
theorem dX12_checkMarks_37 : decode cX12_checkMarks 37 = .ok (.goto 4, 3) := by decide +kernel
theorem dX12_checkMarks_40 : decode cX12_checkMarks 40 = .ok (.iconst 0, 1) := by decide +kernel
theorem dX12_checkMarks_41 : decode cX12_checkMarks 41 = .ok (.istore_n 2, 1) := by decide +kernel
theorem dX12_checkMarks_42 : decode cX12_checkMarks 42 = .ok (.aload_n 0, 1) := by decide +kernel
theorem dX12_checkMarks_43 : decode cX12_checkMarks 43 = .ok (.getfield 54, 3) := by decide +kernel
theorem dX12_checkMarks_46 : decode cX12_checkMarks 46 = .ok (.iload_n 1, 1) := by decide +kernel
theorem dX12_checkMarks_47 : decode cX12_checkMarks 47 = .ok (.iaload, 1) := by decide +kernel
theorem dX12_checkMarks_48 : decode cX12_checkMarks 48 = .ok (.iconst 3, 1) := by decide +kernel
theorem dX12_checkMarks_49 : decode cX12_checkMarks 49 = .ok (.if_icmp .ne 23, 3) := by decide +kernel
theorem dX12_checkMarks_52 : decode cX12_checkMarks 52 = .ok (.aload_n 0, 1) := by decide +kernel
theorem dX12_checkMarks_53 : decode cX12_checkMarks 53 = .ok (.getfield 216, 3) := by decide +kernel
theorem dX12_checkMarks_56 : decode cX12_checkMarks 56 = .ok (.aload_n 0, 1) := by decide +kernel
theorem dX12_checkMarks_57 : decode cX12_checkMarks 57 = .ok (.getfield 57, 3) := by decide +kernel
theorem dX12_checkMarks_60 : decode cX12_checkMarks 60 = .ok (.iload_n 1, 1) := by decide +kernel
theorem dX12_checkMarks_61 : decode cX12_checkMarks 61 = .ok (.iaload, 1) := by decide +kernel
theorem dX12_checkMarks_62 : decode cX12_checkMarks 62 = .ok (.invokestatic 189, 3) := by decide +kernel
theorem dX12_checkMarks_65 : decode cX12_checkMarks 65 = .ok (.ifCond .ne 7, 3) := by decide +kernel
theorem dX12_checkMarks_68 : decode cX12_checkMarks 68 = .ok (.iconst 1, 1) := by decide +kernel
theorem dX12_checkMarks_69 : decode cX12_checkMarks 69 = .ok (.goto 4, 3) := by decide +kernel
theorem dX12_checkMarks_72 : decode cX12_checkMarks 72 = .ok (.iconst 0, 1) := by decide +kernel
theorem dX12_checkMarks_73 : decode cX12_checkMarks 73 = .ok (.istore_n 3, 1) := by decide +kernel
theorem dX12_checkMarks_74 : decode cX12_checkMarks 74 = .ok (.iload_n 2, 1) := by decide +kernel
theorem dX12_checkMarks_75 : decode cX12_checkMarks 75 = .ok (.ifCond .ne 7, 3) := by decide +kernel
theorem dX12_checkMarks_78 : decode cX12_checkMarks 78 = .ok (.iload_n 3, 1) := by decide +kernel
theorem dX12_checkMarks_79 : decode cX12_checkMarks 79 = .ok (.ifCond .eq 16, 3) := by decide +kernel
theorem dX12_checkMarks_82 : decode cX12_checkMarks 82 = .ok (.aload_n 0, 1) := by decide +kernel
theorem dX12_checkMarks_83 : decode cX12_checkMarks 83 = .ok (.bipush 6, 2) := by decide +kernel
theorem dX12_checkMarks_85 : decode cX12_checkMarks 85 = .ok (.aload_n 0, 1) := by decide +kernel
theorem dX12_checkMarks_86 : decode cX12_checkMarks 86 = .ok (.getfield 66, 3) := by decide +kernel
theorem dX12_checkMarks_89 : decode cX12_checkMarks 89 = .ok (.iload_n 1, 1) := by decide +kernel
theorem dX12_checkMarks_90 : decode cX12_checkMarks 90 = .ok (.iaload, 1) := by decide +kernel
theorem dX12_checkMarks_91 : decode cX12_checkMarks 91 = .ok (.invokevirtual 169, 3) := by decide +kernel
theorem dX12_checkMarks_94 : decode cX12_checkMarks 94 = .ok (.ireturn, 1) := by decide +kernel
theorem dX12_checkMarks_95 : decode cX12_checkMarks 95 = .ok (.iinc 1 1, 3) := by decide +kernel
theorem dX12_checkMarks_98 : decode cX12_checkMarks 98 = .ok (.goto (-96), 3) := by decide +kernel
theorem dX12_checkMarks_101 : decode cX12_checkMarks 101 = .ok (.aload_n 0, 1) := by decide +kernel
theorem dX12_checkMarks_102 : decode cX12_checkMarks 102 = .ok (.getfield 186, 3) := by decide +kernel
theorem dX12_checkMarks_105 : decode cX12_checkMarks 105 = .ok (.aload_n 0, 1) := by decide +kernel
theorem dX12_checkMarks_106 : decode cX12_checkMarks 106 = .ok (.getfield 186, 3) := by decide +kernel
theorem dX12_checkMarks_109 : decode cX12_checkMarks 109 = .ok (.iconst 1, 1) := by decide +kernel
theorem dX12_checkMarks_110 : decode cX12_checkMarks 110 = .ok (.iadd, 1) := by decide +kernel
theorem dX12_checkMarks_111 : decode cX12_checkMarks 111 = .ok (.iand, 1) := by decide +kernel
theorem dX12_checkMarks_112 : decode cX12_checkMarks 112 = .ok (.ifCond .eq 16, 3) := by decide +kernel
theorem dX12_checkMarks_115 : decode cX12_checkMarks 115 = .ok (.aload_n 0, 1) := by decide +kernel
theorem dX12_checkMarks_116 : decode cX12_checkMarks 116 = .ok (.bipush 7, 2) := by decide +kernel
theorem dX12_checkMarks_118 : decode cX12_checkMarks 118 = .ok (.aload_n 0, 1) := by decide +kernel
theorem dX12_checkMarks_119 : decode cX12_checkMarks 119 = .ok (.getfield 154, 3) := by decide +kernel
theorem dX12_checkMarks_122 : decode cX12_checkMarks 122 = .ok (.invokevirtual 169, 3) := by decide +kernel
theorem dX12_checkMarks_125 : decode cX12_checkMarks 125 = .ok (.goto 4, 3) := by decide +kernel
theorem dX12_checkMarks_128 : decode cX12_checkMarks 128 = .ok (.iconst 0, 1) := by decide +kernel
theorem dX12_checkMarks_129 : decode cX12_checkMarks 129 = .ok (.ireturn, 1) := by decide +kernel
theorem dX12_sheet_0 : decode cX12_sheet 0 = .ok (.aload_n 0, 1) := by decide +kernel
theorem dX12_sheet_1 : decode cX12_sheet 1 = .ok (.iconst (-1), 1) := by decide +kernel
theorem dX12_sheet_2 : decode cX12_sheet 2 = .ok (.putfield 50, 3) := by decide +kernel
theorem dX12_sheet_5 : decode cX12_sheet 5 = .ok (.aload_n 0, 1) := by decide +kernel
theorem dX12_sheet_6 : decode cX12_sheet 6 = .ok (.iconst 0, 1) := by decide +kernel
theorem dX12_sheet_7 : decode cX12_sheet 7 = .ok (.putfield 159, 3) := by decide +kernel
theorem dX12_sheet_10 : decode cX12_sheet 10 = .ok (.aload_n 0, 1) := by decide +kernel
theorem dX12_sheet_11 : decode cX12_sheet 11 = .ok (.iconst 0, 1) := by decide +kernel
theorem dX12_sheet_12 : decode cX12_sheet 12 = .ok (.putfield 179, 3) := by decide +kernel
theorem dX12_sheet_15 : decode cX12_sheet 15 = .ok (.aload_n 0, 1) := by decide +kernel
theorem dX12_sheet_16 : decode cX12_sheet 16 = .ok (.iconst 0, 1) := by decide +kernel
theorem dX12_sheet_17 : decode cX12_sheet 17 = .ok (.putfield 193, 3) := by decide +kernel
theorem dX12_sheet_20 : decode cX12_sheet 20 = .ok (.aload_n 0, 1) := by decide +kernel
theorem dX12_sheet_21 : decode cX12_sheet 21 = .ok (.iconst 0, 1) := by decide +kernel
theorem dX12_sheet_22 : decode cX12_sheet 22 = .ok (.putfield 186, 3) := by decide +kernel
theorem dX12_sheet_25 : decode cX12_sheet 25 = .ok (.aload_n 0, 1) := by decide +kernel
theorem dX12_sheet_26 : decode cX12_sheet 26 = .ok (.iconst 0, 1) := by decide +kernel
theorem dX12_sheet_27 : decode cX12_sheet 27 = .ok (.putfield 205, 3) := by decide +kernel
theorem dX12_sheet_30 : decode cX12_sheet 30 = .ok (.aload_n 0, 1) := by decide +kernel
theorem dX12_sheet_31 : decode cX12_sheet 31 = .ok (.iconst 0, 1) := by decide +kernel
theorem dX12_sheet_32 : decode cX12_sheet 32 = .ok (.putfield 216, 3) := by decide +kernel
theorem dX12_sheet_35 : decode cX12_sheet 35 = .ok (.aload_n 0, 1) := by decide +kernel
theorem dX12_sheet_36 : decode cX12_sheet 36 = .ok (.iconst 0, 1) := by decide +kernel
theorem dX12_sheet_37 : decode cX12_sheet 37 = .ok (.putfield 196, 3) := by decide +kernel
theorem dX12_sheet_40 : decode cX12_sheet 40 = .ok (.aload_n 0, 1) := by decide +kernel
theorem dX12_sheet_41 : decode cX12_sheet 41 = .ok (.iconst 0, 1) := by decide +kernel
theorem dX12_sheet_42 : decode cX12_sheet 42 = .ok (.putfield 202, 3) := by decide +kernel
theorem dX12_sheet_45 : decode cX12_sheet 45 = .ok (.aload_n 0, 1) := by decide +kernel
theorem dX12_sheet_46 : decode cX12_sheet 46 = .ok (.iconst 0, 1) := by decide +kernel
theorem dX12_sheet_47 : decode cX12_sheet 47 = .ok (.putfield 212, 3) := by decide +kernel
theorem dX12_sheet_50 : decode cX12_sheet 50 = .ok (.iconst 0, 1) := by decide +kernel
theorem dX12_sheet_51 : decode cX12_sheet 51 = .ok (.istore_n 1, 1) := by decide +kernel
theorem dX12_sheet_52 : decode cX12_sheet 52 = .ok (.iload_n 1, 1) := by decide +kernel
theorem dX12_sheet_53 : decode cX12_sheet 53 = .ok (.ifCond .ne 18, 3) := by decide +kernel
theorem dX12_sheet_56 : decode cX12_sheet 56 = .ok (.aload_n 0, 1) := by decide +kernel
theorem dX12_sheet_57 : decode cX12_sheet 57 = .ok (.invokevirtual 162, 3) := by decide +kernel
theorem dX12_sheet_60 : decode cX12_sheet 60 = .ok (.ifCond .lt 11, 3) := by decide +kernel
theorem dX12_sheet_63 : decode cX12_sheet 63 = .ok (.aload_n 0, 1) := by decide +kernel
theorem dX12_sheet_64 : decode cX12_sheet 64 = .ok (.invokevirtual 234, 3) := by decide +kernel
theorem dX12_sheet_67 : decode cX12_sheet 67 = .ok (.istore_n 1, 1) := by decide +kernel
theorem dX12_sheet_68 : decode cX12_sheet 68 = .ok (.goto (-16), 3) := by decide +kernel
theorem dX12_sheet_71 : decode cX12_sheet 71 = .ok (.iload_n 1, 1) := by decide +kernel
theorem dX12_sheet_72 : decode cX12_sheet 72 = .ok (.ifCond .ne 22, 3) := by decide +kernel
theorem dX12_sheet_75 : decode cX12_sheet 75 = .ok (.aload_n 0, 1) := by decide +kernel
theorem dX12_sheet_76 : decode cX12_sheet 76 = .ok (.getfield 196, 3) := by decide +kernel
theorem dX12_sheet_79 : decode cX12_sheet 79 = .ok (.ifCond .le 15, 3) := by decide +kernel
theorem dX12_sheet_82 : decode cX12_sheet 82 = .ok (.aload_n 0, 1) := by decide +kernel
theorem dX12_sheet_83 : decode cX12_sheet 83 = .ok (.iconst 1, 1) := by decide +kernel
theorem dX12_sheet_84 : decode cX12_sheet 84 = .ok (.aload_n 0, 1) := by decide +kernel
theorem dX12_sheet_85 : decode cX12_sheet 85 = .ok (.getfield 154, 3) := by decide +kernel
theorem dX12_sheet_88 : decode cX12_sheet 88 = .ok (.invokevirtual 169, 3) := by decide +kernel
theorem dX12_sheet_91 : decode cX12_sheet 91 = .ok (.goto 4, 3) := by decide +kernel
theorem dX12_sheet_94 : decode cX12_sheet 94 = .ok (.iload_n 1, 1) := by decide +kernel
theorem dX12_sheet_95 : decode cX12_sheet 95 = .ok (.istore_n 1, 1) := by decide +kernel
theorem dX12_sheet_96 : decode cX12_sheet 96 = .ok (.iload_n 1, 1) := by decide +kernel
theorem dX12_sheet_97 : decode cX12_sheet 97 = .ok (.ifCond .le 7, 3) := by decide +kernel
theorem dX12_sheet_100 : decode cX12_sheet 100 = .ok (.iload_n 1, 1) := by decide +kernel
theorem dX12_sheet_101 : decode cX12_sheet 101 = .ok (.goto 7, 3) := by decide +kernel
theorem dX12_sheet_104 : decode cX12_sheet 104 = .ok (.aload_n 0, 1) := by decide +kernel
theorem dX12_sheet_105 : decode cX12_sheet 105 = .ok (.invokevirtual 237, 3) := by decide +kernel
theorem dX12_sheet_108 : decode cX12_sheet 108 = .ok (.istore_n 1, 1) := by decide +kernel
theorem dX12_sheet_109 : decode cX12_sheet 109 = .ok (.aload_n 0, 1) := by decide +kernel
theorem dX12_sheet_110 : decode cX12_sheet 110 = .ok (.iconst 0, 1) := by decide +kernel
theorem dX12_sheet_111 : decode cX12_sheet 111 = .ok (.putfield 154, 3) := by decide +kernel
theorem dX12_sheet_114 : decode cX12_sheet 114 = .ok (.iload_n 1, 1) := by decide +kernel
theorem dX12_sheet_115 : decode cX12_sheet 115 = .ok (.ifCond .le 8, 3) := by decide +kernel
theorem dX12_sheet_118 : decode cX12_sheet 118 = .ok (.bipush (-10), 2) := by decide +kernel
theorem dX12_sheet_120 : decode cX12_sheet 120 = .ok (.iload_n 1, 1) := by decide +kernel
theorem dX12_sheet_121 : decode cX12_sheet 121 = .ok (.isub, 1) := by decide +kernel
theorem dX12_sheet_122 : decode cX12_sheet 122 = .ok (.ireturn, 1) := by decide +kernel
theorem dX12_sheet_123 : decode cX12_sheet 123 = .ok (.aload_n 0, 1) := by decide +kernel
theorem dX12_sheet_124 : decode cX12_sheet 124 = .ok (.invokevirtual 240, 3) := by decide +kernel
theorem dX12_sheet_127 : decode cX12_sheet 127 = .ok (.aload_n 0, 1) := by decide +kernel
theorem dX12_sheet_128 : decode cX12_sheet 128 = .ok (.getfield 141, 3) := by decide +kernel
theorem dX12_sheet_131 : decode cX12_sheet 131 = .ok (.ireturn, 1) := by decide +kernel
theorem dX12_keepSheet_0 : decode cX12_keepSheet 0 = .ok (.aload_n 0, 1) := by decide +kernel
theorem dX12_keepSheet_1 : decode cX12_keepSheet 1 = .ok (.aload_n 0, 1) := by decide +kernel
theorem dX12_keepSheet_2 : decode cX12_keepSheet 2 = .ok (.getfield 179, 3) := by decide +kernel
theorem dX12_keepSheet_5 : decode cX12_keepSheet 5 = .ok (.putfield 243, 3) := by decide +kernel
theorem dX12_keepSheet_8 : decode cX12_keepSheet 8 = .ok (.aload_n 0, 1) := by decide +kernel
theorem dX12_keepSheet_9 : decode cX12_keepSheet 9 = .ok (.aload_n 0, 1) := by decide +kernel
theorem dX12_keepSheet_10 : decode cX12_keepSheet 10 = .ok (.getfield 193, 3) := by decide +kernel
theorem dX12_keepSheet_13 : decode cX12_keepSheet 13 = .ok (.putfield 246, 3) := by decide +kernel
theorem dX12_keepSheet_16 : decode cX12_keepSheet 16 = .ok (.aload_n 0, 1) := by decide +kernel
theorem dX12_keepSheet_17 : decode cX12_keepSheet 17 = .ok (.iconst 0, 1) := by decide +kernel
theorem dX12_keepSheet_18 : decode cX12_keepSheet 18 = .ok (.putfield 141, 3) := by decide +kernel
theorem dX12_keepSheet_21 : decode cX12_keepSheet 21 = .ok (.iconst 0, 1) := by decide +kernel
theorem dX12_keepSheet_22 : decode cX12_keepSheet 22 = .ok (.istore_n 1, 1) := by decide +kernel
theorem dX12_keepSheet_23 : decode cX12_keepSheet 23 = .ok (.iload_n 1, 1) := by decide +kernel
theorem dX12_keepSheet_24 : decode cX12_keepSheet 24 = .ok (.aload_n 0, 1) := by decide +kernel
theorem dX12_keepSheet_25 : decode cX12_keepSheet 25 = .ok (.getfield 243, 3) := by decide +kernel
theorem dX12_keepSheet_28 : decode cX12_keepSheet 28 = .ok (.if_icmp .ge 57, 3) := by decide +kernel
theorem dX12_keepSheet_31 : decode cX12_keepSheet 31 = .ok (.aload_n 0, 1) := by decide +kernel
theorem dX12_keepSheet_32 : decode cX12_keepSheet 32 = .ok (.getfield 7, 3) := by decide +kernel
theorem dX12_keepSheet_35 : decode cX12_keepSheet 35 = .ok (.iload_n 1, 1) := by decide +kernel
theorem dX12_keepSheet_36 : decode cX12_keepSheet 36 = .ok (.aload_n 0, 1) := by decide +kernel
theorem dX12_keepSheet_37 : decode cX12_keepSheet 37 = .ok (.getfield 54, 3) := by decide +kernel
theorem dX12_keepSheet_40 : decode cX12_keepSheet 40 = .ok (.iload_n 1, 1) := by decide +kernel
theorem dX12_keepSheet_41 : decode cX12_keepSheet 41 = .ok (.iaload, 1) := by decide +kernel
theorem dX12_keepSheet_42 : decode cX12_keepSheet 42 = .ok (.iastore, 1) := by decide +kernel
theorem dX12_keepSheet_43 : decode cX12_keepSheet 43 = .ok (.aload_n 0, 1) := by decide +kernel
theorem dX12_keepSheet_44 : decode cX12_keepSheet 44 = .ok (.getfield 13, 3) := by decide +kernel
theorem dX12_keepSheet_47 : decode cX12_keepSheet 47 = .ok (.iload_n 1, 1) := by decide +kernel
theorem dX12_keepSheet_48 : decode cX12_keepSheet 48 = .ok (.aload_n 0, 1) := by decide +kernel
theorem dX12_keepSheet_49 : decode cX12_keepSheet 49 = .ok (.getfield 57, 3) := by decide +kernel
theorem dX12_keepSheet_52 : decode cX12_keepSheet 52 = .ok (.iload_n 1, 1) := by decide +kernel
theorem dX12_keepSheet_53 : decode cX12_keepSheet 53 = .ok (.iaload, 1) := by decide +kernel
theorem dX12_keepSheet_54 : decode cX12_keepSheet 54 = .ok (.iastore, 1) := by decide +kernel
theorem dX12_keepSheet_55 : decode cX12_keepSheet 55 = .ok (.aload_n 0, 1) := by decide +kernel
theorem dX12_keepSheet_56 : decode cX12_keepSheet 56 = .ok (.getfield 16, 3) := by decide +kernel
theorem dX12_keepSheet_59 : decode cX12_keepSheet 59 = .ok (.iload_n 1, 1) := by decide +kernel
theorem dX12_keepSheet_60 : decode cX12_keepSheet 60 = .ok (.aload_n 0, 1) := by decide +kernel
theorem dX12_keepSheet_61 : decode cX12_keepSheet 61 = .ok (.getfield 60, 3) := by decide +kernel
theorem dX12_keepSheet_64 : decode cX12_keepSheet 64 = .ok (.iload_n 1, 1) := by decide +kernel
theorem dX12_keepSheet_65 : decode cX12_keepSheet 65 = .ok (.iaload, 1) := by decide +kernel
theorem dX12_keepSheet_66 : decode cX12_keepSheet 66 = .ok (.iastore, 1) := by decide +kernel
theorem dX12_keepSheet_67 : decode cX12_keepSheet 67 = .ok (.aload_n 0, 1) := by decide +kernel
theorem dX12_keepSheet_68 : decode cX12_keepSheet 68 = .ok (.getfield 19, 3) := by decide +kernel
theorem dX12_keepSheet_71 : decode cX12_keepSheet 71 = .ok (.iload_n 1, 1) := by decide +kernel
theorem dX12_keepSheet_72 : decode cX12_keepSheet 72 = .ok (.aload_n 0, 1) := by decide +kernel
theorem dX12_keepSheet_73 : decode cX12_keepSheet 73 = .ok (.getfield 63, 3) := by decide +kernel
theorem dX12_keepSheet_76 : decode cX12_keepSheet 76 = .ok (.iload_n 1, 1) := by decide +kernel
theorem dX12_keepSheet_77 : decode cX12_keepSheet 77 = .ok (.iaload, 1) := by decide +kernel
theorem dX12_keepSheet_78 : decode cX12_keepSheet 78 = .ok (.iastore, 1) := by decide +kernel
theorem dX12_keepSheet_79 : decode cX12_keepSheet 79 = .ok (.iinc 1 1, 3) := by decide +kernel
theorem dX12_keepSheet_82 : decode cX12_keepSheet 82 = .ok (.goto (-59), 3) := by decide +kernel
theorem dX12_keepSheet_85 : decode cX12_keepSheet 85 = .ok (.aload_n 0, 1) := by decide +kernel
theorem dX12_keepSheet_86 : decode cX12_keepSheet 86 = .ok (.getfield 186, 3) := by decide +kernel
theorem dX12_keepSheet_89 : decode cX12_keepSheet 89 = .ok (.aload_n 0, 1) := by decide +kernel
theorem dX12_keepSheet_90 : decode cX12_keepSheet 90 = .ok (.getfield 141, 3) := by decide +kernel
theorem dX12_keepSheet_93 : decode cX12_keepSheet 93 = .ok (.invokestatic 189, 3) := by decide +kernel
theorem dX12_keepSheet_96 : decode cX12_keepSheet 96 = .ok (.ifCond .eq 36, 3) := by decide +kernel
theorem dX12_keepSheet_99 : decode cX12_keepSheet 99 = .ok (.aload_n 0, 1) := by decide +kernel
theorem dX12_keepSheet_100 : decode cX12_keepSheet 100 = .ok (.getfield 25, 3) := by decide +kernel
theorem dX12_keepSheet_103 : decode cX12_keepSheet 103 = .ok (.aload_n 0, 1) := by decide +kernel
theorem dX12_keepSheet_104 : decode cX12_keepSheet 104 = .ok (.getfield 141, 3) := by decide +kernel
theorem dX12_keepSheet_107 : decode cX12_keepSheet 107 = .ok (.iconst 0, 1) := by decide +kernel
theorem dX12_keepSheet_108 : decode cX12_keepSheet 108 = .ok (.iastore, 1) := by decide +kernel
theorem dX12_keepSheet_109 : decode cX12_keepSheet 109 = .ok (.aload_n 0, 1) := by decide +kernel
theorem dX12_keepSheet_110 : decode cX12_keepSheet 110 = .ok (.getfield 28, 3) := by decide +kernel
theorem dX12_keepSheet_113 : decode cX12_keepSheet 113 = .ok (.aload_n 0, 1) := by decide +kernel
theorem dX12_keepSheet_114 : decode cX12_keepSheet 114 = .ok (.getfield 141, 3) := by decide +kernel
theorem dX12_keepSheet_117 : decode cX12_keepSheet 117 = .ok (.iconst 0, 1) := by decide +kernel
theorem dX12_keepSheet_118 : decode cX12_keepSheet 118 = .ok (.iastore, 1) := by decide +kernel
theorem dX12_keepSheet_119 : decode cX12_keepSheet 119 = .ok (.aload_n 0, 1) := by decide +kernel
theorem dX12_keepSheet_120 : decode cX12_keepSheet 120 = .ok (.dup, 1) := by decide +kernel
theorem dX12_keepSheet_121 : decode cX12_keepSheet 121 = .ok (.getfield 141, 3) := by decide +kernel
theorem dX12_keepSheet_124 : decode cX12_keepSheet 124 = .ok (.iconst 1, 1) := by decide +kernel
theorem dX12_keepSheet_125 : decode cX12_keepSheet 125 = .ok (.iadd, 1) := by decide +kernel
theorem dX12_keepSheet_126 : decode cX12_keepSheet 126 = .ok (.putfield 141, 3) := by decide +kernel
theorem dX12_keepSheet_129 : decode cX12_keepSheet 129 = .ok (.goto (-44), 3) := by decide +kernel
theorem dX12_keepSheet_132 : decode cX12_keepSheet 132 = .ok (.iconst 0, 1) := by decide +kernel
theorem dX12_keepSheet_133 : decode cX12_keepSheet 133 = .ok (.istore_n 1, 1) := by decide +kernel
theorem dX12_keepSheet_134 : decode cX12_keepSheet 134 = .ok (.iload_n 1, 1) := by decide +kernel
theorem dX12_keepSheet_135 : decode cX12_keepSheet 135 = .ok (.bipush 16, 2) := by decide +kernel
theorem dX12_keepSheet_137 : decode cX12_keepSheet 137 = .ok (.if_icmp .ge 16, 3) := by decide +kernel
theorem dX12_keepSheet_140 : decode cX12_keepSheet 140 = .ok (.aload_n 0, 1) := by decide +kernel
theorem dX12_keepSheet_141 : decode cX12_keepSheet 141 = .ok (.getfield 43, 3) := by decide +kernel
theorem dX12_keepSheet_144 : decode cX12_keepSheet 144 = .ok (.iload_n 1, 1) := by decide +kernel
theorem dX12_keepSheet_145 : decode cX12_keepSheet 145 = .ok (.iconst 0, 1) := by decide +kernel
theorem dX12_keepSheet_146 : decode cX12_keepSheet 146 = .ok (.bastore, 1) := by decide +kernel
theorem dX12_keepSheet_147 : decode cX12_keepSheet 147 = .ok (.iinc 1 1, 3) := by decide +kernel
theorem dX12_keepSheet_150 : decode cX12_keepSheet 150 = .ok (.goto (-16), 3) := by decide +kernel
theorem dX12_keepSheet_153 : decode cX12_keepSheet 153 = .ok (.aload_n 0, 1) := by decide +kernel
theorem dX12_keepSheet_154 : decode cX12_keepSheet 154 = .ok (.invokevirtual 249, 3) := by decide +kernel
theorem dX12_keepSheet_157 : decode cX12_keepSheet 157 = .ok (.aload_n 0, 1) := by decide +kernel
theorem dX12_keepSheet_158 : decode cX12_keepSheet 158 = .ok (.invokevirtual 137, 3) := by decide +kernel
theorem dX12_keepSheet_161 : decode cX12_keepSheet 161 = .ok (.pop, 1) := by decide +kernel
theorem dX12_keepSheet_162 : decode cX12_keepSheet 162 = .ok (.aload_n 0, 1) := by decide +kernel
theorem dX12_keepSheet_163 : decode cX12_keepSheet 163 = .ok (.iconst 0, 1) := by decide +kernel
theorem dX12_keepSheet_164 : decode cX12_keepSheet 164 = .ok (.putfield 252, 3) := by decide +kernel
theorem dX12_keepSheet_167 : decode cX12_keepSheet 167 = .ok (.return_, 1) := by decide +kernel
theorem dX12_setMark_0 : decode cX12_setMark 0 = .ok (.aload_n 0, 1) := by decide +kernel
theorem dX12_setMark_1 : decode cX12_setMark 1 = .ok (.getfield 22, 3) := by decide +kernel
theorem dX12_setMark_4 : decode cX12_setMark 4 = .ok (.iload_n 1, 1) := by decide +kernel
theorem dX12_setMark_5 : decode cX12_setMark 5 = .ok (.iload_n 2, 1) := by decide +kernel
theorem dX12_setMark_6 : decode cX12_setMark 6 = .ok (.iastore, 1) := by decide +kernel
theorem dX12_setMark_7 : decode cX12_setMark 7 = .ok (.aload_n 0, 1) := by decide +kernel
theorem dX12_setMark_8 : decode cX12_setMark 8 = .ok (.getfield 28, 3) := by decide +kernel
theorem dX12_setMark_11 : decode cX12_setMark 11 = .ok (.iload_n 1, 1) := by decide +kernel
theorem dX12_setMark_12 : decode cX12_setMark 12 = .ok (.dup2, 1) := by decide +kernel
theorem dX12_setMark_13 : decode cX12_setMark 13 = .ok (.iaload, 1) := by decide +kernel
theorem dX12_setMark_14 : decode cX12_setMark 14 = .ok (.iload_n 3, 1) := by decide +kernel
theorem dX12_setMark_15 : decode cX12_setMark 15 = .ok (.ior, 1) := by decide +kernel
theorem dX12_setMark_16 : decode cX12_setMark 16 = .ok (.iastore, 1) := by decide +kernel
theorem dX12_setMark_17 : decode cX12_setMark 17 = .ok (.aload_n 0, 1) := by decide +kernel
theorem dX12_setMark_18 : decode cX12_setMark 18 = .ok (.getfield 37, 3) := by decide +kernel
theorem dX12_setMark_21 : decode cX12_setMark 21 = .ok (.iload_n 1, 1) := by decide +kernel
theorem dX12_setMark_22 : decode cX12_setMark 22 = .ok (.iload 4, 2) := by decide +kernel
theorem dX12_setMark_24 : decode cX12_setMark 24 = .ok (.iastore, 1) := by decide +kernel
theorem dX12_setMark_25 : decode cX12_setMark 25 = .ok (.return_, 1) := by decide +kernel
theorem dX12_findMarks_0 : decode cX12_findMarks 0 = .ok (.iconst 0, 1) := by decide +kernel
theorem dX12_findMarks_1 : decode cX12_findMarks 1 = .ok (.istore_n 1, 1) := by decide +kernel
theorem dX12_findMarks_2 : decode cX12_findMarks 2 = .ok (.iconst 0, 1) := by decide +kernel
theorem dX12_findMarks_3 : decode cX12_findMarks 3 = .ok (.istore_n 2, 1) := by decide +kernel
theorem dX12_findMarks_4 : decode cX12_findMarks 4 = .ok (.iconst (-1), 1) := by decide +kernel
theorem dX12_findMarks_5 : decode cX12_findMarks 5 = .ok (.istore_n 3, 1) := by decide +kernel
theorem dX12_findMarks_6 : decode cX12_findMarks 6 = .ok (.iconst 0, 1) := by decide +kernel
theorem dX12_findMarks_7 : decode cX12_findMarks 7 = .ok (.istore 4, 2) := by decide +kernel
theorem dX12_findMarks_9 : decode cX12_findMarks 9 = .ok (.iload 4, 2) := by decide +kernel
theorem dX12_findMarks_11 : decode cX12_findMarks 11 = .ok (.aload_n 0, 1) := by decide +kernel
theorem dX12_findMarks_12 : decode cX12_findMarks 12 = .ok (.getfield 243, 3) := by decide +kernel
theorem dX12_findMarks_15 : decode cX12_findMarks 15 = .ok (.if_icmp .ge 322, 3) := by decide +kernel
theorem dX12_findMarks_18 : decode cX12_findMarks 18 = .ok (.aload_n 0, 1) := by decide +kernel
theorem dX12_findMarks_19 : decode cX12_findMarks 19 = .ok (.getfield 7, 3) := by decide +kernel
theorem dX12_findMarks_22 : decode cX12_findMarks 22 = .ok (.iload 4, 2) := by decide +kernel
theorem dX12_findMarks_24 : decode cX12_findMarks 24 = .ok (.iaload, 1) := by decide +kernel
theorem dX12_findMarks_25 : decode cX12_findMarks 25 = .ok (.istore 5, 2) := by decide +kernel
theorem dX12_findMarks_27 : decode cX12_findMarks 27 = .ok (.iload 5, 2) := by decide +kernel
theorem dX12_findMarks_29 : decode cX12_findMarks 29 = .ok (.iconst 1, 1) := by decide +kernel
theorem dX12_findMarks_30 : decode cX12_findMarks 30 = .ok (.if_icmp .eq 15, 3) := by decide +kernel
theorem dX12_findMarks_33 : decode cX12_findMarks 33 = .ok (.iload 5, 2) := by decide +kernel
theorem dX12_findMarks_35 : decode cX12_findMarks 35 = .ok (.iconst 2, 1) := by decide +kernel
theorem dX12_findMarks_36 : decode cX12_findMarks 36 = .ok (.if_icmp .eq 9, 3) := by decide +kernel
theorem dX12_findMarks_39 : decode cX12_findMarks 39 = .ok (.iload 5, 2) := by decide +kernel
theorem dX12_findMarks_41 : decode cX12_findMarks 41 = .ok (.iconst 3, 1) := by decide +kernel
theorem dX12_findMarks_42 : decode cX12_findMarks 42 = .ok (.if_icmp .ne 161, 3) := by decide +kernel
theorem dX12_findMarks_45 : decode cX12_findMarks 45 = .ok (.aload_n 0, 1) := by decide +kernel
theorem dX12_findMarks_46 : decode cX12_findMarks 46 = .ok (.aload_n 0, 1) := by decide +kernel
theorem dX12_findMarks_47 : decode cX12_findMarks 47 = .ok (.getfield 13, 3) := by decide +kernel
theorem dX12_findMarks_50 : decode cX12_findMarks 50 = .ok (.iload 4, 2) := by decide +kernel
theorem dX12_findMarks_52 : decode cX12_findMarks 52 = .ok (.iaload, 1) := by decide +kernel
theorem dX12_findMarks_53 : decode cX12_findMarks 53 = .ok (.iload 5, 2) := by decide +kernel
theorem dX12_findMarks_55 : decode cX12_findMarks 55 = .ok (.iconst 1, 1) := by decide +kernel
theorem dX12_findMarks_56 : decode cX12_findMarks 56 = .ok (.if_icmp .ne 7, 3) := by decide +kernel
theorem dX12_findMarks_59 : decode cX12_findMarks 59 = .ok (.iconst 0, 1) := by decide +kernel
theorem dX12_findMarks_60 : decode cX12_findMarks 60 = .ok (.goto 14, 3) := by decide +kernel
theorem dX12_findMarks_63 : decode cX12_findMarks 63 = .ok (.iload 5, 2) := by decide +kernel
theorem dX12_findMarks_65 : decode cX12_findMarks 65 = .ok (.iconst 2, 1) := by decide +kernel
theorem dX12_findMarks_66 : decode cX12_findMarks 66 = .ok (.if_icmp .ne 7, 3) := by decide +kernel
theorem dX12_findMarks_69 : decode cX12_findMarks 69 = .ok (.iconst 1, 1) := by decide +kernel
theorem dX12_findMarks_70 : decode cX12_findMarks 70 = .ok (.goto 4, 3) := by decide +kernel
theorem dX12_findMarks_73 : decode cX12_findMarks 73 = .ok (.iconst 3, 1) := by decide +kernel
theorem dX12_findMarks_74 : decode cX12_findMarks 74 = .ok (.iload_n 1, 1) := by decide +kernel
theorem dX12_findMarks_75 : decode cX12_findMarks 75 = .ok (.iload_n 2, 1) := by decide +kernel
theorem dX12_findMarks_76 : decode cX12_findMarks 76 = .ok (.invokevirtual 255, 3) := by decide +kernel
theorem dX12_findMarks_79 : decode cX12_findMarks 79 = .ok (.aload_n 0, 1) := by decide +kernel
theorem dX12_findMarks_80 : decode cX12_findMarks 80 = .ok (.getfield 40, 3) := by decide +kernel
theorem dX12_findMarks_83 : decode cX12_findMarks 83 = .ok (.aload_n 0, 1) := by decide +kernel
theorem dX12_findMarks_84 : decode cX12_findMarks 84 = .ok (.getfield 13, 3) := by decide +kernel
theorem dX12_findMarks_87 : decode cX12_findMarks 87 = .ok (.iload 4, 2) := by decide +kernel
theorem dX12_findMarks_89 : decode cX12_findMarks 89 = .ok (.iaload, 1) := by decide +kernel
theorem dX12_findMarks_90 : decode cX12_findMarks 90 = .ok (.iload 4, 2) := by decide +kernel
theorem dX12_findMarks_92 : decode cX12_findMarks 92 = .ok (.iastore, 1) := by decide +kernel
theorem dX12_findMarks_93 : decode cX12_findMarks 93 = .ok (.aload_n 0, 1) := by decide +kernel
theorem dX12_findMarks_94 : decode cX12_findMarks 94 = .ok (.getfield 34, 3) := by decide +kernel
theorem dX12_findMarks_97 : decode cX12_findMarks 97 = .ok (.aload_n 0, 1) := by decide +kernel
theorem dX12_findMarks_98 : decode cX12_findMarks 98 = .ok (.getfield 13, 3) := by decide +kernel
theorem dX12_findMarks_101 : decode cX12_findMarks 101 = .ok (.iload 4, 2) := by decide +kernel
theorem dX12_findMarks_103 : decode cX12_findMarks 103 = .ok (.iaload, 1) := by decide +kernel
theorem dX12_findMarks_104 : decode cX12_findMarks 104 = .ok (.aload_n 0, 1) := by decide +kernel
theorem dX12_findMarks_105 : decode cX12_findMarks 105 = .ok (.iload 4, 2) := by decide +kernel
theorem dX12_findMarks_107 : decode cX12_findMarks 107 = .ok (.iconst 1, 1) := by decide +kernel
theorem dX12_findMarks_108 : decode cX12_findMarks 108 = .ok (.iadd, 1) := by decide +kernel
theorem dX12_findMarks_109 : decode cX12_findMarks 109 = .ok (.aload_n 0, 1) := by decide +kernel
theorem dX12_findMarks_110 : decode cX12_findMarks 110 = .ok (.getfield 19, 3) := by decide +kernel
theorem dX12_findMarks_113 : decode cX12_findMarks 113 = .ok (.iload 4, 2) := by decide +kernel
theorem dX12_findMarks_115 : decode cX12_findMarks 115 = .ok (.iaload, 1) := by decide +kernel
theorem dX12_findMarks_116 : decode cX12_findMarks 116 = .ok (.invokevirtual 258, 3) := by decide +kernel
theorem dX12_findMarks_119 : decode cX12_findMarks 119 = .ok (.iastore, 1) := by decide +kernel
theorem dX12_findMarks_120 : decode cX12_findMarks 120 = .ok (.aload_n 0, 1) := by decide +kernel
theorem dX12_findMarks_121 : decode cX12_findMarks 121 = .ok (.getfield 16, 3) := by decide +kernel
theorem dX12_findMarks_124 : decode cX12_findMarks 124 = .ok (.iload 4, 2) := by decide +kernel
theorem dX12_findMarks_126 : decode cX12_findMarks 126 = .ok (.iaload, 1) := by decide +kernel
theorem dX12_findMarks_127 : decode cX12_findMarks 127 = .ok (.ifCond .lt 51, 3) := by decide +kernel
theorem dX12_findMarks_130 : decode cX12_findMarks 130 = .ok (.aload_n 0, 1) := by decide +kernel
theorem dX12_findMarks_131 : decode cX12_findMarks 131 = .ok (.aload_n 0, 1) := by decide +kernel
theorem dX12_findMarks_132 : decode cX12_findMarks 132 = .ok (.getfield 16, 3) := by decide +kernel
theorem dX12_findMarks_135 : decode cX12_findMarks 135 = .ok (.iload 4, 2) := by decide +kernel
theorem dX12_findMarks_137 : decode cX12_findMarks 137 = .ok (.iaload, 1) := by decide +kernel
theorem dX12_findMarks_138 : decode cX12_findMarks 138 = .ok (.iconst 2, 1) := by decide +kernel
theorem dX12_findMarks_139 : decode cX12_findMarks 139 = .ok (.iload_n 1, 1) := by decide +kernel
theorem dX12_findMarks_140 : decode cX12_findMarks 140 = .ok (.iconst 1, 1) := by decide +kernel
theorem dX12_findMarks_141 : decode cX12_findMarks 141 = .ok (.aload_n 0, 1) := by decide +kernel
theorem dX12_findMarks_142 : decode cX12_findMarks 142 = .ok (.getfield 13, 3) := by decide +kernel
theorem dX12_findMarks_145 : decode cX12_findMarks 145 = .ok (.iload 4, 2) := by decide +kernel
theorem dX12_findMarks_147 : decode cX12_findMarks 147 = .ok (.iaload, 1) := by decide +kernel
theorem dX12_findMarks_148 : decode cX12_findMarks 148 = .ok (.ishl, 1) := by decide +kernel
theorem dX12_findMarks_149 : decode cX12_findMarks 149 = .ok (.ior, 1) := by decide +kernel
theorem dX12_findMarks_150 : decode cX12_findMarks 150 = .ok (.iload_n 2, 1) := by decide +kernel
theorem dX12_findMarks_151 : decode cX12_findMarks 151 = .ok (.invokevirtual 255, 3) := by decide +kernel
theorem dX12_findMarks_154 : decode cX12_findMarks 154 = .ok (.aload_n 0, 1) := by decide +kernel
theorem dX12_findMarks_155 : decode cX12_findMarks 155 = .ok (.getfield 34, 3) := by decide +kernel
theorem dX12_findMarks_158 : decode cX12_findMarks 158 = .ok (.aload_n 0, 1) := by decide +kernel
