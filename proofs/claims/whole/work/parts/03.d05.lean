theorem dX12_findMarks_159 : decode cX12_findMarks 159 = .ok (.getfield 16, 3) := by decide +kernel
theorem dX12_findMarks_162 : decode cX12_findMarks 162 = .ok (.iload 4, 2) := by decide +kernel
theorem dX12_findMarks_164 : decode cX12_findMarks 164 = .ok (.iaload, 1) := by decide +kernel
theorem dX12_findMarks_165 : decode cX12_findMarks 165 = .ok (.aload_n 0, 1) := by decide +kernel
theorem dX12_findMarks_166 : decode cX12_findMarks 166 = .ok (.getfield 34, 3) := by decide +kernel
theorem dX12_findMarks_169 : decode cX12_findMarks 169 = .ok (.aload_n 0, 1) := by decide +kernel
theorem dX12_findMarks_170 : decode cX12_findMarks 170 = .ok (.getfield 13, 3) := by decide +kernel
theorem dX12_findMarks_173 : decode cX12_findMarks 173 = .ok (.iload 4, 2) := by decide +kernel
theorem dX12_findMarks_175 : decode cX12_findMarks 175 = .ok (.iaload, 1) := by decide +kernel
theorem dX12_findMarks_176 : decode cX12_findMarks 176 = .ok (.iaload, 1) := by decide +kernel
theorem dX12_findMarks_177 : decode cX12_findMarks 177 = .ok (.iastore, 1) := by decide +kernel
theorem dX12_findMarks_178 : decode cX12_findMarks 178 = .ok (.iload_n 1, 1) := by decide +kernel
theorem dX12_findMarks_179 : decode cX12_findMarks 179 = .ok (.iload 5, 2) := by decide +kernel
theorem dX12_findMarks_181 : decode cX12_findMarks 181 = .ok (.iconst 1, 1) := by decide +kernel
theorem dX12_findMarks_182 : decode cX12_findMarks 182 = .ok (.if_icmp .ne 15, 3) := by decide +kernel
theorem dX12_findMarks_185 : decode cX12_findMarks 185 = .ok (.iconst 1, 1) := by decide +kernel
theorem dX12_findMarks_186 : decode cX12_findMarks 186 = .ok (.aload_n 0, 1) := by decide +kernel
theorem dX12_findMarks_187 : decode cX12_findMarks 187 = .ok (.getfield 13, 3) := by decide +kernel
theorem dX12_findMarks_190 : decode cX12_findMarks 190 = .ok (.iload 4, 2) := by decide +kernel
theorem dX12_findMarks_192 : decode cX12_findMarks 192 = .ok (.iaload, 1) := by decide +kernel
theorem dX12_findMarks_193 : decode cX12_findMarks 193 = .ok (.ishl, 1) := by decide +kernel
theorem dX12_findMarks_194 : decode cX12_findMarks 194 = .ok (.goto 4, 3) := by decide +kernel
theorem dX12_findMarks_197 : decode cX12_findMarks 197 = .ok (.iconst 0, 1) := by decide +kernel
theorem dX12_findMarks_198 : decode cX12_findMarks 198 = .ok (.ior, 1) := by decide +kernel
theorem dX12_findMarks_199 : decode cX12_findMarks 199 = .ok (.istore_n 1, 1) := by decide +kernel
theorem dX12_findMarks_200 : decode cX12_findMarks 200 = .ok (.iinc 2 1, 3) := by decide +kernel
theorem dX12_findMarks_203 : decode cX12_findMarks 203 = .ok (.iload 5, 2) := by decide +kernel
theorem dX12_findMarks_205 : decode cX12_findMarks 205 = .ok (.iconst 4, 1) := by decide +kernel
theorem dX12_findMarks_206 : decode cX12_findMarks 206 = .ok (.if_icmp .ne 40, 3) := by decide +kernel
theorem dX12_findMarks_209 : decode cX12_findMarks 209 = .ok (.iload_n 1, 1) := by decide +kernel
theorem dX12_findMarks_210 : decode cX12_findMarks 210 = .ok (.aload_n 0, 1) := by decide +kernel
theorem dX12_findMarks_211 : decode cX12_findMarks 211 = .ok (.getfield 13, 3) := by decide +kernel
theorem dX12_findMarks_214 : decode cX12_findMarks 214 = .ok (.iload 4, 2) := by decide +kernel
theorem dX12_findMarks_216 : decode cX12_findMarks 216 = .ok (.iaload, 1) := by decide +kernel
theorem dX12_findMarks_217 : decode cX12_findMarks 217 = .ok (.iconst 1, 1) := by decide +kernel
theorem dX12_findMarks_218 : decode cX12_findMarks 218 = .ok (.if_icmp .ne 22, 3) := by decide +kernel
theorem dX12_findMarks_221 : decode cX12_findMarks 221 = .ok (.iconst 1, 1) := by decide +kernel
theorem dX12_findMarks_222 : decode cX12_findMarks 222 = .ok (.aload_n 0, 1) := by decide +kernel
theorem dX12_findMarks_223 : decode cX12_findMarks 223 = .ok (.getfield 13, 3) := by decide +kernel
theorem dX12_findMarks_226 : decode cX12_findMarks 226 = .ok (.aload_n 0, 1) := by decide +kernel
theorem dX12_findMarks_227 : decode cX12_findMarks 227 = .ok (.getfield 19, 3) := by decide +kernel
theorem dX12_findMarks_230 : decode cX12_findMarks 230 = .ok (.iload 4, 2) := by decide +kernel
theorem dX12_findMarks_232 : decode cX12_findMarks 232 = .ok (.iaload, 1) := by decide +kernel
theorem dX12_findMarks_233 : decode cX12_findMarks 233 = .ok (.iaload, 1) := by decide +kernel
theorem dX12_findMarks_234 : decode cX12_findMarks 234 = .ok (.ishl, 1) := by decide +kernel
theorem dX12_findMarks_235 : decode cX12_findMarks 235 = .ok (.iconst (-1), 1) := by decide +kernel
theorem dX12_findMarks_236 : decode cX12_findMarks 236 = .ok (.ixor, 1) := by decide +kernel
theorem dX12_findMarks_237 : decode cX12_findMarks 237 = .ok (.goto 4, 3) := by decide +kernel
theorem dX12_findMarks_240 : decode cX12_findMarks 240 = .ok (.iconst (-1), 1) := by decide +kernel
theorem dX12_findMarks_241 : decode cX12_findMarks 241 = .ok (.iand, 1) := by decide +kernel
theorem dX12_findMarks_242 : decode cX12_findMarks 242 = .ok (.istore_n 1, 1) := by decide +kernel
theorem dX12_findMarks_243 : decode cX12_findMarks 243 = .ok (.iinc 2 (-1), 3) := by decide +kernel
theorem dX12_findMarks_246 : decode cX12_findMarks 246 = .ok (.iload 5, 2) := by decide +kernel
theorem dX12_findMarks_248 : decode cX12_findMarks 248 = .ok (.iconst 5, 1) := by decide +kernel
theorem dX12_findMarks_249 : decode cX12_findMarks 249 = .ok (.if_icmp .ne 19, 3) := by decide +kernel
theorem dX12_findMarks_252 : decode cX12_findMarks 252 = .ok (.aload_n 0, 1) := by decide +kernel
theorem dX12_findMarks_253 : decode cX12_findMarks 253 = .ok (.getfield 28, 3) := by decide +kernel
theorem dX12_findMarks_256 : decode cX12_findMarks 256 = .ok (.aload_n 0, 1) := by decide +kernel
theorem dX12_findMarks_257 : decode cX12_findMarks 257 = .ok (.getfield 13, 3) := by decide +kernel
theorem dX12_findMarks_260 : decode cX12_findMarks 260 = .ok (.iload 4, 2) := by decide +kernel
theorem dX12_findMarks_262 : decode cX12_findMarks 262 = .ok (.iaload, 1) := by decide +kernel
theorem dX12_findMarks_263 : decode cX12_findMarks 263 = .ok (.dup2, 1) := by decide +kernel
theorem dX12_findMarks_264 : decode cX12_findMarks 264 = .ok (.iaload, 1) := by decide +kernel
theorem dX12_findMarks_265 : decode cX12_findMarks 265 = .ok (.iload_n 1, 1) := by decide +kernel
theorem dX12_findMarks_266 : decode cX12_findMarks 266 = .ok (.ior, 1) := by decide +kernel
theorem dX12_findMarks_267 : decode cX12_findMarks 267 = .ok (.iastore, 1) := by decide +kernel
theorem dX12_findMarks_268 : decode cX12_findMarks 268 = .ok (.iload 5, 2) := by decide +kernel
theorem dX12_findMarks_270 : decode cX12_findMarks 270 = .ok (.bipush 6, 2) := by decide +kernel
theorem dX12_findMarks_272 : decode cX12_findMarks 272 = .ok (.if_icmp .ne 5, 3) := by decide +kernel
theorem dX12_findMarks_275 : decode cX12_findMarks 275 = .ok (.iconst (-1), 1) := by decide +kernel
theorem dX12_findMarks_276 : decode cX12_findMarks 276 = .ok (.istore_n 3, 1) := by decide +kernel
theorem dX12_findMarks_277 : decode cX12_findMarks 277 = .ok (.iload 5, 2) := by decide +kernel
theorem dX12_findMarks_279 : decode cX12_findMarks 279 = .ok (.bipush 7, 2) := by decide +kernel
theorem dX12_findMarks_281 : decode cX12_findMarks 281 = .ok (.if_icmp .ne 50, 3) := by decide +kernel
theorem dX12_findMarks_284 : decode cX12_findMarks 284 = .ok (.aload_n 0, 1) := by decide +kernel
theorem dX12_findMarks_285 : decode cX12_findMarks 285 = .ok (.aload_n 0, 1) := by decide +kernel
theorem dX12_findMarks_286 : decode cX12_findMarks 286 = .ok (.getfield 16, 3) := by decide +kernel
theorem dX12_findMarks_289 : decode cX12_findMarks 289 = .ok (.iload 4, 2) := by decide +kernel
theorem dX12_findMarks_291 : decode cX12_findMarks 291 = .ok (.iaload, 1) := by decide +kernel
theorem dX12_findMarks_292 : decode cX12_findMarks 292 = .ok (.iconst 4, 1) := by decide +kernel
theorem dX12_findMarks_293 : decode cX12_findMarks 293 = .ok (.iload_n 1, 1) := by decide +kernel
theorem dX12_findMarks_294 : decode cX12_findMarks 294 = .ok (.iload_n 3, 1) := by decide +kernel
theorem dX12_findMarks_295 : decode cX12_findMarks 295 = .ok (.ifCond .lt 9, 3) := by decide +kernel
theorem dX12_findMarks_298 : decode cX12_findMarks 298 = .ok (.iconst 1, 1) := by decide +kernel
theorem dX12_findMarks_299 : decode cX12_findMarks 299 = .ok (.iload_n 3, 1) := by decide +kernel
theorem dX12_findMarks_300 : decode cX12_findMarks 300 = .ok (.ishl, 1) := by decide +kernel
theorem dX12_findMarks_301 : decode cX12_findMarks 301 = .ok (.goto 4, 3) := by decide +kernel
theorem dX12_findMarks_304 : decode cX12_findMarks 304 = .ok (.iconst 0, 1) := by decide +kernel
theorem dX12_findMarks_305 : decode cX12_findMarks 305 = .ok (.ior, 1) := by decide +kernel
theorem dX12_findMarks_306 : decode cX12_findMarks 306 = .ok (.iload_n 2, 1) := by decide +kernel
theorem dX12_findMarks_307 : decode cX12_findMarks 307 = .ok (.invokevirtual 255, 3) := by decide +kernel
theorem dX12_findMarks_310 : decode cX12_findMarks 310 = .ok (.aload_n 0, 1) := by decide +kernel
theorem dX12_findMarks_311 : decode cX12_findMarks 311 = .ok (.getfield 34, 3) := by decide +kernel
theorem dX12_findMarks_314 : decode cX12_findMarks 314 = .ok (.aload_n 0, 1) := by decide +kernel
theorem dX12_findMarks_315 : decode cX12_findMarks 315 = .ok (.getfield 16, 3) := by decide +kernel
theorem dX12_findMarks_318 : decode cX12_findMarks 318 = .ok (.iload 4, 2) := by decide +kernel
theorem dX12_findMarks_320 : decode cX12_findMarks 320 = .ok (.iaload, 1) := by decide +kernel
theorem dX12_findMarks_321 : decode cX12_findMarks 321 = .ok (.iconst 1, 1) := by decide +kernel
theorem dX12_findMarks_322 : decode cX12_findMarks 322 = .ok (.iastore, 1) := by decide +kernel
theorem dX12_findMarks_323 : decode cX12_findMarks 323 = .ok (.aload_n 0, 1) := by decide +kernel
theorem dX12_findMarks_324 : decode cX12_findMarks 324 = .ok (.getfield 16, 3) := by decide +kernel
theorem dX12_findMarks_327 : decode cX12_findMarks 327 = .ok (.iload 4, 2) := by decide +kernel
theorem dX12_findMarks_329 : decode cX12_findMarks 329 = .ok (.iaload, 1) := by decide +kernel
theorem dX12_findMarks_330 : decode cX12_findMarks 330 = .ok (.istore_n 3, 1) := by decide +kernel
theorem dX12_findMarks_331 : decode cX12_findMarks 331 = .ok (.iinc 4 1, 3) := by decide +kernel
theorem dX12_findMarks_334 : decode cX12_findMarks 334 = .ok (.goto (-325), 3) := by decide +kernel
theorem dX12_findMarks_337 : decode cX12_findMarks 337 = .ok (.return_, 1) := by decide +kernel
theorem dX12_wordsIn_0 : decode cX12_wordsIn 0 = .ok (.iconst 0, 1) := by decide +kernel
theorem dX12_wordsIn_1 : decode cX12_wordsIn 1 = .ok (.istore_n 3, 1) := by decide +kernel
theorem dX12_wordsIn_2 : decode cX12_wordsIn 2 = .ok (.iload_n 1, 1) := by decide +kernel
theorem dX12_wordsIn_3 : decode cX12_wordsIn 3 = .ok (.istore 4, 2) := by decide +kernel
theorem dX12_wordsIn_5 : decode cX12_wordsIn 5 = .ok (.iload 4, 2) := by decide +kernel
theorem dX12_wordsIn_7 : decode cX12_wordsIn 7 = .ok (.iload_n 2, 1) := by decide +kernel
theorem dX12_wordsIn_8 : decode cX12_wordsIn 8 = .ok (.if_icmp .ge 51, 3) := by decide +kernel
theorem dX12_wordsIn_11 : decode cX12_wordsIn 11 = .ok (.iload_n 3, 1) := by decide +kernel
theorem dX12_wordsIn_12 : decode cX12_wordsIn 12 = .ok (.aload_n 0, 1) := by decide +kernel
theorem dX12_wordsIn_13 : decode cX12_wordsIn 13 = .ok (.getfield 7, 3) := by decide +kernel
theorem dX12_wordsIn_16 : decode cX12_wordsIn 16 = .ok (.iload 4, 2) := by decide +kernel
theorem dX12_wordsIn_18 : decode cX12_wordsIn 18 = .ok (.iaload, 1) := by decide +kernel
theorem dX12_wordsIn_19 : decode cX12_wordsIn 19 = .ok (.ifCond .eq 27, 3) := by decide +kernel
theorem dX12_wordsIn_22 : decode cX12_wordsIn 22 = .ok (.aload_n 0, 1) := by decide +kernel
theorem dX12_wordsIn_23 : decode cX12_wordsIn 23 = .ok (.getfield 7, 3) := by decide +kernel
theorem dX12_wordsIn_26 : decode cX12_wordsIn 26 = .ok (.iload 4, 2) := by decide +kernel
theorem dX12_wordsIn_28 : decode cX12_wordsIn 28 = .ok (.iaload, 1) := by decide +kernel
theorem dX12_wordsIn_29 : decode cX12_wordsIn 29 = .ok (.bipush 6, 2) := by decide +kernel
theorem dX12_wordsIn_31 : decode cX12_wordsIn 31 = .ok (.if_icmp .eq 15, 3) := by decide +kernel
theorem dX12_wordsIn_34 : decode cX12_wordsIn 34 = .ok (.aload_n 0, 1) := by decide +kernel
theorem dX12_wordsIn_35 : decode cX12_wordsIn 35 = .ok (.getfield 7, 3) := by decide +kernel
theorem dX12_wordsIn_38 : decode cX12_wordsIn 38 = .ok (.iload 4, 2) := by decide +kernel
theorem dX12_wordsIn_40 : decode cX12_wordsIn 40 = .ok (.iaload, 1) := by decide +kernel
theorem dX12_wordsIn_41 : decode cX12_wordsIn 41 = .ok (.bipush 7, 2) := by decide +kernel
theorem dX12_wordsIn_43 : decode cX12_wordsIn 43 = .ok (.if_icmp .ne 7, 3) := by decide +kernel
theorem dX12_wordsIn_46 : decode cX12_wordsIn 46 = .ok (.iconst 1, 1) := by decide +kernel
theorem dX12_wordsIn_47 : decode cX12_wordsIn 47 = .ok (.goto 4, 3) := by decide +kernel
theorem dX12_wordsIn_50 : decode cX12_wordsIn 50 = .ok (.iconst 0, 1) := by decide +kernel
theorem dX12_wordsIn_51 : decode cX12_wordsIn 51 = .ok (.iadd, 1) := by decide +kernel
theorem dX12_wordsIn_52 : decode cX12_wordsIn 52 = .ok (.istore_n 3, 1) := by decide +kernel
theorem dX12_wordsIn_53 : decode cX12_wordsIn 53 = .ok (.iinc 4 1, 3) := by decide +kernel
theorem dX12_wordsIn_56 : decode cX12_wordsIn 56 = .ok (.goto (-51), 3) := by decide +kernel
theorem dX12_wordsIn_59 : decode cX12_wordsIn 59 = .ok (.iload_n 3, 1) := by decide +kernel
theorem dX12_wordsIn_60 : decode cX12_wordsIn 60 = .ok (.ireturn, 1) := by decide +kernel
theorem dX12_fault_0 : decode cX12_fault 0 = .ok (.aload_n 0, 1) := by decide +kernel
theorem dX12_fault_1 : decode cX12_fault 1 = .ok (.getfield 50, 3) := by decide +kernel
theorem dX12_fault_4 : decode cX12_fault 4 = .ok (.ireturn, 1) := by decide +kernel
theorem dX12_printSign_0 : decode cX12_printSign 0 = .ok (.aload_n 0, 1) := by decide +kernel
theorem dX12_printSign_1 : decode cX12_printSign 1 = .ok (.getfield 72, 3) := by decide +kernel
theorem dX12_printSign_4 : decode cX12_printSign 4 = .ok (.aload_n 0, 1) := by decide +kernel
theorem dX12_printSign_5 : decode cX12_printSign 5 = .ok (.getfield 261, 3) := by decide +kernel
theorem dX12_printSign_8 : decode cX12_printSign 8 = .ok (.iload_n 1, 1) := by decide +kernel
theorem dX12_printSign_9 : decode cX12_printSign 9 = .ok (.iastore, 1) := by decide +kernel
theorem dX12_printSign_10 : decode cX12_printSign 10 = .ok (.aload_n 0, 1) := by decide +kernel
theorem dX12_printSign_11 : decode cX12_printSign 11 = .ok (.dup, 1) := by decide +kernel
theorem dX12_printSign_12 : decode cX12_printSign 12 = .ok (.getfield 261, 3) := by decide +kernel
theorem dX12_printSign_15 : decode cX12_printSign 15 = .ok (.iconst 1, 1) := by decide +kernel
theorem dX12_printSign_16 : decode cX12_printSign 16 = .ok (.iadd, 1) := by decide +kernel
theorem dX12_printSign_17 : decode cX12_printSign 17 = .ok (.putfield 261, 3) := by decide +kernel
theorem dX12_printSign_20 : decode cX12_printSign 20 = .ok (.return_, 1) := by decide +kernel
theorem dX12_printNumber_0 : decode cX12_printNumber 0 = .ok (.aload_n 0, 1) := by decide +kernel
theorem dX12_printNumber_1 : decode cX12_printNumber 1 = .ok (.getfield 261, 3) := by decide +kernel
theorem dX12_printNumber_4 : decode cX12_printNumber 4 = .ok (.ifCond .le 33, 3) := by decide +kernel
theorem dX12_printNumber_7 : decode cX12_printNumber 7 = .ok (.aload_n 0, 1) := by decide +kernel
theorem dX12_printNumber_8 : decode cX12_printNumber 8 = .ok (.getfield 72, 3) := by decide +kernel
theorem dX12_printNumber_11 : decode cX12_printNumber 11 = .ok (.aload_n 0, 1) := by decide +kernel
theorem dX12_printNumber_12 : decode cX12_printNumber 12 = .ok (.getfield 261, 3) := by decide +kernel
theorem dX12_printNumber_15 : decode cX12_printNumber 15 = .ok (.iconst 1, 1) := by decide +kernel
theorem dX12_printNumber_16 : decode cX12_printNumber 16 = .ok (.isub, 1) := by decide +kernel
theorem dX12_printNumber_17 : decode cX12_printNumber 17 = .ok (.iaload, 1) := by decide +kernel
theorem dX12_printNumber_18 : decode cX12_printNumber 18 = .ok (.i2l, 1) := by decide +kernel
theorem dX12_printNumber_19 : decode cX12_printNumber 19 = .ok (.ldc2_w 165, 3) := by decide +kernel
theorem dX12_printNumber_22 : decode cX12_printNumber 22 = .ok (.ldc2_w 167, 3) := by decide +kernel
theorem dX12_printNumber_25 : decode cX12_printNumber 25 = .ok (.invokestatic 144, 3) := by decide +kernel
theorem dX12_printNumber_28 : decode cX12_printNumber 28 = .ok (.ifCond .eq 9, 3) := by decide +kernel
theorem dX12_printNumber_31 : decode cX12_printNumber 31 = .ok (.aload_n 0, 1) := by decide +kernel
theorem dX12_printNumber_32 : decode cX12_printNumber 32 = .ok (.bipush 32, 2) := by decide +kernel
theorem dX12_printNumber_34 : decode cX12_printNumber 34 = .ok (.invokevirtual 264, 3) := by decide +kernel
theorem dX12_printNumber_37 : decode cX12_printNumber 37 = .ok (.iload_n 1, 1) := by decide +kernel
theorem dX12_printNumber_38 : decode cX12_printNumber 38 = .ok (.bipush 9, 2) := by decide +kernel
theorem dX12_printNumber_40 : decode cX12_printNumber 40 = .ok (.if_icmp .le 14, 3) := by decide +kernel
theorem dX12_printNumber_43 : decode cX12_printNumber 43 = .ok (.aload_n 0, 1) := by decide +kernel
theorem dX12_printNumber_44 : decode cX12_printNumber 44 = .ok (.bipush 48, 2) := by decide +kernel
theorem dX12_printNumber_46 : decode cX12_printNumber 46 = .ok (.iload_n 1, 1) := by decide +kernel
theorem dX12_printNumber_47 : decode cX12_printNumber 47 = .ok (.bipush 10, 2) := by decide +kernel
theorem dX12_printNumber_49 : decode cX12_printNumber 49 = .ok (.idiv, 1) := by decide +kernel
theorem dX12_printNumber_50 : decode cX12_printNumber 50 = .ok (.iadd, 1) := by decide +kernel
theorem dX12_printNumber_51 : decode cX12_printNumber 51 = .ok (.invokevirtual 264, 3) := by decide +kernel
theorem dX12_printNumber_54 : decode cX12_printNumber 54 = .ok (.aload_n 0, 1) := by decide +kernel
theorem dX12_printNumber_55 : decode cX12_printNumber 55 = .ok (.bipush 48, 2) := by decide +kernel
theorem dX12_printNumber_57 : decode cX12_printNumber 57 = .ok (.iload_n 1, 1) := by decide +kernel
theorem dX12_printNumber_58 : decode cX12_printNumber 58 = .ok (.bipush 10, 2) := by decide +kernel
theorem dX12_printNumber_60 : decode cX12_printNumber 60 = .ok (.irem, 1) := by decide +kernel
theorem dX12_printNumber_61 : decode cX12_printNumber 61 = .ok (.iadd, 1) := by decide +kernel
theorem dX12_printNumber_62 : decode cX12_printNumber 62 = .ok (.invokevirtual 264, 3) := by decide +kernel
theorem dX12_printNumber_65 : decode cX12_printNumber 65 = .ok (.return_, 1) := by decide +kernel
theorem dX12_printOpen_0 : decode cX12_printOpen 0 = .ok (.aload_n 0, 1) := by decide +kernel
theorem dX12_printOpen_1 : decode cX12_printOpen 1 = .ok (.aload_n 0, 1) := by decide +kernel
theorem dX12_printOpen_2 : decode cX12_printOpen 2 = .ok (.getfield 7, 3) := by decide +kernel
theorem dX12_printOpen_5 : decode cX12_printOpen 5 = .ok (.iload_n 1, 1) := by decide +kernel
theorem dX12_printOpen_6 : decode cX12_printOpen 6 = .ok (.iaload, 1) := by decide +kernel
theorem dX12_printOpen_7 : decode cX12_printOpen 7 = .ok (.iconst 1, 1) := by decide +kernel
theorem dX12_printOpen_8 : decode cX12_printOpen 8 = .ok (.if_icmp .ne 8, 3) := by decide +kernel
theorem dX12_printOpen_11 : decode cX12_printOpen 11 = .ok (.bipush 123, 2) := by decide +kernel
theorem dX12_printOpen_13 : decode cX12_printOpen 13 = .ok (.goto 20, 3) := by decide +kernel
theorem dX12_printOpen_16 : decode cX12_printOpen 16 = .ok (.aload_n 0, 1) := by decide +kernel
theorem dX12_printOpen_17 : decode cX12_printOpen 17 = .ok (.getfield 7, 3) := by decide +kernel
theorem dX12_printOpen_20 : decode cX12_printOpen 20 = .ok (.iload_n 1, 1) := by decide +kernel
theorem dX12_printOpen_21 : decode cX12_printOpen 21 = .ok (.iaload, 1) := by decide +kernel
theorem dX12_printOpen_22 : decode cX12_printOpen 22 = .ok (.iconst 2, 1) := by decide +kernel
theorem dX12_printOpen_23 : decode cX12_printOpen 23 = .ok (.if_icmp .ne 8, 3) := by decide +kernel
theorem dX12_printOpen_26 : decode cX12_printOpen 26 = .ok (.bipush 91, 2) := by decide +kernel
theorem dX12_printOpen_28 : decode cX12_printOpen 28 = .ok (.goto 5, 3) := by decide +kernel
theorem dX12_printOpen_31 : decode cX12_printOpen 31 = .ok (.bipush 60, 2) := by decide +kernel
theorem dX12_printOpen_33 : decode cX12_printOpen 33 = .ok (.invokevirtual 264, 3) := by decide +kernel
theorem dX12_printOpen_36 : decode cX12_printOpen 36 = .ok (.aload_n 0, 1) := by decide +kernel
theorem dX12_printOpen_37 : decode cX12_printOpen 37 = .ok (.aload_n 0, 1) := by decide +kernel
theorem dX12_printOpen_38 : decode cX12_printOpen 38 = .ok (.getfield 13, 3) := by decide +kernel
theorem dX12_printOpen_41 : decode cX12_printOpen 41 = .ok (.iload_n 1, 1) := by decide +kernel
theorem dX12_printOpen_42 : decode cX12_printOpen 42 = .ok (.iaload, 1) := by decide +kernel
theorem dX12_printOpen_43 : decode cX12_printOpen 43 = .ok (.invokevirtual 268, 3) := by decide +kernel
theorem dX12_printOpen_46 : decode cX12_printOpen 46 = .ok (.aload_n 0, 1) := by decide +kernel
theorem dX12_printOpen_47 : decode cX12_printOpen 47 = .ok (.getfield 16, 3) := by decide +kernel
theorem dX12_printOpen_50 : decode cX12_printOpen 50 = .ok (.iload_n 1, 1) := by decide +kernel
theorem dX12_printOpen_51 : decode cX12_printOpen 51 = .ok (.iaload, 1) := by decide +kernel
theorem dX12_printOpen_52 : decode cX12_printOpen 52 = .ok (.ifCond .lt 19, 3) := by decide +kernel
theorem dX12_printOpen_55 : decode cX12_printOpen 55 = .ok (.aload_n 0, 1) := by decide +kernel
theorem dX12_printOpen_56 : decode cX12_printOpen 56 = .ok (.bipush 33, 2) := by decide +kernel
theorem dX12_printOpen_58 : decode cX12_printOpen 58 = .ok (.invokevirtual 264, 3) := by decide +kernel
theorem dX12_printOpen_61 : decode cX12_printOpen 61 = .ok (.aload_n 0, 1) := by decide +kernel
theorem dX12_printOpen_62 : decode cX12_printOpen 62 = .ok (.aload_n 0, 1) := by decide +kernel
theorem dX12_printOpen_63 : decode cX12_printOpen 63 = .ok (.getfield 16, 3) := by decide +kernel
theorem dX12_printOpen_66 : decode cX12_printOpen 66 = .ok (.iload_n 1, 1) := by decide +kernel
theorem dX12_printOpen_67 : decode cX12_printOpen 67 = .ok (.iaload, 1) := by decide +kernel
theorem dX12_printOpen_68 : decode cX12_printOpen 68 = .ok (.invokevirtual 268, 3) := by decide +kernel
theorem dX12_printOpen_71 : decode cX12_printOpen 71 = .ok (.aload_n 0, 1) := by decide +kernel
theorem dX12_printOpen_72 : decode cX12_printOpen 72 = .ok (.bipush 58, 2) := by decide +kernel
theorem dX12_printOpen_74 : decode cX12_printOpen 74 = .ok (.invokevirtual 264, 3) := by decide +kernel
theorem dX12_printOpen_77 : decode cX12_printOpen 77 = .ok (.return_, 1) := by decide +kernel
theorem dX12_printAll_0 : decode cX12_printAll 0 = .ok (.aload_n 0, 1) := by decide +kernel
theorem dX12_printAll_1 : decode cX12_printAll 1 = .ok (.iconst 0, 1) := by decide +kernel
theorem dX12_printAll_2 : decode cX12_printAll 2 = .ok (.putfield 261, 3) := by decide +kernel
theorem dX12_printAll_5 : decode cX12_printAll 5 = .ok (.iconst 0, 1) := by decide +kernel
theorem dX12_printAll_6 : decode cX12_printAll 6 = .ok (.istore_n 1, 1) := by decide +kernel
theorem dX12_printAll_7 : decode cX12_printAll 7 = .ok (.iload_n 1, 1) := by decide +kernel
theorem dX12_printAll_8 : decode cX12_printAll 8 = .ok (.aload_n 0, 1) := by decide +kernel
theorem dX12_printAll_9 : decode cX12_printAll 9 = .ok (.getfield 243, 3) := by decide +kernel
theorem dX12_printAll_12 : decode cX12_printAll 12 = .ok (.if_icmp .ge 199, 3) := by decide +kernel
theorem dX12_printAll_15 : decode cX12_printAll 15 = .ok (.aload_n 0, 1) := by decide +kernel
theorem dX12_printAll_16 : decode cX12_printAll 16 = .ok (.getfield 7, 3) := by decide +kernel
theorem dX12_printAll_19 : decode cX12_printAll 19 = .ok (.iload_n 1, 1) := by decide +kernel
theorem dX12_printAll_20 : decode cX12_printAll 20 = .ok (.iaload, 1) := by decide +kernel
theorem dX12_printAll_21 : decode cX12_printAll 21 = .ok (.tableswitch 179 0 8 #[51, 179, 179, 179, 64, 103, 122, 141, 170], 51) := by decide +kernel
theorem dX12_printAll_72 : decode cX12_printAll 72 = .ok (.aload_n 0, 1) := by decide +kernel
theorem dX12_printAll_73 : decode cX12_printAll 73 = .ok (.aload_n 0, 1) := by decide +kernel
theorem dX12_printAll_74 : decode cX12_printAll 74 = .ok (.getfield 13, 3) := by decide +kernel
theorem dX12_printAll_77 : decode cX12_printAll 77 = .ok (.iload_n 1, 1) := by decide +kernel
theorem dX12_printAll_78 : decode cX12_printAll 78 = .ok (.iaload, 1) := by decide +kernel
theorem dX12_printAll_79 : decode cX12_printAll 79 = .ok (.invokevirtual 268, 3) := by decide +kernel
theorem dX12_printAll_82 : decode cX12_printAll 82 = .ok (.goto 123, 3) := by decide +kernel
theorem dX12_printAll_85 : decode cX12_printAll 85 = .ok (.aload_n 0, 1) := by decide +kernel
theorem dX12_printAll_86 : decode cX12_printAll 86 = .ok (.aload_n 0, 1) := by decide +kernel
theorem dX12_printAll_87 : decode cX12_printAll 87 = .ok (.getfield 13, 3) := by decide +kernel
theorem dX12_printAll_90 : decode cX12_printAll 90 = .ok (.iload_n 1, 1) := by decide +kernel
theorem dX12_printAll_91 : decode cX12_printAll 91 = .ok (.iaload, 1) := by decide +kernel
theorem dX12_printAll_92 : decode cX12_printAll 92 = .ok (.iconst 1, 1) := by decide +kernel
theorem dX12_printAll_93 : decode cX12_printAll 93 = .ok (.if_icmp .ne 8, 3) := by decide +kernel
theorem dX12_printAll_96 : decode cX12_printAll 96 = .ok (.bipush 125, 2) := by decide +kernel
theorem dX12_printAll_98 : decode cX12_printAll 98 = .ok (.goto 20, 3) := by decide +kernel
theorem dX12_printAll_101 : decode cX12_printAll 101 = .ok (.aload_n 0, 1) := by decide +kernel
theorem dX12_printAll_102 : decode cX12_printAll 102 = .ok (.getfield 13, 3) := by decide +kernel
theorem dX12_printAll_105 : decode cX12_printAll 105 = .ok (.iload_n 1, 1) := by decide +kernel
theorem dX12_printAll_106 : decode cX12_printAll 106 = .ok (.iaload, 1) := by decide +kernel
theorem dX12_printAll_107 : decode cX12_printAll 107 = .ok (.iconst 2, 1) := by decide +kernel
theorem dX12_printAll_108 : decode cX12_printAll 108 = .ok (.if_icmp .ne 8, 3) := by decide +kernel
theorem dX12_printAll_111 : decode cX12_printAll 111 = .ok (.bipush 93, 2) := by decide +kernel
theorem dX12_printAll_113 : decode cX12_printAll 113 = .ok (.goto 5, 3) := by decide +kernel
theorem dX12_printAll_116 : decode cX12_printAll 116 = .ok (.bipush 62, 2) := by decide +kernel
theorem dX12_printAll_118 : decode cX12_printAll 118 = .ok (.invokevirtual 264, 3) := by decide +kernel
theorem dX12_printAll_121 : decode cX12_printAll 121 = .ok (.goto 84, 3) := by decide +kernel
theorem dX12_printAll_124 : decode cX12_printAll 124 = .ok (.aload_n 0, 1) := by decide +kernel
theorem dX12_printAll_125 : decode cX12_printAll 125 = .ok (.bipush 42, 2) := by decide +kernel
theorem dX12_printAll_127 : decode cX12_printAll 127 = .ok (.invokevirtual 264, 3) := by decide +kernel
theorem dX12_printAll_130 : decode cX12_printAll 130 = .ok (.aload_n 0, 1) := by decide +kernel
theorem dX12_printAll_131 : decode cX12_printAll 131 = .ok (.aload_n 0, 1) := by decide +kernel
theorem dX12_printAll_132 : decode cX12_printAll 132 = .ok (.getfield 13, 3) := by decide +kernel
theorem dX12_printAll_135 : decode cX12_printAll 135 = .ok (.iload_n 1, 1) := by decide +kernel
theorem dX12_printAll_136 : decode cX12_printAll 136 = .ok (.iaload, 1) := by decide +kernel
theorem dX12_printAll_137 : decode cX12_printAll 137 = .ok (.invokevirtual 268, 3) := by decide +kernel
theorem dX12_printAll_140 : decode cX12_printAll 140 = .ok (.goto 65, 3) := by decide +kernel
theorem dX12_printAll_143 : decode cX12_printAll 143 = .ok (.aload_n 0, 1) := by decide +kernel
theorem dX12_printAll_144 : decode cX12_printAll 144 = .ok (.bipush 40, 2) := by decide +kernel
theorem dX12_printAll_146 : decode cX12_printAll 146 = .ok (.invokevirtual 264, 3) := by decide +kernel
theorem dX12_printAll_149 : decode cX12_printAll 149 = .ok (.aload_n 0, 1) := by decide +kernel
theorem dX12_printAll_150 : decode cX12_printAll 150 = .ok (.aload_n 0, 1) := by decide +kernel
theorem dX12_printAll_151 : decode cX12_printAll 151 = .ok (.getfield 13, 3) := by decide +kernel
theorem dX12_printAll_154 : decode cX12_printAll 154 = .ok (.iload_n 1, 1) := by decide +kernel
theorem dX12_printAll_155 : decode cX12_printAll 155 = .ok (.iaload, 1) := by decide +kernel
theorem dX12_printAll_156 : decode cX12_printAll 156 = .ok (.invokevirtual 268, 3) := by decide +kernel
theorem dX12_printAll_159 : decode cX12_printAll 159 = .ok (.goto 46, 3) := by decide +kernel
theorem dX12_printAll_162 : decode cX12_printAll 162 = .ok (.aload_n 0, 1) := by decide +kernel
theorem dX12_printAll_163 : decode cX12_printAll 163 = .ok (.bipush 47, 2) := by decide +kernel
theorem dX12_printAll_165 : decode cX12_printAll 165 = .ok (.invokevirtual 264, 3) := by decide +kernel
theorem dX12_printAll_168 : decode cX12_printAll 168 = .ok (.aload_n 0, 1) := by decide +kernel
theorem dX12_printAll_169 : decode cX12_printAll 169 = .ok (.aload_n 0, 1) := by decide +kernel
theorem dX12_printAll_170 : decode cX12_printAll 170 = .ok (.getfield 16, 3) := by decide +kernel
theorem dX12_printAll_173 : decode cX12_printAll 173 = .ok (.iload_n 1, 1) := by decide +kernel
theorem dX12_printAll_174 : decode cX12_printAll 174 = .ok (.iaload, 1) := by decide +kernel
theorem dX12_printAll_175 : decode cX12_printAll 175 = .ok (.invokevirtual 268, 3) := by decide +kernel
theorem dX12_printAll_178 : decode cX12_printAll 178 = .ok (.aload_n 0, 1) := by decide +kernel
theorem dX12_printAll_179 : decode cX12_printAll 179 = .ok (.aload_n 0, 1) := by decide +kernel
theorem dX12_printAll_180 : decode cX12_printAll 180 = .ok (.getfield 13, 3) := by decide +kernel
theorem dX12_printAll_183 : decode cX12_printAll 183 = .ok (.iload_n 1, 1) := by decide +kernel
theorem dX12_printAll_184 : decode cX12_printAll 184 = .ok (.iaload, 1) := by decide +kernel
theorem dX12_printAll_185 : decode cX12_printAll 185 = .ok (.invokevirtual 268, 3) := by decide +kernel
theorem dX12_printAll_188 : decode cX12_printAll 188 = .ok (.goto 17, 3) := by decide +kernel
theorem dX12_printAll_191 : decode cX12_printAll 191 = .ok (.aload_n 0, 1) := by decide +kernel
theorem dX12_printAll_192 : decode cX12_printAll 192 = .ok (.bipush 41, 2) := by decide +kernel
theorem dX12_printAll_194 : decode cX12_printAll 194 = .ok (.invokevirtual 264, 3) := by decide +kernel
theorem dX12_printAll_197 : decode cX12_printAll 197 = .ok (.goto 8, 3) := by decide +kernel
theorem dX12_printAll_200 : decode cX12_printAll 200 = .ok (.aload_n 0, 1) := by decide +kernel
theorem dX12_printAll_201 : decode cX12_printAll 201 = .ok (.iload_n 1, 1) := by decide +kernel
theorem dX12_printAll_202 : decode cX12_printAll 202 = .ok (.invokevirtual 271, 3) := by decide +kernel
theorem dX12_printAll_205 : decode cX12_printAll 205 = .ok (.iinc 1 1, 3) := by decide +kernel
theorem dX12_printAll_208 : decode cX12_printAll 208 = .ok (.goto (-201), 3) := by decide +kernel
theorem dX12_printAll_211 : decode cX12_printAll 211 = .ok (.return_, 1) := by decide +kernel
theorem dX12_print_0 : decode cX12_print 0 = .ok (.aload_n 0, 1) := by decide +kernel
theorem dX12_print_1 : decode cX12_print 1 = .ok (.invokevirtual 274, 3) := by decide +kernel
theorem dX12_print_4 : decode cX12_print 4 = .ok (.iload_n 1, 1) := by decide +kernel
theorem dX12_print_5 : decode cX12_print 5 = .ok (.iconst (-1), 1) := by decide +kernel
theorem dX12_print_6 : decode cX12_print 6 = .ok (.if_icmp .ne 10, 3) := by decide +kernel
theorem dX12_print_9 : decode cX12_print 9 = .ok (.aload_n 0, 1) := by decide +kernel
theorem dX12_print_10 : decode cX12_print 10 = .ok (.getfield 261, 3) := by decide +kernel
theorem dX12_print_13 : decode cX12_print 13 = .ok (.goto 29, 3) := by decide +kernel
theorem dX12_print_16 : decode cX12_print 16 = .ok (.iload_n 1, 1) := by decide +kernel
theorem dX12_print_17 : decode cX12_print 17 = .ok (.i2l, 1) := by decide +kernel
theorem dX12_print_18 : decode cX12_print 18 = .ok (.lconst 0, 1) := by decide +kernel
theorem dX12_print_19 : decode cX12_print 19 = .ok (.aload_n 0, 1) := by decide +kernel
theorem dX12_print_20 : decode cX12_print 20 = .ok (.getfield 261, 3) := by decide +kernel
theorem dX12_print_23 : decode cX12_print 23 = .ok (.iconst 1, 1) := by decide +kernel
theorem dX12_print_24 : decode cX12_print 24 = .ok (.isub, 1) := by decide +kernel
theorem dX12_print_25 : decode cX12_print 25 = .ok (.i2l, 1) := by decide +kernel
theorem dX12_print_26 : decode cX12_print 26 = .ok (.invokestatic 144, 3) := by decide +kernel
theorem dX12_print_29 : decode cX12_print 29 = .ok (.ifCond .eq 12, 3) := by decide +kernel
theorem dX12_print_32 : decode cX12_print 32 = .ok (.aload_n 0, 1) := by decide +kernel
theorem dX12_print_33 : decode cX12_print 33 = .ok (.getfield 72, 3) := by decide +kernel
theorem dX12_print_36 : decode cX12_print 36 = .ok (.iload_n 1, 1) := by decide +kernel
theorem dX12_print_37 : decode cX12_print 37 = .ok (.iaload, 1) := by decide +kernel
theorem dX12_print_38 : decode cX12_print 38 = .ok (.goto 4, 3) := by decide +kernel
theorem dX12_print_41 : decode cX12_print 41 = .ok (.iconst (-1), 1) := by decide +kernel
theorem dX12_print_42 : decode cX12_print 42 = .ok (.ireturn, 1) := by decide +kernel
theorem dX12_findMust_0 : decode cX12_findMust 0 = .ok (.iconst 0, 1) := by decide +kernel
theorem dX12_findMust_1 : decode cX12_findMust 1 = .ok (.istore_n 1, 1) := by decide +kernel
theorem dX12_findMust_2 : decode cX12_findMust 2 = .ok (.iload_n 1, 1) := by decide +kernel
theorem dX12_findMust_3 : decode cX12_findMust 3 = .ok (.aload_n 0, 1) := by decide +kernel
theorem dX12_findMust_4 : decode cX12_findMust 4 = .ok (.getfield 141, 3) := by decide +kernel
theorem dX12_findMust_7 : decode cX12_findMust 7 = .ok (.if_icmp .ge 76, 3) := by decide +kernel
theorem dX12_findMust_10 : decode cX12_findMust 10 = .ok (.aload_n 0, 1) := by decide +kernel
theorem dX12_findMust_11 : decode cX12_findMust 11 = .ok (.getfield 31, 3) := by decide +kernel
theorem dX12_findMust_14 : decode cX12_findMust 14 = .ok (.iload_n 1, 1) := by decide +kernel
theorem dX12_findMust_15 : decode cX12_findMust 15 = .ok (.aload_n 0, 1) := by decide +kernel
theorem dX12_findMust_16 : decode cX12_findMust 16 = .ok (.getfield 28, 3) := by decide +kernel
theorem dX12_findMust_19 : decode cX12_findMust 19 = .ok (.iload_n 1, 1) := by decide +kernel
theorem dX12_findMust_20 : decode cX12_findMust 20 = .ok (.iaload, 1) := by decide +kernel
theorem dX12_findMust_21 : decode cX12_findMust 21 = .ok (.iastore, 1) := by decide +kernel
theorem dX12_findMust_22 : decode cX12_findMust 22 = .ok (.iconst 0, 1) := by decide +kernel
theorem dX12_findMust_23 : decode cX12_findMust 23 = .ok (.istore_n 2, 1) := by decide +kernel
theorem dX12_findMust_24 : decode cX12_findMust 24 = .ok (.iload_n 2, 1) := by decide +kernel
theorem dX12_findMust_25 : decode cX12_findMust 25 = .ok (.aload_n 0, 1) := by decide +kernel
theorem dX12_findMust_26 : decode cX12_findMust 26 = .ok (.getfield 141, 3) := by decide +kernel
theorem dX12_findMust_29 : decode cX12_findMust 29 = .ok (.if_icmp .ge 48, 3) := by decide +kernel
theorem dX12_findMust_32 : decode cX12_findMust 32 = .ok (.aload_n 0, 1) := by decide +kernel
theorem dX12_findMust_33 : decode cX12_findMust 33 = .ok (.getfield 31, 3) := by decide +kernel
theorem dX12_findMust_36 : decode cX12_findMust 36 = .ok (.iload_n 1, 1) := by decide +kernel
theorem dX12_findMust_37 : decode cX12_findMust 37 = .ok (.dup2, 1) := by decide +kernel
theorem dX12_findMust_38 : decode cX12_findMust 38 = .ok (.iaload, 1) := by decide +kernel
theorem dX12_findMust_39 : decode cX12_findMust 39 = .ok (.aload_n 0, 1) := by decide +kernel
theorem dX12_findMust_40 : decode cX12_findMust 40 = .ok (.getfield 43, 3) := by decide +kernel
theorem dX12_findMust_43 : decode cX12_findMust 43 = .ok (.iconst 4, 1) := by decide +kernel
theorem dX12_findMust_44 : decode cX12_findMust 44 = .ok (.aload_n 0, 1) := by decide +kernel
theorem dX12_findMust_45 : decode cX12_findMust 45 = .ok (.getfield 25, 3) := by decide +kernel
theorem dX12_findMust_48 : decode cX12_findMust 48 = .ok (.iload_n 2, 1) := by decide +kernel
theorem dX12_findMust_49 : decode cX12_findMust 49 = .ok (.iaload, 1) := by decide +kernel
theorem dX12_findMust_50 : decode cX12_findMust 50 = .ok (.imul, 1) := by decide +kernel
theorem dX12_findMust_51 : decode cX12_findMust 51 = .ok (.aload_n 0, 1) := by decide +kernel
theorem dX12_findMust_52 : decode cX12_findMust 52 = .ok (.getfield 25, 3) := by decide +kernel
theorem dX12_findMust_55 : decode cX12_findMust 55 = .ok (.iload_n 1, 1) := by decide +kernel
theorem dX12_findMust_56 : decode cX12_findMust 56 = .ok (.iaload, 1) := by decide +kernel
theorem dX12_findMust_57 : decode cX12_findMust 57 = .ok (.iadd, 1) := by decide +kernel
theorem dX12_findMust_58 : decode cX12_findMust 58 = .ok (.baload, 1) := by decide +kernel
theorem dX12_findMust_59 : decode cX12_findMust 59 = .ok (.ifCond .eq 9, 3) := by decide +kernel
theorem dX12_findMust_62 : decode cX12_findMust 62 = .ok (.iconst 1, 1) := by decide +kernel
theorem dX12_findMust_63 : decode cX12_findMust 63 = .ok (.iload_n 2, 1) := by decide +kernel
theorem dX12_findMust_64 : decode cX12_findMust 64 = .ok (.ishl, 1) := by decide +kernel
theorem dX12_findMust_65 : decode cX12_findMust 65 = .ok (.goto 4, 3) := by decide +kernel
theorem dX12_findMust_68 : decode cX12_findMust 68 = .ok (.iconst 0, 1) := by decide +kernel
theorem dX12_findMust_69 : decode cX12_findMust 69 = .ok (.ior, 1) := by decide +kernel
theorem dX12_findMust_70 : decode cX12_findMust 70 = .ok (.iastore, 1) := by decide +kernel
theorem dX12_findMust_71 : decode cX12_findMust 71 = .ok (.iinc 2 1, 3) := by decide +kernel
theorem dX12_findMust_74 : decode cX12_findMust 74 = .ok (.goto (-50), 3) := by decide +kernel
theorem dX12_findMust_77 : decode cX12_findMust 77 = .ok (.iinc 1 1, 3) := by decide +kernel
theorem dX12_findMust_80 : decode cX12_findMust 80 = .ok (.goto (-78), 3) := by decide +kernel
theorem dX12_findMust_83 : decode cX12_findMust 83 = .ok (.iconst 0, 1) := by decide +kernel
theorem dX12_findMust_84 : decode cX12_findMust 84 = .ok (.istore_n 1, 1) := by decide +kernel
theorem dX12_findMust_85 : decode cX12_findMust 85 = .ok (.iload_n 1, 1) := by decide +kernel
theorem dX12_findMust_86 : decode cX12_findMust 86 = .ok (.aload_n 0, 1) := by decide +kernel
theorem dX12_findMust_87 : decode cX12_findMust 87 = .ok (.getfield 141, 3) := by decide +kernel
theorem dX12_findMust_90 : decode cX12_findMust 90 = .ok (.if_icmp .ge 57, 3) := by decide +kernel
theorem dX12_findMust_93 : decode cX12_findMust 93 = .ok (.iconst 0, 1) := by decide +kernel
theorem dX12_findMust_94 : decode cX12_findMust 94 = .ok (.istore_n 2, 1) := by decide +kernel
theorem dX12_findMust_95 : decode cX12_findMust 95 = .ok (.iload_n 2, 1) := by decide +kernel
theorem dX12_findMust_96 : decode cX12_findMust 96 = .ok (.aload_n 0, 1) := by decide +kernel
theorem dX12_findMust_97 : decode cX12_findMust 97 = .ok (.getfield 141, 3) := by decide +kernel
theorem dX12_findMust_100 : decode cX12_findMust 100 = .ok (.if_icmp .ge 41, 3) := by decide +kernel
theorem dX12_findMust_103 : decode cX12_findMust 103 = .ok (.aload_n 0, 1) := by decide +kernel
theorem dX12_findMust_104 : decode cX12_findMust 104 = .ok (.getfield 31, 3) := by decide +kernel
theorem dX12_findMust_107 : decode cX12_findMust 107 = .ok (.iload_n 2, 1) := by decide +kernel
theorem dX12_findMust_108 : decode cX12_findMust 108 = .ok (.dup2, 1) := by decide +kernel
theorem dX12_findMust_109 : decode cX12_findMust 109 = .ok (.iaload, 1) := by decide +kernel
theorem dX12_findMust_110 : decode cX12_findMust 110 = .ok (.aload_n 0, 1) := by decide +kernel
theorem dX12_findMust_111 : decode cX12_findMust 111 = .ok (.getfield 31, 3) := by decide +kernel
theorem dX12_findMust_114 : decode cX12_findMust 114 = .ok (.iload_n 2, 1) := by decide +kernel
theorem dX12_findMust_115 : decode cX12_findMust 115 = .ok (.iaload, 1) := by decide +kernel
theorem dX12_findMust_116 : decode cX12_findMust 116 = .ok (.iload_n 1, 1) := by decide +kernel
theorem dX12_findMust_117 : decode cX12_findMust 117 = .ok (.invokestatic 189, 3) := by decide +kernel
theorem dX12_findMust_120 : decode cX12_findMust 120 = .ok (.ifCond .eq 12, 3) := by decide +kernel
theorem dX12_findMust_123 : decode cX12_findMust 123 = .ok (.aload_n 0, 1) := by decide +kernel
theorem dX12_findMust_124 : decode cX12_findMust 124 = .ok (.getfield 31, 3) := by decide +kernel
theorem dX12_findMust_127 : decode cX12_findMust 127 = .ok (.iload_n 1, 1) := by decide +kernel
theorem dX12_findMust_128 : decode cX12_findMust 128 = .ok (.iaload, 1) := by decide +kernel
theorem dX12_findMust_129 : decode cX12_findMust 129 = .ok (.goto 4, 3) := by decide +kernel
theorem dX12_findMust_132 : decode cX12_findMust 132 = .ok (.iconst 0, 1) := by decide +kernel
theorem dX12_findMust_133 : decode cX12_findMust 133 = .ok (.ior, 1) := by decide +kernel
theorem dX12_findMust_134 : decode cX12_findMust 134 = .ok (.iastore, 1) := by decide +kernel
theorem dX12_findMust_135 : decode cX12_findMust 135 = .ok (.iinc 2 1, 3) := by decide +kernel
theorem dX12_findMust_138 : decode cX12_findMust 138 = .ok (.goto (-43), 3) := by decide +kernel
theorem dX12_findMust_141 : decode cX12_findMust 141 = .ok (.iinc 1 1, 3) := by decide +kernel
theorem dX12_findMust_144 : decode cX12_findMust 144 = .ok (.goto (-59), 3) := by decide +kernel
theorem dX12_findMust_147 : decode cX12_findMust 147 = .ok (.iconst 1, 1) := by decide +kernel
theorem dX12_findMust_148 : decode cX12_findMust 148 = .ok (.istore_n 1, 1) := by decide +kernel
theorem dX12_findMust_149 : decode cX12_findMust 149 = .ok (.iconst 0, 1) := by decide +kernel
theorem dX12_findMust_150 : decode cX12_findMust 150 = .ok (.istore_n 2, 1) := by decide +kernel
theorem dX12_findMust_151 : decode cX12_findMust 151 = .ok (.iload_n 2, 1) := by decide +kernel
theorem dX12_findMust_152 : decode cX12_findMust 152 = .ok (.aload_n 0, 1) := by decide +kernel
theorem dX12_findMust_153 : decode cX12_findMust 153 = .ok (.getfield 141, 3) := by decide +kernel
theorem dX12_findMust_156 : decode cX12_findMust 156 = .ok (.if_icmp .ge 32, 3) := by decide +kernel
theorem dX12_findMust_159 : decode cX12_findMust 159 = .ok (.iload_n 1, 1) := by decide +kernel
theorem dX12_findMust_160 : decode cX12_findMust 160 = .ok (.ifCond .eq 20, 3) := by decide +kernel
theorem dX12_findMust_163 : decode cX12_findMust 163 = .ok (.aload_n 0, 1) := by decide +kernel
theorem dX12_findMust_164 : decode cX12_findMust 164 = .ok (.getfield 31, 3) := by decide +kernel
theorem dX12_findMust_167 : decode cX12_findMust 167 = .ok (.iload_n 2, 1) := by decide +kernel
theorem dX12_findMust_168 : decode cX12_findMust 168 = .ok (.iaload, 1) := by decide +kernel
theorem dX12_findMust_169 : decode cX12_findMust 169 = .ok (.iload_n 2, 1) := by decide +kernel
theorem dX12_findMust_170 : decode cX12_findMust 170 = .ok (.invokestatic 189, 3) := by decide +kernel
theorem dX12_findMust_173 : decode cX12_findMust 173 = .ok (.ifCond .ne 7, 3) := by decide +kernel
theorem dX12_findMust_176 : decode cX12_findMust 176 = .ok (.iconst 1, 1) := by decide +kernel
theorem dX12_findMust_177 : decode cX12_findMust 177 = .ok (.goto 4, 3) := by decide +kernel
theorem dX12_findMust_180 : decode cX12_findMust 180 = .ok (.iconst 0, 1) := by decide +kernel
theorem dX12_findMust_181 : decode cX12_findMust 181 = .ok (.istore_n 1, 1) := by decide +kernel
theorem dX12_findMust_182 : decode cX12_findMust 182 = .ok (.iinc 2 1, 3) := by decide +kernel
theorem dX12_findMust_185 : decode cX12_findMust 185 = .ok (.goto (-34), 3) := by decide +kernel
theorem dX12_findMust_188 : decode cX12_findMust 188 = .ok (.aload_n 0, 1) := by decide +kernel
theorem dX12_findMust_189 : decode cX12_findMust 189 = .ok (.iconst 0, 1) := by decide +kernel
theorem dX12_findMust_190 : decode cX12_findMust 190 = .ok (.putfield 277, 3) := by decide +kernel
theorem dX12_findMust_193 : decode cX12_findMust 193 = .ok (.iload_n 1, 1) := by decide +kernel
theorem dX12_findMust_194 : decode cX12_findMust 194 = .ok (.ireturn, 1) := by decide +kernel
theorem dX12_behind_0 : decode cX12_behind 0 = .ok (.iconst 0, 1) := by decide +kernel
theorem dX12_behind_1 : decode cX12_behind 1 = .ok (.istore_n 2, 1) := by decide +kernel
theorem dX12_behind_2 : decode cX12_behind 2 = .ok (.iconst 0, 1) := by decide +kernel
theorem dX12_behind_3 : decode cX12_behind 3 = .ok (.istore_n 3, 1) := by decide +kernel
theorem dX12_behind_4 : decode cX12_behind 4 = .ok (.iload_n 3, 1) := by decide +kernel
theorem dX12_behind_5 : decode cX12_behind 5 = .ok (.aload_n 0, 1) := by decide +kernel
theorem dX12_behind_6 : decode cX12_behind 6 = .ok (.getfield 141, 3) := by decide +kernel
theorem dX12_behind_9 : decode cX12_behind 9 = .ok (.if_icmp .ge 32, 3) := by decide +kernel
theorem dX12_behind_12 : decode cX12_behind 12 = .ok (.iload_n 2, 1) := by decide +kernel
theorem dX12_behind_13 : decode cX12_behind 13 = .ok (.aload_n 0, 1) := by decide +kernel
theorem dX12_behind_14 : decode cX12_behind 14 = .ok (.getfield 31, 3) := by decide +kernel
theorem dX12_behind_17 : decode cX12_behind 17 = .ok (.iload_n 3, 1) := by decide +kernel
theorem dX12_behind_18 : decode cX12_behind 18 = .ok (.iaload, 1) := by decide +kernel
theorem dX12_behind_19 : decode cX12_behind 19 = .ok (.iload_n 1, 1) := by decide +kernel
theorem dX12_behind_20 : decode cX12_behind 20 = .ok (.invokestatic 189, 3) := by decide +kernel
theorem dX12_behind_23 : decode cX12_behind 23 = .ok (.ifCond .eq 9, 3) := by decide +kernel
theorem dX12_behind_26 : decode cX12_behind 26 = .ok (.iconst 1, 1) := by decide +kernel
theorem dX12_behind_27 : decode cX12_behind 27 = .ok (.iload_n 3, 1) := by decide +kernel
theorem dX12_behind_28 : decode cX12_behind 28 = .ok (.ishl, 1) := by decide +kernel
theorem dX12_behind_29 : decode cX12_behind 29 = .ok (.goto 4, 3) := by decide +kernel
theorem dX12_behind_32 : decode cX12_behind 32 = .ok (.iconst 0, 1) := by decide +kernel
theorem dX12_behind_33 : decode cX12_behind 33 = .ok (.ior, 1) := by decide +kernel
theorem dX12_behind_34 : decode cX12_behind 34 = .ok (.istore_n 2, 1) := by decide +kernel
theorem dX12_behind_35 : decode cX12_behind 35 = .ok (.iinc 3 1, 3) := by decide +kernel
theorem dX12_behind_38 : decode cX12_behind 38 = .ok (.goto (-34), 3) := by decide +kernel
theorem dX12_behind_41 : decode cX12_behind 41 = .ok (.iload_n 2, 1) := by decide +kernel
theorem dX12_behind_42 : decode cX12_behind 42 = .ok (.ireturn, 1) := by decide +kernel
theorem dX12_mark_0 : decode cX12_mark 0 = .ok (.aload_n 0, 1) := by decide +kernel
theorem dX12_mark_1 : decode cX12_mark 1 = .ok (.iload_n 1, 1) := by decide +kernel
theorem dX12_mark_2 : decode cX12_mark 2 = .ok (.invokevirtual 280, 3) := by decide +kernel
theorem dX12_mark_5 : decode cX12_mark 5 = .ok (.ifCond .ne 7, 3) := by decide +kernel
theorem dX12_mark_8 : decode cX12_mark 8 = .ok (.sipush (-1001), 3) := by decide +kernel
theorem dX12_mark_11 : decode cX12_mark 11 = .ok (.ireturn, 1) := by decide +kernel
theorem dX12_mark_12 : decode cX12_mark 12 = .ok (.iload_n 2, 1) := by decide +kernel
theorem dX12_mark_13 : decode cX12_mark 13 = .ok (.tableswitch 80 0 5 #[39, 46, 53, 60, 66, 73], 39) := by decide +kernel
theorem dX12_mark_52 : decode cX12_mark 52 = .ok (.aload_n 0, 1) := by decide +kernel
theorem dX12_mark_53 : decode cX12_mark 53 = .ok (.getfield 22, 3) := by decide +kernel
theorem dX12_mark_56 : decode cX12_mark 56 = .ok (.iload_n 1, 1) := by decide +kernel
theorem dX12_mark_57 : decode cX12_mark 57 = .ok (.iaload, 1) := by decide +kernel
theorem dX12_mark_58 : decode cX12_mark 58 = .ok (.ireturn, 1) := by decide +kernel
theorem dX12_mark_59 : decode cX12_mark 59 = .ok (.aload_n 0, 1) := by decide +kernel
theorem dX12_mark_60 : decode cX12_mark 60 = .ok (.getfield 25, 3) := by decide +kernel
theorem dX12_mark_63 : decode cX12_mark 63 = .ok (.iload_n 1, 1) := by decide +kernel
theorem dX12_mark_64 : decode cX12_mark 64 = .ok (.iaload, 1) := by decide +kernel
theorem dX12_mark_65 : decode cX12_mark 65 = .ok (.ireturn, 1) := by decide +kernel
theorem dX12_mark_66 : decode cX12_mark 66 = .ok (.aload_n 0, 1) := by decide +kernel
theorem dX12_mark_67 : decode cX12_mark 67 = .ok (.getfield 31, 3) := by decide +kernel
theorem dX12_mark_70 : decode cX12_mark 70 = .ok (.iload_n 1, 1) := by decide +kernel
theorem dX12_mark_71 : decode cX12_mark 71 = .ok (.iaload, 1) := by decide +kernel
theorem dX12_mark_72 : decode cX12_mark 72 = .ok (.ireturn, 1) := by decide +kernel
theorem dX12_mark_73 : decode cX12_mark 73 = .ok (.aload_n 0, 1) := by decide +kernel
theorem dX12_mark_74 : decode cX12_mark 74 = .ok (.iload_n 1, 1) := by decide +kernel
theorem dX12_mark_75 : decode cX12_mark 75 = .ok (.invokevirtual 284, 3) := by decide +kernel
theorem dX12_mark_78 : decode cX12_mark 78 = .ok (.ireturn, 1) := by decide +kernel
theorem dX12_mark_79 : decode cX12_mark 79 = .ok (.aload_n 0, 1) := by decide +kernel
theorem dX12_mark_80 : decode cX12_mark 80 = .ok (.getfield 34, 3) := by decide +kernel
theorem dX12_mark_83 : decode cX12_mark 83 = .ok (.iload_n 1, 1) := by decide +kernel
theorem dX12_mark_84 : decode cX12_mark 84 = .ok (.iaload, 1) := by decide +kernel
theorem dX12_mark_85 : decode cX12_mark 85 = .ok (.ireturn, 1) := by decide +kernel
theorem dX12_mark_86 : decode cX12_mark 86 = .ok (.aload_n 0, 1) := by decide +kernel
theorem dX12_mark_87 : decode cX12_mark 87 = .ok (.getfield 37, 3) := by decide +kernel
theorem dX12_mark_90 : decode cX12_mark 90 = .ok (.iload_n 1, 1) := by decide +kernel
theorem dX12_mark_91 : decode cX12_mark 91 = .ok (.iaload, 1) := by decide +kernel
theorem dX12_mark_92 : decode cX12_mark 92 = .ok (.ireturn, 1) := by decide +kernel
theorem dX12_mark_93 : decode cX12_mark 93 = .ok (.sipush (-1002), 3) := by decide +kernel
theorem dX12_mark_96 : decode cX12_mark 96 = .ok (.ireturn, 1) := by decide +kernel
theorem dX12_isInk_0 : decode cX12_isInk 0 = .ok (.iload_n 0, 1) := by decide +kernel
theorem dX12_isInk_1 : decode cX12_isInk 1 = .ok (.i2l, 1) := by decide +kernel
theorem dX12_isInk_2 : decode cX12_isInk 2 = .ok (.lconst 0, 1) := by decide +kernel
theorem dX12_isInk_3 : decode cX12_isInk 3 = .ok (.ldc2_w 287, 3) := by decide +kernel
theorem dX12_isInk_6 : decode cX12_isInk 6 = .ok (.invokestatic 144, 3) := by decide +kernel
theorem dX12_isInk_9 : decode cX12_isInk 9 = .ok (.ireturn, 1) := by decide +kernel
theorem dX12_ink_0 : decode cX12_ink 0 = .ok (.aload_n 0, 1) := by decide +kernel
theorem dX12_ink_1 : decode cX12_ink 1 = .ok (.iload_n 1, 1) := by decide +kernel
theorem dX12_ink_2 : decode cX12_ink 2 = .ok (.invokevirtual 280, 3) := by decide +kernel
theorem dX12_ink_5 : decode cX12_ink 5 = .ok (.ifCond .eq 10, 3) := by decide +kernel
theorem dX12_ink_8 : decode cX12_ink 8 = .ok (.iload_n 2, 1) := by decide +kernel
theorem dX12_ink_9 : decode cX12_ink 9 = .ok (.invokestatic 289, 3) := by decide +kernel
theorem dX12_ink_12 : decode cX12_ink 12 = .ok (.ifCond .ne 7, 3) := by decide +kernel
theorem dX12_ink_15 : decode cX12_ink 15 = .ok (.sipush (-1001), 3) := by decide +kernel
theorem dX12_ink_18 : decode cX12_ink 18 = .ok (.ireturn, 1) := by decide +kernel
theorem dX12_ink_19 : decode cX12_ink 19 = .ok (.aload_n 0, 1) := by decide +kernel
theorem dX12_ink_20 : decode cX12_ink 20 = .ok (.getfield 25, 3) := by decide +kernel
theorem dX12_ink_23 : decode cX12_ink 23 = .ok (.iload_n 1, 1) := by decide +kernel
theorem dX12_ink_24 : decode cX12_ink 24 = .ok (.iaload, 1) := by decide +kernel
theorem dX12_ink_25 : decode cX12_ink 25 = .ok (.istore_n 3, 1) := by decide +kernel
theorem dX12_ink_26 : decode cX12_ink 26 = .ok (.aload_n 0, 1) := by decide +kernel
theorem dX12_ink_27 : decode cX12_ink 27 = .ok (.getfield 25, 3) := by decide +kernel
theorem dX12_ink_30 : decode cX12_ink 30 = .ok (.iload_n 1, 1) := by decide +kernel
theorem dX12_ink_31 : decode cX12_ink 31 = .ok (.iload_n 2, 1) := by decide +kernel
theorem dX12_ink_32 : decode cX12_ink 32 = .ok (.iastore, 1) := by decide +kernel
theorem dX12_ink_33 : decode cX12_ink 33 = .ok (.aload_n 0, 1) := by decide +kernel
theorem dX12_ink_34 : decode cX12_ink 34 = .ok (.invokevirtual 137, 3) := by decide +kernel
theorem dX12_ink_37 : decode cX12_ink 37 = .ok (.ifCond .ne 27, 3) := by decide +kernel
theorem dX12_ink_40 : decode cX12_ink 40 = .ok (.aload_n 0, 1) := by decide +kernel
theorem dX12_ink_41 : decode cX12_ink 41 = .ok (.getfield 25, 3) := by decide +kernel
theorem dX12_ink_44 : decode cX12_ink 44 = .ok (.iload_n 1, 1) := by decide +kernel
theorem dX12_ink_45 : decode cX12_ink 45 = .ok (.iload_n 3, 1) := by decide +kernel
theorem dX12_ink_46 : decode cX12_ink 46 = .ok (.iastore, 1) := by decide +kernel
theorem dX12_ink_47 : decode cX12_ink 47 = .ok (.aload_n 0, 1) := by decide +kernel
theorem dX12_ink_48 : decode cX12_ink 48 = .ok (.invokevirtual 137, 3) := by decide +kernel
theorem dX12_ink_51 : decode cX12_ink 51 = .ok (.ifCond .eq 9, 3) := by decide +kernel
theorem dX12_ink_54 : decode cX12_ink 54 = .ok (.sipush (-1003), 3) := by decide +kernel
theorem dX12_ink_57 : decode cX12_ink 57 = .ok (.goto 6, 3) := by decide +kernel
theorem dX12_ink_60 : decode cX12_ink 60 = .ok (.sipush (-1001), 3) := by decide +kernel
theorem dX12_ink_63 : decode cX12_ink 63 = .ok (.ireturn, 1) := by decide +kernel
theorem dX12_ink_64 : decode cX12_ink 64 = .ok (.iload_n 3, 1) := by decide +kernel
theorem dX12_ink_65 : decode cX12_ink 65 = .ok (.ireturn, 1) := by decide +kernel
theorem dX12_earlier_0 : decode cX12_earlier 0 = .ok (.iload_n 1, 1) := by decide +kernel
theorem dX12_earlier_1 : decode cX12_earlier 1 = .ok (.invokestatic 289, 3) := by decide +kernel
theorem dX12_earlier_4 : decode cX12_earlier 4 = .ok (.ifCond .eq 15, 3) := by decide +kernel
theorem dX12_earlier_7 : decode cX12_earlier 7 = .ok (.iload_n 2, 1) := by decide +kernel
theorem dX12_earlier_8 : decode cX12_earlier 8 = .ok (.invokestatic 289, 3) := by decide +kernel
theorem dX12_earlier_11 : decode cX12_earlier 11 = .ok (.ifCond .eq 8, 3) := by decide +kernel
theorem dX12_earlier_14 : decode cX12_earlier 14 = .ok (.iload_n 1, 1) := by decide +kernel
theorem dX12_earlier_15 : decode cX12_earlier 15 = .ok (.iload_n 2, 1) := by decide +kernel
theorem dX12_earlier_16 : decode cX12_earlier 16 = .ok (.if_icmp .ne 7, 3) := by decide +kernel
theorem dX12_earlier_19 : decode cX12_earlier 19 = .ok (.sipush (-1001), 3) := by decide +kernel
theorem dX12_earlier_22 : decode cX12_earlier 22 = .ok (.ireturn, 1) := by decide +kernel
theorem dX12_earlier_23 : decode cX12_earlier 23 = .ok (.aload_n 0, 1) := by decide +kernel
theorem dX12_earlier_24 : decode cX12_earlier 24 = .ok (.getfield 43, 3) := by decide +kernel
theorem dX12_earlier_27 : decode cX12_earlier 27 = .ok (.iconst 4, 1) := by decide +kernel
theorem dX12_earlier_28 : decode cX12_earlier 28 = .ok (.iload_n 1, 1) := by decide +kernel
theorem dX12_earlier_29 : decode cX12_earlier 29 = .ok (.imul, 1) := by decide +kernel
theorem dX12_earlier_30 : decode cX12_earlier 30 = .ok (.iload_n 2, 1) := by decide +kernel
theorem dX12_earlier_31 : decode cX12_earlier 31 = .ok (.iadd, 1) := by decide +kernel
theorem dX12_earlier_32 : decode cX12_earlier 32 = .ok (.baload, 1) := by decide +kernel
theorem dX12_earlier_33 : decode cX12_earlier 33 = .ok (.istore 4, 2) := by decide +kernel
theorem dX12_earlier_35 : decode cX12_earlier 35 = .ok (.aload_n 0, 1) := by decide +kernel
theorem dX12_earlier_36 : decode cX12_earlier 36 = .ok (.getfield 43, 3) := by decide +kernel
theorem dX12_earlier_39 : decode cX12_earlier 39 = .ok (.iconst 4, 1) := by decide +kernel
theorem dX12_earlier_40 : decode cX12_earlier 40 = .ok (.iload_n 1, 1) := by decide +kernel
theorem dX12_earlier_41 : decode cX12_earlier 41 = .ok (.imul, 1) := by decide +kernel
theorem dX12_earlier_42 : decode cX12_earlier 42 = .ok (.iload_n 2, 1) := by decide +kernel
theorem dX12_earlier_43 : decode cX12_earlier 43 = .ok (.iadd, 1) := by decide +kernel
theorem dX12_earlier_44 : decode cX12_earlier 44 = .ok (.iload_n 3, 1) := by decide +kernel
theorem dX12_earlier_45 : decode cX12_earlier 45 = .ok (.bastore, 1) := by decide +kernel
theorem dX12_earlier_46 : decode cX12_earlier 46 = .ok (.aload_n 0, 1) := by decide +kernel
theorem dX12_earlier_47 : decode cX12_earlier 47 = .ok (.invokevirtual 137, 3) := by decide +kernel
theorem dX12_earlier_50 : decode cX12_earlier 50 = .ok (.ifCond .ne 32, 3) := by decide +kernel
theorem dX12_earlier_53 : decode cX12_earlier 53 = .ok (.aload_n 0, 1) := by decide +kernel
theorem dX12_earlier_54 : decode cX12_earlier 54 = .ok (.getfield 43, 3) := by decide +kernel
theorem dX12_earlier_57 : decode cX12_earlier 57 = .ok (.iconst 4, 1) := by decide +kernel
theorem dX12_earlier_58 : decode cX12_earlier 58 = .ok (.iload_n 1, 1) := by decide +kernel
theorem dX12_earlier_59 : decode cX12_earlier 59 = .ok (.imul, 1) := by decide +kernel
theorem dX12_earlier_60 : decode cX12_earlier 60 = .ok (.iload_n 2, 1) := by decide +kernel
theorem dX12_earlier_61 : decode cX12_earlier 61 = .ok (.iadd, 1) := by decide +kernel
theorem dX12_earlier_62 : decode cX12_earlier 62 = .ok (.iload 4, 2) := by decide +kernel
theorem dX12_earlier_64 : decode cX12_earlier 64 = .ok (.bastore, 1) := by decide +kernel
theorem dX12_earlier_65 : decode cX12_earlier 65 = .ok (.aload_n 0, 1) := by decide +kernel
theorem dX12_earlier_66 : decode cX12_earlier 66 = .ok (.invokevirtual 137, 3) := by decide +kernel
theorem dX12_earlier_69 : decode cX12_earlier 69 = .ok (.ifCond .eq 9, 3) := by decide +kernel
theorem dX12_earlier_72 : decode cX12_earlier 72 = .ok (.sipush (-1003), 3) := by decide +kernel
theorem dX12_earlier_75 : decode cX12_earlier 75 = .ok (.goto 6, 3) := by decide +kernel
theorem dX12_earlier_78 : decode cX12_earlier 78 = .ok (.sipush (-1001), 3) := by decide +kernel
theorem dX12_earlier_81 : decode cX12_earlier 81 = .ok (.ireturn, 1) := by decide +kernel
theorem dX12_earlier_82 : decode cX12_earlier 82 = .ok (.iload 4, 2) := by decide +kernel
theorem dX12_earlier_84 : decode cX12_earlier 84 = .ok (.ifCond .eq 7, 3) := by decide +kernel
theorem dX12_earlier_87 : decode cX12_earlier 87 = .ok (.iconst 1, 1) := by decide +kernel
theorem dX12_earlier_88 : decode cX12_earlier 88 = .ok (.goto 4, 3) := by decide +kernel
theorem dX12_earlier_91 : decode cX12_earlier 91 = .ok (.iconst 0, 1) := by decide +kernel
theorem dX12_earlier_92 : decode cX12_earlier 92 = .ok (.ireturn, 1) := by decide +kernel
theorem dX12_count_0 : decode cX12_count 0 = .ok (.iconst 0, 1) := by decide +kernel
theorem dX12_count_1 : decode cX12_count 1 = .ok (.istore_n 2, 1) := by decide +kernel
theorem dX12_count_2 : decode cX12_count 2 = .ok (.iconst 0, 1) := by decide +kernel
theorem dX12_count_3 : decode cX12_count 3 = .ok (.istore_n 3, 1) := by decide +kernel
theorem dX12_count_4 : decode cX12_count 4 = .ok (.iload_n 3, 1) := by decide +kernel
theorem dX12_count_5 : decode cX12_count 5 = .ok (.aload_n 0, 1) := by decide +kernel
theorem dX12_count_6 : decode cX12_count 6 = .ok (.getfield 141, 3) := by decide +kernel
theorem dX12_count_9 : decode cX12_count 9 = .ok (.if_icmp .ge 20, 3) := by decide +kernel
theorem dX12_count_12 : decode cX12_count 12 = .ok (.iload_n 2, 1) := by decide +kernel
theorem dX12_count_13 : decode cX12_count 13 = .ok (.iconst 1, 1) := by decide +kernel
theorem dX12_count_14 : decode cX12_count 14 = .ok (.aload_n 0, 1) := by decide +kernel
theorem dX12_count_15 : decode cX12_count 15 = .ok (.getfield 25, 3) := by decide +kernel
theorem dX12_count_18 : decode cX12_count 18 = .ok (.iload_n 3, 1) := by decide +kernel
theorem dX12_count_19 : decode cX12_count 19 = .ok (.iaload, 1) := by decide +kernel
theorem dX12_count_20 : decode cX12_count 20 = .ok (.ishl, 1) := by decide +kernel
theorem dX12_count_21 : decode cX12_count 21 = .ok (.ior, 1) := by decide +kernel
theorem dX12_count_22 : decode cX12_count 22 = .ok (.istore_n 2, 1) := by decide +kernel
theorem dX12_count_23 : decode cX12_count 23 = .ok (.iinc 3 1, 3) := by decide +kernel
theorem dX12_count_26 : decode cX12_count 26 = .ok (.goto (-22), 3) := by decide +kernel
theorem dX12_count_29 : decode cX12_count 29 = .ok (.iload_n 1, 1) := by decide +kernel
theorem dX12_count_30 : decode cX12_count 30 = .ok (.tableswitch 86 0 7 #[46, 51, 56, 61, 66, 71, 76, 81], 46) := by decide +kernel
theorem dX12_count_76 : decode cX12_count 76 = .ok (.aload_n 0, 1) := by decide +kernel
theorem dX12_count_77 : decode cX12_count 77 = .ok (.getfield 141, 3) := by decide +kernel
theorem dX12_count_80 : decode cX12_count 80 = .ok (.ireturn, 1) := by decide +kernel
theorem dX12_count_81 : decode cX12_count 81 = .ok (.aload_n 0, 1) := by decide +kernel
theorem dX12_count_82 : decode cX12_count 82 = .ok (.getfield 246, 3) := by decide +kernel
theorem dX12_count_85 : decode cX12_count 85 = .ok (.ireturn, 1) := by decide +kernel
theorem dX12_count_86 : decode cX12_count 86 = .ok (.aload_n 0, 1) := by decide +kernel
theorem dX12_count_87 : decode cX12_count 87 = .ok (.getfield 154, 3) := by decide +kernel
theorem dX12_count_90 : decode cX12_count 90 = .ok (.ireturn, 1) := by decide +kernel
theorem dX12_count_91 : decode cX12_count 91 = .ok (.aload_n 0, 1) := by decide +kernel
theorem dX12_count_92 : decode cX12_count 92 = .ok (.getfield 292, 3) := by decide +kernel
theorem dX12_count_95 : decode cX12_count 95 = .ok (.ireturn, 1) := by decide +kernel
theorem dX12_count_96 : decode cX12_count 96 = .ok (.aload_n 0, 1) := by decide +kernel
theorem dX12_count_97 : decode cX12_count 97 = .ok (.getfield 295, 3) := by decide +kernel
theorem dX12_count_100 : decode cX12_count 100 = .ok (.ireturn, 1) := by decide +kernel
theorem dX12_count_101 : decode cX12_count 101 = .ok (.aload_n 0, 1) := by decide +kernel
theorem dX12_count_102 : decode cX12_count 102 = .ok (.getfield 298, 3) := by decide +kernel
theorem dX12_count_105 : decode cX12_count 105 = .ok (.ireturn, 1) := by decide +kernel
theorem dX12_count_106 : decode cX12_count 106 = .ok (.iload_n 2, 1) := by decide +kernel
theorem dX12_count_107 : decode cX12_count 107 = .ok (.invokestatic 301, 3) := by decide +kernel
theorem dX12_count_110 : decode cX12_count 110 = .ok (.ireturn, 1) := by decide +kernel
theorem dX12_count_111 : decode cX12_count 111 = .ok (.aload_n 0, 1) := by decide +kernel
theorem dX12_count_112 : decode cX12_count 112 = .ok (.invokevirtual 304, 3) := by decide +kernel
theorem dX12_count_115 : decode cX12_count 115 = .ok (.ireturn, 1) := by decide +kernel
theorem dX12_count_116 : decode cX12_count 116 = .ok (.sipush (-1002), 3) := by decide +kernel
theorem dX12_count_119 : decode cX12_count 119 = .ok (.ireturn, 1) := by decide +kernel
theorem dX12_find_0 : decode cX12_find 0 = .ok (.aload_n 0, 1) := by decide +kernel
theorem dX12_find_1 : decode cX12_find 1 = .ok (.getfield 277, 3) := by decide +kernel
theorem dX12_find_4 : decode cX12_find 4 = .ok (.ifCond .eq 4, 3) := by decide +kernel
theorem dX12_find_7 : decode cX12_find 7 = .ok (.return_, 1) := by decide +kernel
theorem dX12_find_8 : decode cX12_find 8 = .ok (.iconst 0, 1) := by decide +kernel
theorem dX12_find_9 : decode cX12_find 9 = .ok (.istore_n 1, 1) := by decide +kernel
theorem dX12_find_10 : decode cX12_find 10 = .ok (.iload_n 1, 1) := by decide +kernel
theorem dX12_find_11 : decode cX12_find 11 = .ok (.aload_n 0, 1) := by decide +kernel
theorem dX12_find_12 : decode cX12_find 12 = .ok (.invokevirtual 148, 3) := by decide +kernel
theorem dX12_find_15 : decode cX12_find 15 = .ok (.if_icmp .gt 133, 3) := by decide +kernel
theorem dX12_find_18 : decode cX12_find 18 = .ok (.aload_n 0, 1) := by decide +kernel
theorem dX12_find_19 : decode cX12_find 19 = .ok (.getfield 75, 3) := by decide +kernel
theorem dX12_find_22 : decode cX12_find 22 = .ok (.iload_n 1, 1) := by decide +kernel
theorem dX12_find_23 : decode cX12_find 23 = .ok (.iconst 1, 1) := by decide +kernel
theorem dX12_find_24 : decode cX12_find 24 = .ok (.bastore, 1) := by decide +kernel
theorem dX12_find_25 : decode cX12_find 25 = .ok (.aload_n 0, 1) := by decide +kernel
theorem dX12_find_26 : decode cX12_find 26 = .ok (.getfield 78, 3) := by decide +kernel
theorem dX12_find_29 : decode cX12_find 29 = .ok (.iload_n 1, 1) := by decide +kernel
theorem dX12_find_30 : decode cX12_find 30 = .ok (.iconst 0, 1) := by decide +kernel
theorem dX12_find_31 : decode cX12_find 31 = .ok (.iastore, 1) := by decide +kernel
theorem dX12_find_32 : decode cX12_find 32 = .ok (.aload_n 0, 1) := by decide +kernel
theorem dX12_find_33 : decode cX12_find 33 = .ok (.getfield 81, 3) := by decide +kernel
theorem dX12_find_36 : decode cX12_find 36 = .ok (.iload_n 1, 1) := by decide +kernel
theorem dX12_find_37 : decode cX12_find 37 = .ok (.iload_n 1, 1) := by decide +kernel
theorem dX12_find_38 : decode cX12_find 38 = .ok (.ifCond .ne 7, 3) := by decide +kernel
theorem dX12_find_41 : decode cX12_find 41 = .ok (.lconst 1, 1) := by decide +kernel
theorem dX12_find_42 : decode cX12_find 42 = .ok (.goto 4, 3) := by decide +kernel
theorem dX12_find_45 : decode cX12_find 45 = .ok (.lconst 0, 1) := by decide +kernel
theorem dX12_find_46 : decode cX12_find 46 = .ok (.lastore, 1) := by decide +kernel
theorem dX12_find_47 : decode cX12_find 47 = .ok (.iconst 0, 1) := by decide +kernel
theorem dX12_find_48 : decode cX12_find 48 = .ok (.istore_n 2, 1) := by decide +kernel
theorem dX12_find_49 : decode cX12_find 49 = .ok (.iload_n 2, 1) := by decide +kernel
theorem dX12_find_50 : decode cX12_find 50 = .ok (.aload_n 0, 1) := by decide +kernel
theorem dX12_find_51 : decode cX12_find 51 = .ok (.getfield 141, 3) := by decide +kernel
theorem dX12_find_54 : decode cX12_find 54 = .ok (.if_icmp .ge 88, 3) := by decide +kernel
theorem dX12_find_57 : decode cX12_find 57 = .ok (.aload_n 0, 1) := by decide +kernel
theorem dX12_find_58 : decode cX12_find 58 = .ok (.getfield 31, 3) := by decide +kernel
theorem dX12_find_61 : decode cX12_find 61 = .ok (.iload_n 2, 1) := by decide +kernel
theorem dX12_find_62 : decode cX12_find 62 = .ok (.iaload, 1) := by decide +kernel
theorem dX12_find_63 : decode cX12_find 63 = .ok (.iload_n 1, 1) := by decide +kernel
theorem dX12_find_64 : decode cX12_find 64 = .ok (.iconst (-1), 1) := by decide +kernel
theorem dX12_find_65 : decode cX12_find 65 = .ok (.ixor, 1) := by decide +kernel
theorem dX12_find_66 : decode cX12_find 66 = .ok (.iand, 1) := by decide +kernel
theorem dX12_find_67 : decode cX12_find 67 = .ok (.ifCond .ne 7, 3) := by decide +kernel
theorem dX12_find_70 : decode cX12_find 70 = .ok (.iconst 1, 1) := by decide +kernel
theorem dX12_find_71 : decode cX12_find 71 = .ok (.goto 4, 3) := by decide +kernel
theorem dX12_find_74 : decode cX12_find 74 = .ok (.iconst 0, 1) := by decide +kernel
theorem dX12_find_75 : decode cX12_find 75 = .ok (.istore_n 3, 1) := by decide +kernel
theorem dX12_find_76 : decode cX12_find 76 = .ok (.aload_n 0, 1) := by decide +kernel
theorem dX12_find_77 : decode cX12_find 77 = .ok (.getfield 75, 3) := by decide +kernel
theorem dX12_find_80 : decode cX12_find 80 = .ok (.iload_n 1, 1) := by decide +kernel
theorem dX12_find_81 : decode cX12_find 81 = .ok (.aload_n 0, 1) := by decide +kernel
theorem dX12_find_82 : decode cX12_find 82 = .ok (.getfield 75, 3) := by decide +kernel
theorem dX12_find_85 : decode cX12_find 85 = .ok (.iload_n 1, 1) := by decide +kernel
theorem dX12_find_86 : decode cX12_find 86 = .ok (.baload, 1) := by decide +kernel
theorem dX12_find_87 : decode cX12_find 87 = .ok (.ifCond .eq 19, 3) := by decide +kernel
theorem dX12_find_90 : decode cX12_find 90 = .ok (.iload_n 1, 1) := by decide +kernel
theorem dX12_find_91 : decode cX12_find 91 = .ok (.iload_n 2, 1) := by decide +kernel
theorem dX12_find_92 : decode cX12_find 92 = .ok (.invokestatic 189, 3) := by decide +kernel
theorem dX12_find_95 : decode cX12_find 95 = .ok (.ifCond .eq 7, 3) := by decide +kernel
theorem dX12_find_98 : decode cX12_find 98 = .ok (.iload_n 3, 1) := by decide +kernel
theorem dX12_find_99 : decode cX12_find 99 = .ok (.ifCond .eq 7, 3) := by decide +kernel
theorem dX12_find_102 : decode cX12_find 102 = .ok (.iconst 1, 1) := by decide +kernel
theorem dX12_find_103 : decode cX12_find 103 = .ok (.goto 4, 3) := by decide +kernel
theorem dX12_find_106 : decode cX12_find 106 = .ok (.iconst 0, 1) := by decide +kernel
theorem dX12_find_107 : decode cX12_find 107 = .ok (.bastore, 1) := by decide +kernel
theorem dX12_find_108 : decode cX12_find 108 = .ok (.aload_n 0, 1) := by decide +kernel
theorem dX12_find_109 : decode cX12_find 109 = .ok (.getfield 78, 3) := by decide +kernel
theorem dX12_find_112 : decode cX12_find 112 = .ok (.iload_n 1, 1) := by decide +kernel
theorem dX12_find_113 : decode cX12_find 113 = .ok (.dup2, 1) := by decide +kernel
theorem dX12_find_114 : decode cX12_find 114 = .ok (.iaload, 1) := by decide +kernel
theorem dX12_find_115 : decode cX12_find 115 = .ok (.iload_n 1, 1) := by decide +kernel
theorem dX12_find_116 : decode cX12_find 116 = .ok (.iload_n 2, 1) := by decide +kernel
theorem dX12_find_117 : decode cX12_find 117 = .ok (.invokestatic 189, 3) := by decide +kernel
theorem dX12_find_120 : decode cX12_find 120 = .ok (.ifCond .ne 13, 3) := by decide +kernel
theorem dX12_find_123 : decode cX12_find 123 = .ok (.iload_n 3, 1) := by decide +kernel
theorem dX12_find_124 : decode cX12_find 124 = .ok (.ifCond .eq 9, 3) := by decide +kernel
theorem dX12_find_127 : decode cX12_find 127 = .ok (.iconst 1, 1) := by decide +kernel
theorem dX12_find_128 : decode cX12_find 128 = .ok (.iload_n 2, 1) := by decide +kernel
theorem dX12_find_129 : decode cX12_find 129 = .ok (.ishl, 1) := by decide +kernel
theorem dX12_find_130 : decode cX12_find 130 = .ok (.goto 4, 3) := by decide +kernel
theorem dX12_find_133 : decode cX12_find 133 = .ok (.iconst 0, 1) := by decide +kernel
theorem dX12_find_134 : decode cX12_find 134 = .ok (.ior, 1) := by decide +kernel
theorem dX12_find_135 : decode cX12_find 135 = .ok (.iastore, 1) := by decide +kernel
theorem dX12_find_136 : decode cX12_find 136 = .ok (.iinc 2 1, 3) := by decide +kernel
theorem dX12_find_139 : decode cX12_find 139 = .ok (.goto (-90), 3) := by decide +kernel
theorem dX12_find_142 : decode cX12_find 142 = .ok (.iinc 1 1, 3) := by decide +kernel
theorem dX12_find_145 : decode cX12_find 145 = .ok (.goto (-135), 3) := by decide +kernel
theorem dX12_find_148 : decode cX12_find 148 = .ok (.iconst 0, 1) := by decide +kernel
theorem dX12_find_149 : decode cX12_find 149 = .ok (.istore_n 1, 1) := by decide +kernel
theorem dX12_find_150 : decode cX12_find 150 = .ok (.iload_n 1, 1) := by decide +kernel
theorem dX12_find_151 : decode cX12_find 151 = .ok (.aload_n 0, 1) := by decide +kernel
theorem dX12_find_152 : decode cX12_find 152 = .ok (.invokevirtual 148, 3) := by decide +kernel
theorem dX12_find_155 : decode cX12_find 155 = .ok (.if_icmp .gt 66, 3) := by decide +kernel
theorem dX12_find_158 : decode cX12_find 158 = .ok (.iconst 0, 1) := by decide +kernel
theorem dX12_find_159 : decode cX12_find 159 = .ok (.istore_n 2, 1) := by decide +kernel
theorem dX12_find_160 : decode cX12_find 160 = .ok (.iload_n 2, 1) := by decide +kernel
theorem dX12_find_161 : decode cX12_find 161 = .ok (.aload_n 0, 1) := by decide +kernel
theorem dX12_find_162 : decode cX12_find 162 = .ok (.getfield 141, 3) := by decide +kernel
theorem dX12_find_165 : decode cX12_find 165 = .ok (.if_icmp .ge 50, 3) := by decide +kernel
theorem dX12_find_168 : decode cX12_find 168 = .ok (.aload_n 0, 1) := by decide +kernel
theorem dX12_find_169 : decode cX12_find 169 = .ok (.getfield 75, 3) := by decide +kernel
theorem dX12_find_172 : decode cX12_find 172 = .ok (.iload_n 1, 1) := by decide +kernel
theorem dX12_find_173 : decode cX12_find 173 = .ok (.baload, 1) := by decide +kernel
theorem dX12_find_174 : decode cX12_find 174 = .ok (.ifCond .eq 41, 3) := by decide +kernel
theorem dX12_find_177 : decode cX12_find 177 = .ok (.aload_n 0, 1) := by decide +kernel
theorem dX12_find_178 : decode cX12_find 178 = .ok (.getfield 78, 3) := by decide +kernel
theorem dX12_find_181 : decode cX12_find 181 = .ok (.iload_n 1, 1) := by decide +kernel
theorem dX12_find_182 : decode cX12_find 182 = .ok (.iaload, 1) := by decide +kernel
theorem dX12_find_183 : decode cX12_find 183 = .ok (.iload_n 2, 1) := by decide +kernel
theorem dX12_find_184 : decode cX12_find 184 = .ok (.invokestatic 189, 3) := by decide +kernel
theorem dX12_find_187 : decode cX12_find 187 = .ok (.ifCond .eq 22, 3) := by decide +kernel
theorem dX12_find_190 : decode cX12_find 190 = .ok (.aload_n 0, 1) := by decide +kernel
theorem dX12_find_191 : decode cX12_find 191 = .ok (.getfield 81, 3) := by decide +kernel
theorem dX12_find_194 : decode cX12_find 194 = .ok (.iload_n 1, 1) := by decide +kernel
theorem dX12_find_195 : decode cX12_find 195 = .ok (.iconst 1, 1) := by decide +kernel
theorem dX12_find_196 : decode cX12_find 196 = .ok (.iload_n 2, 1) := by decide +kernel
theorem dX12_find_197 : decode cX12_find 197 = .ok (.ishl, 1) := by decide +kernel
theorem dX12_find_198 : decode cX12_find 198 = .ok (.ior, 1) := by decide +kernel
theorem dX12_find_199 : decode cX12_find 199 = .ok (.dup2, 1) := by decide +kernel
theorem dX12_find_200 : decode cX12_find 200 = .ok (.laload, 1) := by decide +kernel
theorem dX12_find_201 : decode cX12_find 201 = .ok (.aload_n 0, 1) := by decide +kernel
theorem dX12_find_202 : decode cX12_find 202 = .ok (.getfield 81, 3) := by decide +kernel
theorem dX12_find_205 : decode cX12_find 205 = .ok (.iload_n 1, 1) := by decide +kernel
theorem dX12_find_206 : decode cX12_find 206 = .ok (.laload, 1) := by decide +kernel
theorem dX12_find_207 : decode cX12_find 207 = .ok (.ladd, 1) := by decide +kernel
theorem dX12_find_208 : decode cX12_find 208 = .ok (.lastore, 1) := by decide +kernel
theorem dX12_find_209 : decode cX12_find 209 = .ok (.iinc 2 1, 3) := by decide +kernel
theorem dX12_find_212 : decode cX12_find 212 = .ok (.goto (-52), 3) := by decide +kernel
theorem dX12_find_215 : decode cX12_find 215 = .ok (.iinc 1 1, 3) := by decide +kernel
theorem dX12_find_218 : decode cX12_find 218 = .ok (.goto (-68), 3) := by decide +kernel
theorem dX12_find_221 : decode cX12_find 221 = .ok (.aload_n 0, 1) := by decide +kernel
theorem dX12_find_222 : decode cX12_find 222 = .ok (.invokevirtual 148, 3) := by decide +kernel
theorem dX12_find_225 : decode cX12_find 225 = .ok (.istore_n 1, 1) := by decide +kernel
theorem dX12_find_226 : decode cX12_find 226 = .ok (.iload_n 1, 1) := by decide +kernel
theorem dX12_find_227 : decode cX12_find 227 = .ok (.ifCond .lt 89, 3) := by decide +kernel
theorem dX12_find_230 : decode cX12_find 230 = .ok (.aload_n 0, 1) := by decide +kernel
theorem dX12_find_231 : decode cX12_find 231 = .ok (.getfield 85, 3) := by decide +kernel
theorem dX12_find_234 : decode cX12_find 234 = .ok (.iload_n 1, 1) := by decide +kernel
theorem dX12_find_235 : decode cX12_find 235 = .ok (.iload_n 1, 1) := by decide +kernel
theorem dX12_find_236 : decode cX12_find 236 = .ok (.aload_n 0, 1) := by decide +kernel
theorem dX12_find_237 : decode cX12_find 237 = .ok (.invokevirtual 148, 3) := by decide +kernel
theorem dX12_find_240 : decode cX12_find 240 = .ok (.if_icmp .ne 7, 3) := by decide +kernel
theorem dX12_find_243 : decode cX12_find 243 = .ok (.lconst 1, 1) := by decide +kernel
theorem dX12_find_244 : decode cX12_find 244 = .ok (.goto 4, 3) := by decide +kernel
theorem dX12_find_247 : decode cX12_find 247 = .ok (.lconst 0, 1) := by decide +kernel
theorem dX12_find_248 : decode cX12_find 248 = .ok (.lastore, 1) := by decide +kernel
theorem dX12_find_249 : decode cX12_find 249 = .ok (.iconst 0, 1) := by decide +kernel
theorem dX12_find_250 : decode cX12_find 250 = .ok (.istore_n 2, 1) := by decide +kernel
theorem dX12_find_251 : decode cX12_find 251 = .ok (.iload_n 2, 1) := by decide +kernel
theorem dX12_find_252 : decode cX12_find 252 = .ok (.aload_n 0, 1) := by decide +kernel
theorem dX12_find_253 : decode cX12_find 253 = .ok (.getfield 141, 3) := by decide +kernel
theorem dX12_find_256 : decode cX12_find 256 = .ok (.if_icmp .ge 54, 3) := by decide +kernel
theorem dX12_find_259 : decode cX12_find 259 = .ok (.aload_n 0, 1) := by decide +kernel
theorem dX12_find_260 : decode cX12_find 260 = .ok (.getfield 75, 3) := by decide +kernel
theorem dX12_find_263 : decode cX12_find 263 = .ok (.iload_n 1, 1) := by decide +kernel
theorem dX12_find_264 : decode cX12_find 264 = .ok (.baload, 1) := by decide +kernel
theorem dX12_find_265 : decode cX12_find 265 = .ok (.ifCond .eq 45, 3) := by decide +kernel
theorem dX12_find_268 : decode cX12_find 268 = .ok (.aload_n 0, 1) := by decide +kernel
theorem dX12_find_269 : decode cX12_find 269 = .ok (.getfield 85, 3) := by decide +kernel
theorem dX12_find_272 : decode cX12_find 272 = .ok (.iload_n 1, 1) := by decide +kernel
theorem dX12_find_273 : decode cX12_find 273 = .ok (.dup2, 1) := by decide +kernel
theorem dX12_find_274 : decode cX12_find 274 = .ok (.laload, 1) := by decide +kernel
theorem dX12_find_275 : decode cX12_find 275 = .ok (.aload_n 0, 1) := by decide +kernel
theorem dX12_find_276 : decode cX12_find 276 = .ok (.getfield 78, 3) := by decide +kernel
theorem dX12_find_279 : decode cX12_find 279 = .ok (.iload_n 1, 1) := by decide +kernel
theorem dX12_find_280 : decode cX12_find 280 = .ok (.iaload, 1) := by decide +kernel
theorem dX12_find_281 : decode cX12_find 281 = .ok (.iload_n 2, 1) := by decide +kernel
theorem dX12_find_282 : decode cX12_find 282 = .ok (.invokestatic 189, 3) := by decide +kernel
theorem dX12_find_285 : decode cX12_find 285 = .ok (.ifCond .eq 16, 3) := by decide +kernel
theorem dX12_find_288 : decode cX12_find 288 = .ok (.aload_n 0, 1) := by decide +kernel
theorem dX12_find_289 : decode cX12_find 289 = .ok (.getfield 85, 3) := by decide +kernel
theorem dX12_find_292 : decode cX12_find 292 = .ok (.iload_n 1, 1) := by decide +kernel
theorem dX12_find_293 : decode cX12_find 293 = .ok (.iconst 1, 1) := by decide +kernel
theorem dX12_find_294 : decode cX12_find 294 = .ok (.iload_n 2, 1) := by decide +kernel
theorem dX12_find_295 : decode cX12_find 295 = .ok (.ishl, 1) := by decide +kernel
theorem dX12_find_296 : decode cX12_find 296 = .ok (.ior, 1) := by decide +kernel
theorem dX12_find_297 : decode cX12_find 297 = .ok (.laload, 1) := by decide +kernel
theorem dX12_find_298 : decode cX12_find 298 = .ok (.goto 4, 3) := by decide +kernel
theorem dX12_find_301 : decode cX12_find 301 = .ok (.lconst 0, 1) := by decide +kernel
theorem dX12_find_302 : decode cX12_find 302 = .ok (.ladd, 1) := by decide +kernel
theorem dX12_find_303 : decode cX12_find 303 = .ok (.lastore, 1) := by decide +kernel
theorem dX12_find_304 : decode cX12_find 304 = .ok (.iinc 2 1, 3) := by decide +kernel
theorem dX12_find_307 : decode cX12_find 307 = .ok (.goto (-56), 3) := by decide +kernel
theorem dX12_find_310 : decode cX12_find 310 = .ok (.iinc 1 (-1), 3) := by decide +kernel
theorem dX12_find_313 : decode cX12_find 313 = .ok (.goto (-87), 3) := by decide +kernel
theorem dX12_find_316 : decode cX12_find 316 = .ok (.aload_n 0, 1) := by decide +kernel
theorem dX12_find_317 : decode cX12_find 317 = .ok (.iconst 1, 1) := by decide +kernel
theorem dX12_find_318 : decode cX12_find 318 = .ok (.putfield 277, 3) := by decide +kernel
theorem dX12_find_321 : decode cX12_find 321 = .ok (.return_, 1) := by decide +kernel
theorem dX12_isGoodSet_0 : decode cX12_isGoodSet 0 = .ok (.aload_n 0, 1) := by decide +kernel
theorem dX12_isGoodSet_1 : decode cX12_isGoodSet 1 = .ok (.invokevirtual 307, 3) := by decide +kernel
theorem dX12_isGoodSet_4 : decode cX12_isGoodSet 4 = .ok (.aload_n 0, 1) := by decide +kernel
theorem dX12_isGoodSet_5 : decode cX12_isGoodSet 5 = .ok (.getfield 75, 3) := by decide +kernel
theorem dX12_isGoodSet_8 : decode cX12_isGoodSet 8 = .ok (.iload_n 1, 1) := by decide +kernel
theorem dX12_isGoodSet_9 : decode cX12_isGoodSet 9 = .ok (.baload, 1) := by decide +kernel
theorem dX12_isGoodSet_10 : decode cX12_isGoodSet 10 = .ok (.ireturn, 1) := by decide +kernel
theorem dX12_good_0 : decode cX12_good 0 = .ok (.aload_n 0, 1) := by decide +kernel
theorem dX12_good_1 : decode cX12_good 1 = .ok (.invokevirtual 307, 3) := by decide +kernel
theorem dX12_good_4 : decode cX12_good 4 = .ok (.iconst 0, 1) := by decide +kernel
theorem dX12_good_5 : decode cX12_good 5 = .ok (.istore_n 2, 1) := by decide +kernel
theorem dX12_good_6 : decode cX12_good 6 = .ok (.iconst 0, 1) := by decide +kernel
theorem dX12_good_7 : decode cX12_good 7 = .ok (.istore_n 3, 1) := by decide +kernel
theorem dX12_good_8 : decode cX12_good 8 = .ok (.iload_n 3, 1) := by decide +kernel
theorem dX12_good_9 : decode cX12_good 9 = .ok (.aload_n 0, 1) := by decide +kernel
theorem dX12_good_10 : decode cX12_good 10 = .ok (.invokevirtual 148, 3) := by decide +kernel
theorem dX12_good_13 : decode cX12_good 13 = .ok (.if_icmp .gt 28, 3) := by decide +kernel
theorem dX12_good_16 : decode cX12_good 16 = .ok (.aload_n 0, 1) := by decide +kernel
theorem dX12_good_17 : decode cX12_good 17 = .ok (.getfield 75, 3) := by decide +kernel
theorem dX12_good_20 : decode cX12_good 20 = .ok (.iload_n 3, 1) := by decide +kernel
theorem dX12_good_21 : decode cX12_good 21 = .ok (.baload, 1) := by decide +kernel
theorem dX12_good_22 : decode cX12_good 22 = .ok (.ifCond .eq 13, 3) := by decide +kernel
theorem dX12_good_25 : decode cX12_good 25 = .ok (.iload_n 2, 1) := by decide +kernel
theorem dX12_good_26 : decode cX12_good 26 = .ok (.iload_n 1, 1) := by decide +kernel
theorem dX12_good_27 : decode cX12_good 27 = .ok (.if_icmp .ne 5, 3) := by decide +kernel
theorem dX12_good_30 : decode cX12_good 30 = .ok (.iload_n 3, 1) := by decide +kernel
theorem dX12_good_31 : decode cX12_good 31 = .ok (.ireturn, 1) := by decide +kernel
theorem dX12_good_32 : decode cX12_good 32 = .ok (.iinc 2 1, 3) := by decide +kernel
theorem dX12_good_35 : decode cX12_good 35 = .ok (.iinc 3 1, 3) := by decide +kernel
theorem dX12_good_38 : decode cX12_good 38 = .ok (.goto (-30), 3) := by decide +kernel
theorem dX12_good_41 : decode cX12_good 41 = .ok (.iload_n 1, 1) := by decide +kernel
theorem dX12_good_42 : decode cX12_good 42 = .ok (.iconst (-1), 1) := by decide +kernel
theorem dX12_good_43 : decode cX12_good 43 = .ok (.if_icmp .ne 7, 3) := by decide +kernel
theorem dX12_good_46 : decode cX12_good 46 = .ok (.iload_n 2, 1) := by decide +kernel
theorem dX12_good_47 : decode cX12_good 47 = .ok (.goto 4, 3) := by decide +kernel
theorem dX12_good_50 : decode cX12_good 50 = .ok (.iconst (-1), 1) := by decide +kernel
theorem dX12_good_51 : decode cX12_good 51 = .ok (.ireturn, 1) := by decide +kernel
theorem dX12_next_0 : decode cX12_next 0 = .ok (.aload_n 0, 1) := by decide +kernel
theorem dX12_next_1 : decode cX12_next 1 = .ok (.iload_n 1, 1) := by decide +kernel
theorem dX12_next_2 : decode cX12_next 2 = .ok (.invokevirtual 310, 3) := by decide +kernel
theorem dX12_next_5 : decode cX12_next 5 = .ok (.ifCond .ne 7, 3) := by decide +kernel
theorem dX12_next_8 : decode cX12_next 8 = .ok (.sipush (-1001), 3) := by decide +kernel
theorem dX12_next_11 : decode cX12_next 11 = .ok (.ireturn, 1) := by decide +kernel
theorem dX12_next_12 : decode cX12_next 12 = .ok (.aload_n 0, 1) := by decide +kernel
theorem dX12_next_13 : decode cX12_next 13 = .ok (.iload_n 1, 1) := by decide +kernel
theorem dX12_next_14 : decode cX12_next 14 = .ok (.invokevirtual 313, 3) := by decide +kernel
theorem dX12_next_17 : decode cX12_next 17 = .ok (.ifCond .eq 12, 3) := by decide +kernel
theorem dX12_next_20 : decode cX12_next 20 = .ok (.aload_n 0, 1) := by decide +kernel
theorem dX12_next_21 : decode cX12_next 21 = .ok (.getfield 78, 3) := by decide +kernel
theorem dX12_next_24 : decode cX12_next 24 = .ok (.iload_n 1, 1) := by decide +kernel
theorem dX12_next_25 : decode cX12_next 25 = .ok (.iaload, 1) := by decide +kernel
theorem dX12_next_26 : decode cX12_next 26 = .ok (.goto 6, 3) := by decide +kernel
theorem dX12_next_29 : decode cX12_next 29 = .ok (.sipush (-1003), 3) := by decide +kernel
theorem dX12_next_32 : decode cX12_next 32 = .ok (.ireturn, 1) := by decide +kernel
theorem dX12_orders_0 : decode cX12_orders 0 = .ok (.aload_n 0, 1) := by decide +kernel
theorem dX12_orders_1 : decode cX12_orders 1 = .ok (.invokevirtual 307, 3) := by decide +kernel
theorem dX12_orders_4 : decode cX12_orders 4 = .ok (.aload_n 0, 1) := by decide +kernel
theorem dX12_orders_5 : decode cX12_orders 5 = .ok (.getfield 85, 3) := by decide +kernel
theorem dX12_orders_8 : decode cX12_orders 8 = .ok (.iconst 0, 1) := by decide +kernel
theorem dX12_orders_9 : decode cX12_orders 9 = .ok (.laload, 1) := by decide +kernel
theorem dX12_orders_10 : decode cX12_orders 10 = .ok (.lreturn, 1) := by decide +kernel
theorem dX12_order_0 : decode cX12_order 0 = .ok (.lload_n 1, 1) := by decide +kernel
theorem dX12_order_1 : decode cX12_order 1 = .ok (.lconst 0, 1) := by decide +kernel
theorem dX12_order_2 : decode cX12_order 2 = .ok (.lcmp, 1) := by decide +kernel
theorem dX12_order_3 : decode cX12_order 3 = .ok (.ifCond .ge 7, 3) := by decide +kernel
theorem dX12_order_6 : decode cX12_order 6 = .ok (.sipush (-1002), 3) := by decide +kernel
theorem dX12_order_9 : decode cX12_order 9 = .ok (.ireturn, 1) := by decide +kernel
theorem dX12_order_10 : decode cX12_order 10 = .ok (.aload_n 0, 1) := by decide +kernel
theorem dX12_order_11 : decode cX12_order 11 = .ok (.invokevirtual 307, 3) := by decide +kernel
theorem dX12_order_14 : decode cX12_order 14 = .ok (.lload_n 1, 1) := by decide +kernel
theorem dX12_order_15 : decode cX12_order 15 = .ok (.aload_n 0, 1) := by decide +kernel
theorem dX12_order_16 : decode cX12_order 16 = .ok (.getfield 85, 3) := by decide +kernel
theorem dX12_order_19 : decode cX12_order 19 = .ok (.iconst 0, 1) := by decide +kernel
theorem dX12_order_20 : decode cX12_order 20 = .ok (.laload, 1) := by decide +kernel
theorem dX12_order_21 : decode cX12_order 21 = .ok (.lcmp, 1) := by decide +kernel
theorem dX12_order_22 : decode cX12_order 22 = .ok (.ifCond .ge 19, 3) := by decide +kernel
theorem dX12_order_25 : decode cX12_order 25 = .ok (.iload_n 3, 1) := by decide +kernel
theorem dX12_order_26 : decode cX12_order 26 = .ok (.i2l, 1) := by decide +kernel
theorem dX12_order_27 : decode cX12_order 27 = .ok (.lconst 0, 1) := by decide +kernel
theorem dX12_order_28 : decode cX12_order 28 = .ok (.aload_n 0, 1) := by decide +kernel
theorem dX12_order_29 : decode cX12_order 29 = .ok (.getfield 141, 3) := by decide +kernel
theorem dX12_order_32 : decode cX12_order 32 = .ok (.iconst 1, 1) := by decide +kernel
theorem dX12_order_33 : decode cX12_order 33 = .ok (.isub, 1) := by decide +kernel
theorem dX12_order_34 : decode cX12_order 34 = .ok (.i2l, 1) := by decide +kernel
theorem dX12_order_35 : decode cX12_order 35 = .ok (.invokestatic 144, 3) := by decide +kernel
theorem dX12_order_38 : decode cX12_order 38 = .ok (.ifCond .ne 5, 3) := by decide +kernel
theorem dX12_order_41 : decode cX12_order 41 = .ok (.iconst (-1), 1) := by decide +kernel
theorem dX12_order_42 : decode cX12_order 42 = .ok (.ireturn, 1) := by decide +kernel
theorem dX12_order_43 : decode cX12_order 43 = .ok (.lload_n 1, 1) := by decide +kernel
theorem dX12_order_44 : decode cX12_order 44 = .ok (.lstore 4, 2) := by decide +kernel
theorem dX12_order_46 : decode cX12_order 46 = .ok (.iconst 0, 1) := by decide +kernel
theorem dX12_order_47 : decode cX12_order 47 = .ok (.istore 6, 2) := by decide +kernel
theorem dX12_order_49 : decode cX12_order 49 = .ok (.iconst (-1), 1) := by decide +kernel
theorem dX12_order_50 : decode cX12_order 50 = .ok (.istore 7, 2) := by decide +kernel
theorem dX12_order_52 : decode cX12_order 52 = .ok (.iconst 0, 1) := by decide +kernel
theorem dX12_order_53 : decode cX12_order 53 = .ok (.istore 8, 2) := by decide +kernel
theorem dX12_order_55 : decode cX12_order 55 = .ok (.iload 8, 2) := by decide +kernel
theorem dX12_order_57 : decode cX12_order 57 = .ok (.iload_n 3, 1) := by decide +kernel
theorem dX12_order_58 : decode cX12_order 58 = .ok (.if_icmp .gt 117, 3) := by decide +kernel
theorem dX12_order_61 : decode cX12_order 61 = .ok (.iconst (-1), 1) := by decide +kernel
theorem dX12_order_62 : decode cX12_order 62 = .ok (.istore 9, 2) := by decide +kernel
theorem dX12_order_64 : decode cX12_order 64 = .ok (.iconst 0, 1) := by decide +kernel
theorem dX12_order_65 : decode cX12_order 65 = .ok (.istore 10, 2) := by decide +kernel
theorem dX12_order_67 : decode cX12_order 67 = .ok (.iload 10, 2) := by decide +kernel
theorem dX12_order_69 : decode cX12_order 69 = .ok (.aload_n 0, 1) := by decide +kernel
theorem dX12_order_70 : decode cX12_order 70 = .ok (.getfield 141, 3) := by decide +kernel
theorem dX12_order_73 : decode cX12_order 73 = .ok (.if_icmp .ge 83, 3) := by decide +kernel
theorem dX12_order_76 : decode cX12_order 76 = .ok (.iload 9, 2) := by decide +kernel
theorem dX12_order_78 : decode cX12_order 78 = .ok (.ifCond .ge 78, 3) := by decide +kernel
theorem dX12_order_81 : decode cX12_order 81 = .ok (.aload_n 0, 1) := by decide +kernel
theorem dX12_order_82 : decode cX12_order 82 = .ok (.getfield 78, 3) := by decide +kernel
theorem dX12_order_85 : decode cX12_order 85 = .ok (.iload 6, 2) := by decide +kernel
theorem dX12_order_87 : decode cX12_order 87 = .ok (.iaload, 1) := by decide +kernel
theorem dX12_order_88 : decode cX12_order 88 = .ok (.iload 10, 2) := by decide +kernel
theorem dX12_order_90 : decode cX12_order 90 = .ok (.invokestatic 189, 3) := by decide +kernel
theorem dX12_order_93 : decode cX12_order 93 = .ok (.ifCond .eq 18, 3) := by decide +kernel
theorem dX12_order_96 : decode cX12_order 96 = .ok (.aload_n 0, 1) := by decide +kernel
theorem dX12_order_97 : decode cX12_order 97 = .ok (.getfield 85, 3) := by decide +kernel
theorem dX12_order_100 : decode cX12_order 100 = .ok (.iload 6, 2) := by decide +kernel
theorem dX12_order_102 : decode cX12_order 102 = .ok (.iconst 1, 1) := by decide +kernel
theorem dX12_order_103 : decode cX12_order 103 = .ok (.iload 10, 2) := by decide +kernel
theorem dX12_order_105 : decode cX12_order 105 = .ok (.ishl, 1) := by decide +kernel
theorem dX12_order_106 : decode cX12_order 106 = .ok (.ior, 1) := by decide +kernel
theorem dX12_order_107 : decode cX12_order 107 = .ok (.laload, 1) := by decide +kernel
theorem dX12_order_108 : decode cX12_order 108 = .ok (.goto 4, 3) := by decide +kernel
theorem dX12_order_111 : decode cX12_order 111 = .ok (.lconst 0, 1) := by decide +kernel
theorem dX12_order_112 : decode cX12_order 112 = .ok (.lstore 11, 2) := by decide +kernel
theorem dX12_order_114 : decode cX12_order 114 = .ok (.lload 11, 2) := by decide +kernel
theorem dX12_order_116 : decode cX12_order 116 = .ok (.lload 4, 2) := by decide +kernel
theorem dX12_order_118 : decode cX12_order 118 = .ok (.lcmp, 1) := by decide +kernel
theorem dX12_order_119 : decode cX12_order 119 = .ok (.ifCond .le 8, 3) := by decide +kernel
theorem dX12_order_122 : decode cX12_order 122 = .ok (.iload 10, 2) := by decide +kernel
theorem dX12_order_124 : decode cX12_order 124 = .ok (.goto 5, 3) := by decide +kernel
theorem dX12_order_127 : decode cX12_order 127 = .ok (.iload 9, 2) := by decide +kernel
theorem dX12_order_129 : decode cX12_order 129 = .ok (.istore 9, 2) := by decide +kernel
theorem dX12_order_131 : decode cX12_order 131 = .ok (.lload 4, 2) := by decide +kernel
theorem dX12_order_133 : decode cX12_order 133 = .ok (.lload 11, 2) := by decide +kernel
theorem dX12_order_135 : decode cX12_order 135 = .ok (.lload 4, 2) := by decide +kernel
theorem dX12_order_137 : decode cX12_order 137 = .ok (.lcmp, 1) := by decide +kernel
theorem dX12_order_138 : decode cX12_order 138 = .ok (.ifCond .le 7, 3) := by decide +kernel
theorem dX12_order_141 : decode cX12_order 141 = .ok (.lconst 0, 1) := by decide +kernel
theorem dX12_order_142 : decode cX12_order 142 = .ok (.goto 5, 3) := by decide +kernel
theorem dX12_order_145 : decode cX12_order 145 = .ok (.lload 11, 2) := by decide +kernel
theorem dX12_order_147 : decode cX12_order 147 = .ok (.lsub, 1) := by decide +kernel
theorem dX12_order_148 : decode cX12_order 148 = .ok (.lstore 4, 2) := by decide +kernel
theorem dX12_order_150 : decode cX12_order 150 = .ok (.iinc 10 1, 3) := by decide +kernel
theorem dX12_order_153 : decode cX12_order 153 = .ok (.goto (-86), 3) := by decide +kernel
theorem dX12_order_156 : decode cX12_order 156 = .ok (.iload 6, 2) := by decide +kernel
theorem dX12_order_158 : decode cX12_order 158 = .ok (.iconst 1, 1) := by decide +kernel
theorem dX12_order_159 : decode cX12_order 159 = .ok (.iload 9, 2) := by decide +kernel
theorem dX12_order_161 : decode cX12_order 161 = .ok (.ishl, 1) := by decide +kernel
theorem dX12_order_162 : decode cX12_order 162 = .ok (.ior, 1) := by decide +kernel
theorem dX12_order_163 : decode cX12_order 163 = .ok (.istore 6, 2) := by decide +kernel
theorem dX12_order_165 : decode cX12_order 165 = .ok (.iload 9, 2) := by decide +kernel
theorem dX12_order_167 : decode cX12_order 167 = .ok (.istore 7, 2) := by decide +kernel
theorem dX12_order_169 : decode cX12_order 169 = .ok (.iinc 8 1, 3) := by decide +kernel
theorem dX12_order_172 : decode cX12_order 172 = .ok (.goto (-117), 3) := by decide +kernel
theorem dX12_order_175 : decode cX12_order 175 = .ok (.iload 7, 2) := by decide +kernel
theorem dX12_order_177 : decode cX12_order 177 = .ok (.ireturn, 1) := by decide +kernel
theorem dX12_ahead_0 : decode cX12_ahead 0 = .ok (.aload_n 0, 1) := by decide +kernel
theorem dX12_ahead_1 : decode cX12_ahead 1 = .ok (.iload_n 1, 1) := by decide +kernel
theorem dX12_ahead_2 : decode cX12_ahead 2 = .ok (.invokevirtual 280, 3) := by decide +kernel
theorem dX12_ahead_5 : decode cX12_ahead 5 = .ok (.ifCond .eq 16, 3) := by decide +kernel
theorem dX12_ahead_8 : decode cX12_ahead 8 = .ok (.aload_n 0, 1) := by decide +kernel
theorem dX12_ahead_9 : decode cX12_ahead 9 = .ok (.iload_n 2, 1) := by decide +kernel
theorem dX12_ahead_10 : decode cX12_ahead 10 = .ok (.invokevirtual 280, 3) := by decide +kernel
theorem dX12_ahead_13 : decode cX12_ahead 13 = .ok (.ifCond .eq 8, 3) := by decide +kernel
theorem dX12_ahead_16 : decode cX12_ahead 16 = .ok (.iload_n 1, 1) := by decide +kernel
theorem dX12_ahead_17 : decode cX12_ahead 17 = .ok (.iload_n 2, 1) := by decide +kernel
theorem dX12_ahead_18 : decode cX12_ahead 18 = .ok (.if_icmp .ne 7, 3) := by decide +kernel
theorem dX12_ahead_21 : decode cX12_ahead 21 = .ok (.ldc2_w 316, 3) := by decide +kernel
theorem dX12_ahead_24 : decode cX12_ahead 24 = .ok (.lreturn, 1) := by decide +kernel
theorem dX12_ahead_25 : decode cX12_ahead 25 = .ok (.aload_n 0, 1) := by decide +kernel
theorem dX12_ahead_26 : decode cX12_ahead 26 = .ok (.invokevirtual 307, 3) := by decide +kernel
theorem dX12_ahead_29 : decode cX12_ahead 29 = .ok (.lconst 0, 1) := by decide +kernel
theorem dX12_ahead_30 : decode cX12_ahead 30 = .ok (.lstore_n 3, 1) := by decide +kernel
theorem dX12_ahead_31 : decode cX12_ahead 31 = .ok (.iconst 0, 1) := by decide +kernel
theorem dX12_ahead_32 : decode cX12_ahead 32 = .ok (.istore 5, 2) := by decide +kernel
theorem dX12_ahead_34 : decode cX12_ahead 34 = .ok (.iload 5, 2) := by decide +kernel
theorem dX12_ahead_36 : decode cX12_ahead 36 = .ok (.aload_n 0, 1) := by decide +kernel
theorem dX12_ahead_37 : decode cX12_ahead 37 = .ok (.invokevirtual 148, 3) := by decide +kernel
theorem dX12_ahead_40 : decode cX12_ahead 40 = .ok (.if_icmp .gt 80, 3) := by decide +kernel
theorem dX12_ahead_43 : decode cX12_ahead 43 = .ok (.aload_n 0, 1) := by decide +kernel
theorem dX12_ahead_44 : decode cX12_ahead 44 = .ok (.getfield 75, 3) := by decide +kernel
theorem dX12_ahead_47 : decode cX12_ahead 47 = .ok (.iload 5, 2) := by decide +kernel
theorem dX12_ahead_49 : decode cX12_ahead 49 = .ok (.baload, 1) := by decide +kernel
theorem dX12_ahead_50 : decode cX12_ahead 50 = .ok (.ifCond .eq 30, 3) := by decide +kernel
theorem dX12_ahead_53 : decode cX12_ahead 53 = .ok (.iload 5, 2) := by decide +kernel
theorem dX12_ahead_55 : decode cX12_ahead 55 = .ok (.iload_n 1, 1) := by decide +kernel
theorem dX12_ahead_56 : decode cX12_ahead 56 = .ok (.invokestatic 189, 3) := by decide +kernel
theorem dX12_ahead_59 : decode cX12_ahead 59 = .ok (.ifCond .eq 21, 3) := by decide +kernel
theorem dX12_ahead_62 : decode cX12_ahead 62 = .ok (.aload_n 0, 1) := by decide +kernel
theorem dX12_ahead_63 : decode cX12_ahead 63 = .ok (.getfield 78, 3) := by decide +kernel
theorem dX12_ahead_66 : decode cX12_ahead 66 = .ok (.iload 5, 2) := by decide +kernel
theorem dX12_ahead_68 : decode cX12_ahead 68 = .ok (.iaload, 1) := by decide +kernel
theorem dX12_ahead_69 : decode cX12_ahead 69 = .ok (.iload_n 2, 1) := by decide +kernel
theorem dX12_ahead_70 : decode cX12_ahead 70 = .ok (.invokestatic 189, 3) := by decide +kernel
theorem dX12_ahead_73 : decode cX12_ahead 73 = .ok (.ifCond .eq 7, 3) := by decide +kernel
theorem dX12_ahead_76 : decode cX12_ahead 76 = .ok (.iconst 1, 1) := by decide +kernel
theorem dX12_ahead_77 : decode cX12_ahead 77 = .ok (.goto 4, 3) := by decide +kernel
theorem dX12_ahead_80 : decode cX12_ahead 80 = .ok (.iconst 0, 1) := by decide +kernel
theorem dX12_ahead_81 : decode cX12_ahead 81 = .ok (.istore 6, 2) := by decide +kernel
theorem dX12_ahead_83 : decode cX12_ahead 83 = .ok (.lload_n 3, 1) := by decide +kernel
theorem dX12_ahead_84 : decode cX12_ahead 84 = .ok (.iload 6, 2) := by decide +kernel
theorem dX12_ahead_86 : decode cX12_ahead 86 = .ok (.ifCond .eq 25, 3) := by decide +kernel
theorem dX12_ahead_89 : decode cX12_ahead 89 = .ok (.aload_n 0, 1) := by decide +kernel
theorem dX12_ahead_90 : decode cX12_ahead 90 = .ok (.getfield 81, 3) := by decide +kernel
theorem dX12_ahead_93 : decode cX12_ahead 93 = .ok (.iload 5, 2) := by decide +kernel
theorem dX12_ahead_95 : decode cX12_ahead 95 = .ok (.laload, 1) := by decide +kernel
theorem dX12_ahead_96 : decode cX12_ahead 96 = .ok (.aload_n 0, 1) := by decide +kernel
theorem dX12_ahead_97 : decode cX12_ahead 97 = .ok (.getfield 85, 3) := by decide +kernel
theorem dX12_ahead_100 : decode cX12_ahead 100 = .ok (.iload 5, 2) := by decide +kernel
theorem dX12_ahead_102 : decode cX12_ahead 102 = .ok (.iconst 1, 1) := by decide +kernel
theorem dX12_ahead_103 : decode cX12_ahead 103 = .ok (.iload_n 2, 1) := by decide +kernel
theorem dX12_ahead_104 : decode cX12_ahead 104 = .ok (.ishl, 1) := by decide +kernel
theorem dX12_ahead_105 : decode cX12_ahead 105 = .ok (.ior, 1) := by decide +kernel
theorem dX12_ahead_106 : decode cX12_ahead 106 = .ok (.laload, 1) := by decide +kernel
theorem dX12_ahead_107 : decode cX12_ahead 107 = .ok (.lmul, 1) := by decide +kernel
theorem dX12_ahead_108 : decode cX12_ahead 108 = .ok (.goto 4, 3) := by decide +kernel
theorem dX12_ahead_111 : decode cX12_ahead 111 = .ok (.lconst 0, 1) := by decide +kernel
theorem dX12_ahead_112 : decode cX12_ahead 112 = .ok (.ladd, 1) := by decide +kernel
theorem dX12_ahead_113 : decode cX12_ahead 113 = .ok (.lstore_n 3, 1) := by decide +kernel
theorem dX12_ahead_114 : decode cX12_ahead 114 = .ok (.iinc 5 1, 3) := by decide +kernel
theorem dX12_ahead_117 : decode cX12_ahead 117 = .ok (.goto (-83), 3) := by decide +kernel
theorem dX12_ahead_120 : decode cX12_ahead 120 = .ok (.lload_n 3, 1) := by decide +kernel
theorem dX12_ahead_121 : decode cX12_ahead 121 = .ok (.lreturn, 1) := by decide +kernel
theorem dX12_place_0 : decode cX12_place 0 = .ok (.aload_n 0, 1) := by decide +kernel
theorem dX12_place_1 : decode cX12_place 1 = .ok (.iload_n 1, 1) := by decide +kernel
theorem dX12_place_2 : decode cX12_place 2 = .ok (.invokevirtual 280, 3) := by decide +kernel
theorem dX12_place_5 : decode cX12_place 5 = .ok (.ifCond .ne 7, 3) := by decide +kernel
theorem dX12_place_8 : decode cX12_place 8 = .ok (.sipush (-1001), 3) := by decide +kernel
theorem dX12_place_11 : decode cX12_place 11 = .ok (.ireturn, 1) := by decide +kernel
theorem dX12_place_12 : decode cX12_place 12 = .ok (.iload_n 2, 1) := by decide +kernel
theorem dX12_place_13 : decode cX12_place 13 = .ok (.ifCond .ne 15, 3) := by decide +kernel
theorem dX12_place_16 : decode cX12_place 16 = .ok (.aload_n 0, 1) := by decide +kernel
theorem dX12_place_17 : decode cX12_place 17 = .ok (.getfield 31, 3) := by decide +kernel
theorem dX12_place_20 : decode cX12_place 20 = .ok (.iload_n 1, 1) := by decide +kernel
theorem dX12_place_21 : decode cX12_place 21 = .ok (.iaload, 1) := by decide +kernel
theorem dX12_place_22 : decode cX12_place 22 = .ok (.invokestatic 301, 3) := by decide +kernel
theorem dX12_place_25 : decode cX12_place 25 = .ok (.goto 29, 3) := by decide +kernel
theorem dX12_place_28 : decode cX12_place 28 = .ok (.iload_n 2, 1) := by decide +kernel
theorem dX12_place_29 : decode cX12_place 29 = .ok (.iconst 1, 1) := by decide +kernel
theorem dX12_place_30 : decode cX12_place 30 = .ok (.if_icmp .ne 21, 3) := by decide +kernel
theorem dX12_place_33 : decode cX12_place 33 = .ok (.aload_n 0, 1) := by decide +kernel
theorem dX12_place_34 : decode cX12_place 34 = .ok (.getfield 141, 3) := by decide +kernel
theorem dX12_place_37 : decode cX12_place 37 = .ok (.iconst 1, 1) := by decide +kernel
theorem dX12_place_38 : decode cX12_place 38 = .ok (.isub, 1) := by decide +kernel
theorem dX12_place_39 : decode cX12_place 39 = .ok (.aload_n 0, 1) := by decide +kernel
theorem dX12_place_40 : decode cX12_place 40 = .ok (.iload_n 1, 1) := by decide +kernel
theorem dX12_place_41 : decode cX12_place 41 = .ok (.invokevirtual 284, 3) := by decide +kernel
theorem dX12_place_44 : decode cX12_place 44 = .ok (.invokestatic 301, 3) := by decide +kernel
theorem dX12_place_47 : decode cX12_place 47 = .ok (.isub, 1) := by decide +kernel
theorem dX12_place_48 : decode cX12_place 48 = .ok (.goto 6, 3) := by decide +kernel
theorem dX12_place_51 : decode cX12_place 51 = .ok (.sipush (-1002), 3) := by decide +kernel
theorem dX12_place_54 : decode cX12_place 54 = .ok (.ireturn, 1) := by decide +kernel
theorem dX12_findSessions_0 : decode cX12_findSessions 0 = .ok (.aload_n 0, 1) := by decide +kernel
theorem dX12_findSessions_1 : decode cX12_findSessions 1 = .ok (.invokevirtual 307, 3) := by decide +kernel
theorem dX12_findSessions_4 : decode cX12_findSessions 4 = .ok (.aload_n 0, 1) := by decide +kernel
theorem dX12_findSessions_5 : decode cX12_findSessions 5 = .ok (.invokevirtual 148, 3) := by decide +kernel
theorem dX12_findSessions_8 : decode cX12_findSessions 8 = .ok (.istore_n 1, 1) := by decide +kernel
theorem dX12_findSessions_9 : decode cX12_findSessions 9 = .ok (.iload_n 1, 1) := by decide +kernel
theorem dX12_findSessions_10 : decode cX12_findSessions 10 = .ok (.ifCond .lt 292, 3) := by decide +kernel
theorem dX12_findSessions_13 : decode cX12_findSessions 13 = .ok (.iconst 0, 1) := by decide +kernel
theorem dX12_findSessions_14 : decode cX12_findSessions 14 = .ok (.istore_n 2, 1) := by decide +kernel
theorem dX12_findSessions_15 : decode cX12_findSessions 15 = .ok (.iload_n 2, 1) := by decide +kernel
theorem dX12_findSessions_16 : decode cX12_findSessions 16 = .ok (.iconst 4, 1) := by decide +kernel
theorem dX12_findSessions_17 : decode cX12_findSessions 17 = .ok (.if_icmp .ge 279, 3) := by decide +kernel
theorem dX12_findSessions_20 : decode cX12_findSessions 20 = .ok (.iconst 4, 1) := by decide +kernel
theorem dX12_findSessions_21 : decode cX12_findSessions 21 = .ok (.iload_n 1, 1) := by decide +kernel
theorem dX12_findSessions_22 : decode cX12_findSessions 22 = .ok (.imul, 1) := by decide +kernel
theorem dX12_findSessions_23 : decode cX12_findSessions 23 = .ok (.iload_n 2, 1) := by decide +kernel
theorem dX12_findSessions_24 : decode cX12_findSessions 24 = .ok (.iadd, 1) := by decide +kernel
theorem dX12_findSessions_25 : decode cX12_findSessions 25 = .ok (.istore_n 3, 1) := by decide +kernel
theorem dX12_findSessions_26 : decode cX12_findSessions 26 = .ok (.aload_n 0, 1) := by decide +kernel
theorem dX12_findSessions_27 : decode cX12_findSessions 27 = .ok (.getfield 88, 3) := by decide +kernel
theorem dX12_findSessions_30 : decode cX12_findSessions 30 = .ok (.iload_n 3, 1) := by decide +kernel
theorem dX12_findSessions_31 : decode cX12_findSessions 31 = .ok (.iload_n 1, 1) := by decide +kernel
theorem dX12_findSessions_32 : decode cX12_findSessions 32 = .ok (.aload_n 0, 1) := by decide +kernel
theorem dX12_findSessions_33 : decode cX12_findSessions 33 = .ok (.invokevirtual 148, 3) := by decide +kernel
theorem dX12_findSessions_36 : decode cX12_findSessions 36 = .ok (.if_icmp .ne 7, 3) := by decide +kernel
theorem dX12_findSessions_39 : decode cX12_findSessions 39 = .ok (.iconst 0, 1) := by decide +kernel
theorem dX12_findSessions_40 : decode cX12_findSessions 40 = .ok (.goto 6, 3) := by decide +kernel
theorem dX12_findSessions_43 : decode cX12_findSessions 43 = .ok (.ldc_w 318, 3) := by decide +kernel
theorem dX12_findSessions_46 : decode cX12_findSessions 46 = .ok (.iastore, 1) := by decide +kernel
theorem dX12_findSessions_47 : decode cX12_findSessions 47 = .ok (.aload_n 0, 1) := by decide +kernel
theorem dX12_findSessions_48 : decode cX12_findSessions 48 = .ok (.getfield 91, 3) := by decide +kernel
theorem dX12_findSessions_51 : decode cX12_findSessions 51 = .ok (.iload_n 3, 1) := by decide +kernel
theorem dX12_findSessions_52 : decode cX12_findSessions 52 = .ok (.iload_n 1, 1) := by decide +kernel
theorem dX12_findSessions_53 : decode cX12_findSessions 53 = .ok (.aload_n 0, 1) := by decide +kernel
theorem dX12_findSessions_54 : decode cX12_findSessions 54 = .ok (.invokevirtual 148, 3) := by decide +kernel
theorem dX12_findSessions_57 : decode cX12_findSessions 57 = .ok (.if_icmp .ne 18, 3) := by decide +kernel
theorem dX12_findSessions_60 : decode cX12_findSessions 60 = .ok (.aload_n 0, 1) := by decide +kernel
theorem dX12_findSessions_61 : decode cX12_findSessions 61 = .ok (.getfield 141, 3) := by decide +kernel
theorem dX12_findSessions_64 : decode cX12_findSessions 64 = .ok (.ifCond .le 11, 3) := by decide +kernel
theorem dX12_findSessions_67 : decode cX12_findSessions 67 = .ok (.aload_n 0, 1) := by decide +kernel
theorem dX12_findSessions_68 : decode cX12_findSessions 68 = .ok (.iload_n 1, 1) := by decide +kernel
theorem dX12_findSessions_69 : decode cX12_findSessions 69 = .ok (.invokevirtual 319, 3) := by decide +kernel
theorem dX12_findSessions_72 : decode cX12_findSessions 72 = .ok (.goto 4, 3) := by decide +kernel
theorem dX12_findSessions_75 : decode cX12_findSessions 75 = .ok (.iconst 0, 1) := by decide +kernel
theorem dX12_findSessions_76 : decode cX12_findSessions 76 = .ok (.iastore, 1) := by decide +kernel
theorem dX12_findSessions_77 : decode cX12_findSessions 77 = .ok (.iconst 0, 1) := by decide +kernel
theorem dX12_findSessions_78 : decode cX12_findSessions 78 = .ok (.istore 4, 2) := by decide +kernel
theorem dX12_findSessions_80 : decode cX12_findSessions 80 = .ok (.iload 4, 2) := by decide +kernel
theorem dX12_findSessions_82 : decode cX12_findSessions 82 = .ok (.aload_n 0, 1) := by decide +kernel
theorem dX12_findSessions_83 : decode cX12_findSessions 83 = .ok (.getfield 141, 3) := by decide +kernel
theorem dX12_findSessions_86 : decode cX12_findSessions 86 = .ok (.if_icmp .ge 204, 3) := by decide +kernel
theorem dX12_findSessions_89 : decode cX12_findSessions 89 = .ok (.aload_n 0, 1) := by decide +kernel
theorem dX12_findSessions_90 : decode cX12_findSessions 90 = .ok (.getfield 75, 3) := by decide +kernel
theorem dX12_findSessions_93 : decode cX12_findSessions 93 = .ok (.iload_n 1, 1) := by decide +kernel
theorem dX12_findSessions_94 : decode cX12_findSessions 94 = .ok (.baload, 1) := by decide +kernel
theorem dX12_findSessions_95 : decode cX12_findSessions 95 = .ok (.ifCond .eq 195, 3) := by decide +kernel
theorem dX12_findSessions_98 : decode cX12_findSessions 98 = .ok (.aload_n 0, 1) := by decide +kernel
theorem dX12_findSessions_99 : decode cX12_findSessions 99 = .ok (.getfield 78, 3) := by decide +kernel
theorem dX12_findSessions_102 : decode cX12_findSessions 102 = .ok (.iload_n 1, 1) := by decide +kernel
theorem dX12_findSessions_103 : decode cX12_findSessions 103 = .ok (.iaload, 1) := by decide +kernel
theorem dX12_findSessions_104 : decode cX12_findSessions 104 = .ok (.iload 4, 2) := by decide +kernel
theorem dX12_findSessions_106 : decode cX12_findSessions 106 = .ok (.invokestatic 189, 3) := by decide +kernel
theorem dX12_findSessions_109 : decode cX12_findSessions 109 = .ok (.ifCond .eq 175, 3) := by decide +kernel
theorem dX12_findSessions_112 : decode cX12_findSessions 112 = .ok (.iconst 4, 1) := by decide +kernel
theorem dX12_findSessions_113 : decode cX12_findSessions 113 = .ok (.iload_n 1, 1) := by decide +kernel
theorem dX12_findSessions_114 : decode cX12_findSessions 114 = .ok (.iconst 1, 1) := by decide +kernel
theorem dX12_findSessions_115 : decode cX12_findSessions 115 = .ok (.iload 4, 2) := by decide +kernel
theorem dX12_findSessions_117 : decode cX12_findSessions 117 = .ok (.ishl, 1) := by decide +kernel
theorem dX12_findSessions_118 : decode cX12_findSessions 118 = .ok (.ior, 1) := by decide +kernel
theorem dX12_findSessions_119 : decode cX12_findSessions 119 = .ok (.imul, 1) := by decide +kernel
theorem dX12_findSessions_120 : decode cX12_findSessions 120 = .ok (.aload_n 0, 1) := by decide +kernel
theorem dX12_findSessions_121 : decode cX12_findSessions 121 = .ok (.getfield 25, 3) := by decide +kernel
theorem dX12_findSessions_124 : decode cX12_findSessions 124 = .ok (.iload 4, 2) := by decide +kernel
theorem dX12_findSessions_126 : decode cX12_findSessions 126 = .ok (.iaload, 1) := by decide +kernel
theorem dX12_findSessions_127 : decode cX12_findSessions 127 = .ok (.iadd, 1) := by decide +kernel
theorem dX12_findSessions_128 : decode cX12_findSessions 128 = .ok (.istore 5, 2) := by decide +kernel
theorem dX12_findSessions_130 : decode cX12_findSessions 130 = .ok (.iload_n 1, 1) := by decide +kernel
theorem dX12_findSessions_131 : decode cX12_findSessions 131 = .ok (.ifCond .le 18, 3) := by decide +kernel
theorem dX12_findSessions_134 : decode cX12_findSessions 134 = .ok (.aload_n 0, 1) := by decide +kernel
theorem dX12_findSessions_135 : decode cX12_findSessions 135 = .ok (.getfield 25, 3) := by decide +kernel
theorem dX12_findSessions_138 : decode cX12_findSessions 138 = .ok (.iload 4, 2) := by decide +kernel
theorem dX12_findSessions_140 : decode cX12_findSessions 140 = .ok (.iaload, 1) := by decide +kernel
theorem dX12_findSessions_141 : decode cX12_findSessions 141 = .ok (.iload_n 2, 1) := by decide +kernel
theorem dX12_findSessions_142 : decode cX12_findSessions 142 = .ok (.if_icmp .ne 7, 3) := by decide +kernel
theorem dX12_findSessions_145 : decode cX12_findSessions 145 = .ok (.iconst 1, 1) := by decide +kernel
theorem dX12_findSessions_146 : decode cX12_findSessions 146 = .ok (.goto 4, 3) := by decide +kernel
theorem dX12_findSessions_149 : decode cX12_findSessions 149 = .ok (.iconst 0, 1) := by decide +kernel
theorem dX12_findSessions_150 : decode cX12_findSessions 150 = .ok (.istore 6, 2) := by decide +kernel
theorem dX12_findSessions_152 : decode cX12_findSessions 152 = .ok (.aload_n 0, 1) := by decide +kernel
theorem dX12_findSessions_153 : decode cX12_findSessions 153 = .ok (.getfield 88, 3) := by decide +kernel
theorem dX12_findSessions_156 : decode cX12_findSessions 156 = .ok (.iload 5, 2) := by decide +kernel
theorem dX12_findSessions_158 : decode cX12_findSessions 158 = .ok (.iaload, 1) := by decide +kernel
theorem dX12_findSessions_159 : decode cX12_findSessions 159 = .ok (.iload 6, 2) := by decide +kernel
theorem dX12_findSessions_161 : decode cX12_findSessions 161 = .ok (.ifCond .eq 7, 3) := by decide +kernel
theorem dX12_findSessions_164 : decode cX12_findSessions 164 = .ok (.iconst 0, 1) := by decide +kernel
theorem dX12_findSessions_165 : decode cX12_findSessions 165 = .ok (.goto 4, 3) := by decide +kernel
theorem dX12_findSessions_168 : decode cX12_findSessions 168 = .ok (.iconst 1, 1) := by decide +kernel
theorem dX12_findSessions_169 : decode cX12_findSessions 169 = .ok (.iadd, 1) := by decide +kernel
theorem dX12_findSessions_170 : decode cX12_findSessions 170 = .ok (.istore 7, 2) := by decide +kernel
theorem dX12_findSessions_172 : decode cX12_findSessions 172 = .ok (.aload_n 0, 1) := by decide +kernel
theorem dX12_findSessions_173 : decode cX12_findSessions 173 = .ok (.getfield 91, 3) := by decide +kernel
theorem dX12_findSessions_176 : decode cX12_findSessions 176 = .ok (.iload 5, 2) := by decide +kernel
theorem dX12_findSessions_178 : decode cX12_findSessions 178 = .ok (.iaload, 1) := by decide +kernel
theorem dX12_findSessions_179 : decode cX12_findSessions 179 = .ok (.iload 6, 2) := by decide +kernel
theorem dX12_findSessions_181 : decode cX12_findSessions 181 = .ok (.ifCond .ne 7, 3) := by decide +kernel
theorem dX12_findSessions_184 : decode cX12_findSessions 184 = .ok (.iload_n 1, 1) := by decide +kernel
theorem dX12_findSessions_185 : decode cX12_findSessions 185 = .ok (.ifCond .ne 7, 3) := by decide +kernel
theorem dX12_findSessions_188 : decode cX12_findSessions 188 = .ok (.iconst 0, 1) := by decide +kernel
theorem dX12_findSessions_189 : decode cX12_findSessions 189 = .ok (.goto 8, 3) := by decide +kernel
theorem dX12_findSessions_192 : decode cX12_findSessions 192 = .ok (.aload_n 0, 1) := by decide +kernel
theorem dX12_findSessions_193 : decode cX12_findSessions 193 = .ok (.iload_n 1, 1) := by decide +kernel
theorem dX12_findSessions_194 : decode cX12_findSessions 194 = .ok (.invokevirtual 319, 3) := by decide +kernel
theorem dX12_findSessions_197 : decode cX12_findSessions 197 = .ok (.iadd, 1) := by decide +kernel
theorem dX12_findSessions_198 : decode cX12_findSessions 198 = .ok (.istore 8, 2) := by decide +kernel
theorem dX12_findSessions_200 : decode cX12_findSessions 200 = .ok (.iload 7, 2) := by decide +kernel
theorem dX12_findSessions_202 : decode cX12_findSessions 202 = .ok (.aload_n 0, 1) := by decide +kernel
theorem dX12_findSessions_203 : decode cX12_findSessions 203 = .ok (.getfield 88, 3) := by decide +kernel
theorem dX12_findSessions_206 : decode cX12_findSessions 206 = .ok (.iload_n 3, 1) := by decide +kernel
theorem dX12_findSessions_207 : decode cX12_findSessions 207 = .ok (.iaload, 1) := by decide +kernel
theorem dX12_findSessions_208 : decode cX12_findSessions 208 = .ok (.if_icmp .lt 25, 3) := by decide +kernel
theorem dX12_findSessions_211 : decode cX12_findSessions 211 = .ok (.iload 7, 2) := by decide +kernel
theorem dX12_findSessions_213 : decode cX12_findSessions 213 = .ok (.aload_n 0, 1) := by decide +kernel
theorem dX12_findSessions_214 : decode cX12_findSessions 214 = .ok (.getfield 88, 3) := by decide +kernel
theorem dX12_findSessions_217 : decode cX12_findSessions 217 = .ok (.iload_n 3, 1) := by decide +kernel
theorem dX12_findSessions_218 : decode cX12_findSessions 218 = .ok (.iaload, 1) := by decide +kernel
theorem dX12_findSessions_219 : decode cX12_findSessions 219 = .ok (.if_icmp .ne 18, 3) := by decide +kernel
theorem dX12_findSessions_222 : decode cX12_findSessions 222 = .ok (.iload 8, 2) := by decide +kernel
theorem dX12_findSessions_224 : decode cX12_findSessions 224 = .ok (.aload_n 0, 1) := by decide +kernel
theorem dX12_findSessions_225 : decode cX12_findSessions 225 = .ok (.getfield 91, 3) := by decide +kernel
theorem dX12_findSessions_228 : decode cX12_findSessions 228 = .ok (.iload_n 3, 1) := by decide +kernel
theorem dX12_findSessions_229 : decode cX12_findSessions 229 = .ok (.iaload, 1) := by decide +kernel
theorem dX12_findSessions_230 : decode cX12_findSessions 230 = .ok (.if_icmp .ge 7, 3) := by decide +kernel
theorem dX12_findSessions_233 : decode cX12_findSessions 233 = .ok (.iconst 1, 1) := by decide +kernel
theorem dX12_findSessions_234 : decode cX12_findSessions 234 = .ok (.goto 4, 3) := by decide +kernel
theorem dX12_findSessions_237 : decode cX12_findSessions 237 = .ok (.iconst 0, 1) := by decide +kernel
theorem dX12_findSessions_238 : decode cX12_findSessions 238 = .ok (.istore 9, 2) := by decide +kernel
theorem dX12_findSessions_240 : decode cX12_findSessions 240 = .ok (.aload_n 0, 1) := by decide +kernel
theorem dX12_findSessions_241 : decode cX12_findSessions 241 = .ok (.getfield 88, 3) := by decide +kernel
theorem dX12_findSessions_244 : decode cX12_findSessions 244 = .ok (.iload_n 3, 1) := by decide +kernel
theorem dX12_findSessions_245 : decode cX12_findSessions 245 = .ok (.iload 9, 2) := by decide +kernel
theorem dX12_findSessions_247 : decode cX12_findSessions 247 = .ok (.ifCond .eq 8, 3) := by decide +kernel
theorem dX12_findSessions_250 : decode cX12_findSessions 250 = .ok (.iload 7, 2) := by decide +kernel
theorem dX12_findSessions_252 : decode cX12_findSessions 252 = .ok (.goto 9, 3) := by decide +kernel
theorem dX12_findSessions_255 : decode cX12_findSessions 255 = .ok (.aload_n 0, 1) := by decide +kernel
theorem dX12_findSessions_256 : decode cX12_findSessions 256 = .ok (.getfield 88, 3) := by decide +kernel
theorem dX12_findSessions_259 : decode cX12_findSessions 259 = .ok (.iload_n 3, 1) := by decide +kernel
theorem dX12_findSessions_260 : decode cX12_findSessions 260 = .ok (.iaload, 1) := by decide +kernel
theorem dX12_findSessions_261 : decode cX12_findSessions 261 = .ok (.iastore, 1) := by decide +kernel
theorem dX12_findSessions_262 : decode cX12_findSessions 262 = .ok (.aload_n 0, 1) := by decide +kernel
theorem dX12_findSessions_263 : decode cX12_findSessions 263 = .ok (.getfield 91, 3) := by decide +kernel
theorem dX12_findSessions_266 : decode cX12_findSessions 266 = .ok (.iload_n 3, 1) := by decide +kernel
theorem dX12_findSessions_267 : decode cX12_findSessions 267 = .ok (.iload 9, 2) := by decide +kernel
theorem dX12_findSessions_269 : decode cX12_findSessions 269 = .ok (.ifCond .eq 8, 3) := by decide +kernel
theorem dX12_findSessions_272 : decode cX12_findSessions 272 = .ok (.iload 8, 2) := by decide +kernel
theorem dX12_findSessions_274 : decode cX12_findSessions 274 = .ok (.goto 9, 3) := by decide +kernel
theorem dX12_findSessions_277 : decode cX12_findSessions 277 = .ok (.aload_n 0, 1) := by decide +kernel
theorem dX12_findSessions_278 : decode cX12_findSessions 278 = .ok (.getfield 91, 3) := by decide +kernel
theorem dX12_findSessions_281 : decode cX12_findSessions 281 = .ok (.iload_n 3, 1) := by decide +kernel
theorem dX12_findSessions_282 : decode cX12_findSessions 282 = .ok (.iaload, 1) := by decide +kernel
theorem dX12_findSessions_283 : decode cX12_findSessions 283 = .ok (.iastore, 1) := by decide +kernel
theorem dX12_findSessions_284 : decode cX12_findSessions 284 = .ok (.iinc 4 1, 3) := by decide +kernel
theorem dX12_findSessions_287 : decode cX12_findSessions 287 = .ok (.goto (-207), 3) := by decide +kernel
theorem dX12_findSessions_290 : decode cX12_findSessions 290 = .ok (.iinc 2 1, 3) := by decide +kernel
theorem dX12_findSessions_293 : decode cX12_findSessions 293 = .ok (.goto (-278), 3) := by decide +kernel
theorem dX12_findSessions_296 : decode cX12_findSessions 296 = .ok (.iinc 1 (-1), 3) := by decide +kernel
theorem dX12_findSessions_299 : decode cX12_findSessions 299 = .ok (.goto (-290), 3) := by decide +kernel
theorem dX12_findSessions_302 : decode cX12_findSessions 302 = .ok (.return_, 1) := by decide +kernel
theorem dX12_fewest_0 : decode cX12_fewest 0 = .ok (.aload_n 0, 1) := by decide +kernel
theorem dX12_fewest_1 : decode cX12_fewest 1 = .ok (.invokevirtual 322, 3) := by decide +kernel
theorem dX12_fewest_4 : decode cX12_fewest 4 = .ok (.aload_n 0, 1) := by decide +kernel
theorem dX12_fewest_5 : decode cX12_fewest 5 = .ok (.getfield 141, 3) := by decide +kernel
theorem dX12_fewest_8 : decode cX12_fewest 8 = .ok (.ifCond .ne 7, 3) := by decide +kernel
theorem dX12_fewest_11 : decode cX12_fewest 11 = .ok (.iconst 0, 1) := by decide +kernel
theorem dX12_fewest_12 : decode cX12_fewest 12 = .ok (.goto 9, 3) := by decide +kernel
theorem dX12_fewest_15 : decode cX12_fewest 15 = .ok (.aload_n 0, 1) := by decide +kernel
theorem dX12_fewest_16 : decode cX12_fewest 16 = .ok (.getfield 88, 3) := by decide +kernel
theorem dX12_fewest_19 : decode cX12_fewest 19 = .ok (.iconst 0, 1) := by decide +kernel
theorem dX12_fewest_20 : decode cX12_fewest 20 = .ok (.iaload, 1) := by decide +kernel
theorem dX12_fewest_21 : decode cX12_fewest 21 = .ok (.ireturn, 1) := by decide +kernel
theorem dX12_session_0 : decode cX12_session 0 = .ok (.iload_n 1, 1) := by decide +kernel
theorem dX12_session_1 : decode cX12_session 1 = .ok (.i2l, 1) := by decide +kernel
theorem dX12_session_2 : decode cX12_session 2 = .ok (.lconst 0, 1) := by decide +kernel
theorem dX12_session_3 : decode cX12_session 3 = .ok (.aload_n 0, 1) := by decide +kernel
