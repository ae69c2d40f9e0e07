theorem dX10_looks_0 : decode cX10_looks 0 = .ok (.aload_n 0, 1) := by decide +kernel
theorem dX10_looks_1 : decode cX10_looks 1 = .ok (.iconst 0, 1) := by decide +kernel
theorem dX10_looks_2 : decode cX10_looks 2 = .ok (.putfield 133, 3) := by decide +kernel
theorem dX10_looks_5 : decode cX10_looks 5 = .ok (.aload_n 0, 1) := by decide +kernel
theorem dX10_looks_6 : decode cX10_looks 6 = .ok (.iconst 0, 1) := by decide +kernel
theorem dX10_looks_7 : decode cX10_looks 7 = .ok (.putfield 136, 3) := by decide +kernel
theorem dX10_looks_10 : decode cX10_looks 10 = .ok (.aload_n 0, 1) := by decide +kernel
theorem dX10_looks_11 : decode cX10_looks 11 = .ok (.getfield 21, 3) := by decide +kernel
theorem dX10_looks_14 : decode cX10_looks 14 = .ok (.iconst 0, 1) := by decide +kernel
theorem dX10_looks_15 : decode cX10_looks 15 = .ok (.iload_n 2, 1) := by decide +kernel
theorem dX10_looks_16 : decode cX10_looks 16 = .ok (.iastore, 1) := by decide +kernel
theorem dX10_looks_17 : decode cX10_looks 17 = .ok (.aload_n 0, 1) := by decide +kernel
theorem dX10_looks_18 : decode cX10_looks 18 = .ok (.getfield 21, 3) := by decide +kernel
theorem dX10_looks_21 : decode cX10_looks 21 = .ok (.iconst 1, 1) := by decide +kernel
theorem dX10_looks_22 : decode cX10_looks 22 = .ok (.aload_n 0, 1) := by decide +kernel
theorem dX10_looks_23 : decode cX10_looks 23 = .ok (.getfield 9, 3) := by decide +kernel
theorem dX10_looks_26 : decode cX10_looks 26 = .ok (.sipush 154, 3) := by decide +kernel
theorem dX10_looks_29 : decode cX10_looks 29 = .ok (.iload_n 1, 1) := by decide +kernel
theorem dX10_looks_30 : decode cX10_looks 30 = .ok (.iadd, 1) := by decide +kernel
theorem dX10_looks_31 : decode cX10_looks 31 = .ok (.iaload, 1) := by decide +kernel
theorem dX10_looks_32 : decode cX10_looks 32 = .ok (.iastore, 1) := by decide +kernel
theorem dX10_looks_33 : decode cX10_looks 33 = .ok (.aload_n 0, 1) := by decide +kernel
theorem dX10_looks_34 : decode cX10_looks 34 = .ok (.getfield 21, 3) := by decide +kernel
theorem dX10_looks_37 : decode cX10_looks 37 = .ok (.iconst 2, 1) := by decide +kernel
theorem dX10_looks_38 : decode cX10_looks 38 = .ok (.aload_n 0, 1) := by decide +kernel
theorem dX10_looks_39 : decode cX10_looks 39 = .ok (.getfield 9, 3) := by decide +kernel
theorem dX10_looks_42 : decode cX10_looks 42 = .ok (.sipush 130, 3) := by decide +kernel
theorem dX10_looks_45 : decode cX10_looks 45 = .ok (.iload_n 1, 1) := by decide +kernel
theorem dX10_looks_46 : decode cX10_looks 46 = .ok (.iadd, 1) := by decide +kernel
theorem dX10_looks_47 : decode cX10_looks 47 = .ok (.iaload, 1) := by decide +kernel
theorem dX10_looks_48 : decode cX10_looks 48 = .ok (.iastore, 1) := by decide +kernel
theorem dX10_looks_49 : decode cX10_looks 49 = .ok (.aload_n 0, 1) := by decide +kernel
theorem dX10_looks_50 : decode cX10_looks 50 = .ok (.getfield 21, 3) := by decide +kernel
theorem dX10_looks_53 : decode cX10_looks 53 = .ok (.iconst 3, 1) := by decide +kernel
theorem dX10_looks_54 : decode cX10_looks 54 = .ok (.iload_n 3, 1) := by decide +kernel
theorem dX10_looks_55 : decode cX10_looks 55 = .ok (.iastore, 1) := by decide +kernel
theorem dX10_looks_56 : decode cX10_looks 56 = .ok (.aload_n 0, 1) := by decide +kernel
theorem dX10_looks_57 : decode cX10_looks 57 = .ok (.getfield 21, 3) := by decide +kernel
theorem dX10_looks_60 : decode cX10_looks 60 = .ok (.iconst 4, 1) := by decide +kernel
theorem dX10_looks_61 : decode cX10_looks 61 = .ok (.aload_n 0, 1) := by decide +kernel
theorem dX10_looks_62 : decode cX10_looks 62 = .ok (.getfield 9, 3) := by decide +kernel
theorem dX10_looks_65 : decode cX10_looks 65 = .ok (.sipush 138, 3) := by decide +kernel
theorem dX10_looks_68 : decode cX10_looks 68 = .ok (.iload_n 1, 1) := by decide +kernel
theorem dX10_looks_69 : decode cX10_looks 69 = .ok (.iadd, 1) := by decide +kernel
theorem dX10_looks_70 : decode cX10_looks 70 = .ok (.iaload, 1) := by decide +kernel
theorem dX10_looks_71 : decode cX10_looks 71 = .ok (.iastore, 1) := by decide +kernel
theorem dX10_looks_72 : decode cX10_looks 72 = .ok (.aload_n 0, 1) := by decide +kernel
theorem dX10_looks_73 : decode cX10_looks 73 = .ok (.sipush 228, 3) := by decide +kernel
theorem dX10_looks_76 : decode cX10_looks 76 = .ok (.iconst 0, 1) := by decide +kernel
theorem dX10_looks_77 : decode cX10_looks 77 = .ok (.invokevirtual 139, 3) := by decide +kernel
theorem dX10_looks_80 : decode cX10_looks 80 = .ok (.istore 4, 2) := by decide +kernel
theorem dX10_looks_82 : decode cX10_looks 82 = .ok (.sipush 233, 3) := by decide +kernel
theorem dX10_looks_85 : decode cX10_looks 85 = .ok (.sipush 140, 3) := by decide +kernel
theorem dX10_looks_88 : decode cX10_looks 88 = .ok (.aload_n 0, 1) := by decide +kernel
theorem dX10_looks_89 : decode cX10_looks 89 = .ok (.getfield 9, 3) := by decide +kernel
theorem dX10_looks_92 : decode cX10_looks 92 = .ok (.bipush 9, 2) := by decide +kernel
theorem dX10_looks_94 : decode cX10_looks 94 = .ok (.iaload, 1) := by decide +kernel
theorem dX10_looks_95 : decode cX10_looks 95 = .ok (.imul, 1) := by decide +kernel
theorem dX10_looks_96 : decode cX10_looks 96 = .ok (.iadd, 1) := by decide +kernel
theorem dX10_looks_97 : decode cX10_looks 97 = .ok (.istore 5, 2) := by decide +kernel
theorem dX10_looks_99 : decode cX10_looks 99 = .ok (.iconst 0, 1) := by decide +kernel
theorem dX10_looks_100 : decode cX10_looks 100 = .ok (.istore 6, 2) := by decide +kernel
theorem dX10_looks_102 : decode cX10_looks 102 = .ok (.iload 5, 2) := by decide +kernel
theorem dX10_looks_104 : decode cX10_looks 104 = .ok (.istore 7, 2) := by decide +kernel
theorem dX10_looks_106 : decode cX10_looks 106 = .ok (.iload 7, 2) := by decide +kernel
theorem dX10_looks_108 : decode cX10_looks 108 = .ok (.iload 5, 2) := by decide +kernel
theorem dX10_looks_110 : decode cX10_looks 110 = .ok (.iload 4, 2) := by decide +kernel
theorem dX10_looks_112 : decode cX10_looks 112 = .ok (.iadd, 1) := by decide +kernel
theorem dX10_looks_113 : decode cX10_looks 113 = .ok (.if_icmp .ge 309, 3) := by decide +kernel
theorem dX10_looks_116 : decode cX10_looks 116 = .ok (.aload_n 0, 1) := by decide +kernel
theorem dX10_looks_117 : decode cX10_looks 117 = .ok (.getfield 9, 3) := by decide +kernel
theorem dX10_looks_120 : decode cX10_looks 120 = .ok (.iload 7, 2) := by decide +kernel
theorem dX10_looks_122 : decode cX10_looks 122 = .ok (.iaload, 1) := by decide +kernel
theorem dX10_looks_123 : decode cX10_looks 123 = .ok (.istore 8, 2) := by decide +kernel
theorem dX10_looks_125 : decode cX10_looks 125 = .ok (.iload 8, 2) := by decide +kernel
theorem dX10_looks_127 : decode cX10_looks 127 = .ok (.ifCond .lt 97, 3) := by decide +kernel
theorem dX10_looks_130 : decode cX10_looks 130 = .ok (.aload_n 0, 1) := by decide +kernel
theorem dX10_looks_131 : decode cX10_looks 131 = .ok (.getfield 21, 3) := by decide +kernel
theorem dX10_looks_134 : decode cX10_looks 134 = .ok (.iload 8, 2) := by decide +kernel
theorem dX10_looks_136 : decode cX10_looks 136 = .ok (.bipush 8, 2) := by decide +kernel
theorem dX10_looks_138 : decode cX10_looks 138 = .ok (.irem, 1) := by decide +kernel
theorem dX10_looks_139 : decode cX10_looks 139 = .ok (.iaload, 1) := by decide +kernel
theorem dX10_looks_140 : decode cX10_looks 140 = .ok (.istore 9, 2) := by decide +kernel
theorem dX10_looks_142 : decode cX10_looks 142 = .ok (.iload 8, 2) := by decide +kernel
theorem dX10_looks_144 : decode cX10_looks 144 = .ok (.bipush 8, 2) := by decide +kernel
theorem dX10_looks_146 : decode cX10_looks 146 = .ok (.idiv, 1) := by decide +kernel
theorem dX10_looks_147 : decode cX10_looks 147 = .ok (.iconst 4, 1) := by decide +kernel
theorem dX10_looks_148 : decode cX10_looks 148 = .ok (.irem, 1) := by decide +kernel
theorem dX10_looks_149 : decode cX10_looks 149 = .ok (.istore 10, 2) := by decide +kernel
theorem dX10_looks_151 : decode cX10_looks 151 = .ok (.iload 8, 2) := by decide +kernel
theorem dX10_looks_153 : decode cX10_looks 153 = .ok (.bipush 32, 2) := by decide +kernel
theorem dX10_looks_155 : decode cX10_looks 155 = .ok (.idiv, 1) := by decide +kernel
theorem dX10_looks_156 : decode cX10_looks 156 = .ok (.istore 11, 2) := by decide +kernel
theorem dX10_looks_158 : decode cX10_looks 158 = .ok (.aload_n 0, 1) := by decide +kernel
theorem dX10_looks_159 : decode cX10_looks 159 = .ok (.getfield 24, 3) := by decide +kernel
theorem dX10_looks_162 : decode cX10_looks 162 = .ok (.iload 6, 2) := by decide +kernel
theorem dX10_looks_164 : decode cX10_looks 164 = .ok (.iload 10, 2) := by decide +kernel
theorem dX10_looks_166 : decode cX10_looks 166 = .ok (.ifCond .ne 18, 3) := by decide +kernel
theorem dX10_looks_169 : decode cX10_looks 169 = .ok (.iload 9, 2) := by decide +kernel
theorem dX10_looks_171 : decode cX10_looks 171 = .ok (.iload 11, 2) := by decide +kernel
theorem dX10_looks_173 : decode cX10_looks 173 = .ok (.if_icmp .ge 7, 3) := by decide +kernel
theorem dX10_looks_176 : decode cX10_looks 176 = .ok (.iconst 1, 1) := by decide +kernel
theorem dX10_looks_177 : decode cX10_looks 177 = .ok (.goto 40, 3) := by decide +kernel
theorem dX10_looks_180 : decode cX10_looks 180 = .ok (.iconst 0, 1) := by decide +kernel
theorem dX10_looks_181 : decode cX10_looks 181 = .ok (.goto 36, 3) := by decide +kernel
theorem dX10_looks_184 : decode cX10_looks 184 = .ok (.iload 10, 2) := by decide +kernel
theorem dX10_looks_186 : decode cX10_looks 186 = .ok (.iconst 1, 1) := by decide +kernel
theorem dX10_looks_187 : decode cX10_looks 187 = .ok (.if_icmp .ne 18, 3) := by decide +kernel
theorem dX10_looks_190 : decode cX10_looks 190 = .ok (.iload 9, 2) := by decide +kernel
theorem dX10_looks_192 : decode cX10_looks 192 = .ok (.iload 11, 2) := by decide +kernel
theorem dX10_looks_194 : decode cX10_looks 194 = .ok (.if_icmp .ne 7, 3) := by decide +kernel
theorem dX10_looks_197 : decode cX10_looks 197 = .ok (.iconst 1, 1) := by decide +kernel
theorem dX10_looks_198 : decode cX10_looks 198 = .ok (.goto 19, 3) := by decide +kernel
theorem dX10_looks_201 : decode cX10_looks 201 = .ok (.iconst 0, 1) := by decide +kernel
theorem dX10_looks_202 : decode cX10_looks 202 = .ok (.goto 15, 3) := by decide +kernel
theorem dX10_looks_205 : decode cX10_looks 205 = .ok (.iload 9, 2) := by decide +kernel
theorem dX10_looks_207 : decode cX10_looks 207 = .ok (.iload 11, 2) := by decide +kernel
theorem dX10_looks_209 : decode cX10_looks 209 = .ok (.if_icmp .le 7, 3) := by decide +kernel
theorem dX10_looks_212 : decode cX10_looks 212 = .ok (.iconst 1, 1) := by decide +kernel
theorem dX10_looks_213 : decode cX10_looks 213 = .ok (.goto 4, 3) := by decide +kernel
theorem dX10_looks_216 : decode cX10_looks 216 = .ok (.iconst 0, 1) := by decide +kernel
theorem dX10_looks_217 : decode cX10_looks 217 = .ok (.bastore, 1) := by decide +kernel
theorem dX10_looks_218 : decode cX10_looks 218 = .ok (.iinc 6 1, 3) := by decide +kernel
theorem dX10_looks_221 : decode cX10_looks 221 = .ok (.goto 195, 3) := by decide +kernel
theorem dX10_looks_224 : decode cX10_looks 224 = .ok (.iload 8, 2) := by decide +kernel
theorem dX10_looks_226 : decode cX10_looks 226 = .ok (.iconst (-1), 1) := by decide +kernel
theorem dX10_looks_227 : decode cX10_looks 227 = .ok (.if_icmp .ne 32, 3) := by decide +kernel
theorem dX10_looks_230 : decode cX10_looks 230 = .ok (.aload_n 0, 1) := by decide +kernel
theorem dX10_looks_231 : decode cX10_looks 231 = .ok (.getfield 24, 3) := by decide +kernel
theorem dX10_looks_234 : decode cX10_looks 234 = .ok (.iload 6, 2) := by decide +kernel
theorem dX10_looks_236 : decode cX10_looks 236 = .ok (.iconst 1, 1) := by decide +kernel
theorem dX10_looks_237 : decode cX10_looks 237 = .ok (.isub, 1) := by decide +kernel
theorem dX10_looks_238 : decode cX10_looks 238 = .ok (.aload_n 0, 1) := by decide +kernel
theorem dX10_looks_239 : decode cX10_looks 239 = .ok (.getfield 24, 3) := by decide +kernel
theorem dX10_looks_242 : decode cX10_looks 242 = .ok (.iload 6, 2) := by decide +kernel
theorem dX10_looks_244 : decode cX10_looks 244 = .ok (.iconst 1, 1) := by decide +kernel
theorem dX10_looks_245 : decode cX10_looks 245 = .ok (.isub, 1) := by decide +kernel
theorem dX10_looks_246 : decode cX10_looks 246 = .ok (.baload, 1) := by decide +kernel
theorem dX10_looks_247 : decode cX10_looks 247 = .ok (.ifCond .ne 7, 3) := by decide +kernel
theorem dX10_looks_250 : decode cX10_looks 250 = .ok (.iconst 1, 1) := by decide +kernel
theorem dX10_looks_251 : decode cX10_looks 251 = .ok (.goto 4, 3) := by decide +kernel
theorem dX10_looks_254 : decode cX10_looks 254 = .ok (.iconst 0, 1) := by decide +kernel
theorem dX10_looks_255 : decode cX10_looks 255 = .ok (.bastore, 1) := by decide +kernel
theorem dX10_looks_256 : decode cX10_looks 256 = .ok (.goto 160, 3) := by decide +kernel
theorem dX10_looks_259 : decode cX10_looks 259 = .ok (.iload 8, 2) := by decide +kernel
theorem dX10_looks_261 : decode cX10_looks 261 = .ok (.bipush (-10), 2) := by decide +kernel
theorem dX10_looks_263 : decode cX10_looks 263 = .ok (.if_icmp .le 82, 3) := by decide +kernel
theorem dX10_looks_266 : decode cX10_looks 266 = .ok (.iinc 6 (-1), 3) := by decide +kernel
theorem dX10_looks_269 : decode cX10_looks 269 = .ok (.aload_n 0, 1) := by decide +kernel
theorem dX10_looks_270 : decode cX10_looks 270 = .ok (.getfield 24, 3) := by decide +kernel
theorem dX10_looks_273 : decode cX10_looks 273 = .ok (.iload 6, 2) := by decide +kernel
theorem dX10_looks_275 : decode cX10_looks 275 = .ok (.iconst 1, 1) := by decide +kernel
theorem dX10_looks_276 : decode cX10_looks 276 = .ok (.isub, 1) := by decide +kernel
theorem dX10_looks_277 : decode cX10_looks 277 = .ok (.iload 8, 2) := by decide +kernel
theorem dX10_looks_279 : decode cX10_looks 279 = .ok (.bipush (-2), 2) := by decide +kernel
theorem dX10_looks_281 : decode cX10_looks 281 = .ok (.if_icmp .ne 33, 3) := by decide +kernel
theorem dX10_looks_284 : decode cX10_looks 284 = .ok (.aload_n 0, 1) := by decide +kernel
theorem dX10_looks_285 : decode cX10_looks 285 = .ok (.getfield 24, 3) := by decide +kernel
theorem dX10_looks_288 : decode cX10_looks 288 = .ok (.iload 6, 2) := by decide +kernel
theorem dX10_looks_290 : decode cX10_looks 290 = .ok (.iconst 1, 1) := by decide +kernel
theorem dX10_looks_291 : decode cX10_looks 291 = .ok (.isub, 1) := by decide +kernel
theorem dX10_looks_292 : decode cX10_looks 292 = .ok (.baload, 1) := by decide +kernel
theorem dX10_looks_293 : decode cX10_looks 293 = .ok (.ifCond .eq 17, 3) := by decide +kernel
theorem dX10_looks_296 : decode cX10_looks 296 = .ok (.aload_n 0, 1) := by decide +kernel
theorem dX10_looks_297 : decode cX10_looks 297 = .ok (.getfield 24, 3) := by decide +kernel
theorem dX10_looks_300 : decode cX10_looks 300 = .ok (.iload 6, 2) := by decide +kernel
theorem dX10_looks_302 : decode cX10_looks 302 = .ok (.baload, 1) := by decide +kernel
theorem dX10_looks_303 : decode cX10_looks 303 = .ok (.ifCond .eq 7, 3) := by decide +kernel
theorem dX10_looks_306 : decode cX10_looks 306 = .ok (.iconst 1, 1) := by decide +kernel
theorem dX10_looks_307 : decode cX10_looks 307 = .ok (.goto 34, 3) := by decide +kernel
theorem dX10_looks_310 : decode cX10_looks 310 = .ok (.iconst 0, 1) := by decide +kernel
theorem dX10_looks_311 : decode cX10_looks 311 = .ok (.goto 30, 3) := by decide +kernel
theorem dX10_looks_314 : decode cX10_looks 314 = .ok (.aload_n 0, 1) := by decide +kernel
theorem dX10_looks_315 : decode cX10_looks 315 = .ok (.getfield 24, 3) := by decide +kernel
theorem dX10_looks_318 : decode cX10_looks 318 = .ok (.iload 6, 2) := by decide +kernel
theorem dX10_looks_320 : decode cX10_looks 320 = .ok (.iconst 1, 1) := by decide +kernel
theorem dX10_looks_321 : decode cX10_looks 321 = .ok (.isub, 1) := by decide +kernel
theorem dX10_looks_322 : decode cX10_looks 322 = .ok (.baload, 1) := by decide +kernel
theorem dX10_looks_323 : decode cX10_looks 323 = .ok (.ifCond .ne 13, 3) := by decide +kernel
theorem dX10_looks_326 : decode cX10_looks 326 = .ok (.aload_n 0, 1) := by decide +kernel
theorem dX10_looks_327 : decode cX10_looks 327 = .ok (.getfield 24, 3) := by decide +kernel
theorem dX10_looks_330 : decode cX10_looks 330 = .ok (.iload 6, 2) := by decide +kernel
theorem dX10_looks_332 : decode cX10_looks 332 = .ok (.baload, 1) := by decide +kernel
theorem dX10_looks_333 : decode cX10_looks 333 = .ok (.ifCond .eq 7, 3) := by decide +kernel
theorem dX10_looks_336 : decode cX10_looks 336 = .ok (.iconst 1, 1) := by decide +kernel
theorem dX10_looks_337 : decode cX10_looks 337 = .ok (.goto 4, 3) := by decide +kernel
theorem dX10_looks_340 : decode cX10_looks 340 = .ok (.iconst 0, 1) := by decide +kernel
theorem dX10_looks_341 : decode cX10_looks 341 = .ok (.bastore, 1) := by decide +kernel
theorem dX10_looks_342 : decode cX10_looks 342 = .ok (.goto 74, 3) := by decide +kernel
theorem dX10_looks_345 : decode cX10_looks 345 = .ok (.iconst 0, 1) := by decide +kernel
theorem dX10_looks_346 : decode cX10_looks 346 = .ok (.istore 6, 2) := by decide +kernel
theorem dX10_looks_348 : decode cX10_looks 348 = .ok (.aload_n 0, 1) := by decide +kernel
theorem dX10_looks_349 : decode cX10_looks 349 = .ok (.aload_n 0, 1) := by decide +kernel
theorem dX10_looks_350 : decode cX10_looks 350 = .ok (.getfield 136, 3) := by decide +kernel
theorem dX10_looks_353 : decode cX10_looks 353 = .ok (.ifCond .ne 20, 3) := by decide +kernel
theorem dX10_looks_356 : decode cX10_looks 356 = .ok (.iload 8, 2) := by decide +kernel
theorem dX10_looks_358 : decode cX10_looks 358 = .ok (.sipush (-200), 3) := by decide +kernel
theorem dX10_looks_361 : decode cX10_looks 361 = .ok (.if_icmp .ne 16, 3) := by decide +kernel
theorem dX10_looks_364 : decode cX10_looks 364 = .ok (.aload_n 0, 1) := by decide +kernel
theorem dX10_looks_365 : decode cX10_looks 365 = .ok (.getfield 24, 3) := by decide +kernel
theorem dX10_looks_368 : decode cX10_looks 368 = .ok (.iconst 0, 1) := by decide +kernel
theorem dX10_looks_369 : decode cX10_looks 369 = .ok (.baload, 1) := by decide +kernel
theorem dX10_looks_370 : decode cX10_looks 370 = .ok (.ifCond .eq 7, 3) := by decide +kernel
theorem dX10_looks_373 : decode cX10_looks 373 = .ok (.iconst 1, 1) := by decide +kernel
theorem dX10_looks_374 : decode cX10_looks 374 = .ok (.goto 4, 3) := by decide +kernel
theorem dX10_looks_377 : decode cX10_looks 377 = .ok (.iconst 0, 1) := by decide +kernel
theorem dX10_looks_378 : decode cX10_looks 378 = .ok (.putfield 136, 3) := by decide +kernel
theorem dX10_looks_381 : decode cX10_looks 381 = .ok (.aload_n 0, 1) := by decide +kernel
theorem dX10_looks_382 : decode cX10_looks 382 = .ok (.dup, 1) := by decide +kernel
theorem dX10_looks_383 : decode cX10_looks 383 = .ok (.getfield 133, 3) := by decide +kernel
theorem dX10_looks_386 : decode cX10_looks 386 = .ok (.iload 8, 2) := by decide +kernel
theorem dX10_looks_388 : decode cX10_looks 388 = .ok (.sipush (-200), 3) := by decide +kernel
theorem dX10_looks_391 : decode cX10_looks 391 = .ok (.if_icmp .le 20, 3) := by decide +kernel
theorem dX10_looks_394 : decode cX10_looks 394 = .ok (.aload_n 0, 1) := by decide +kernel
theorem dX10_looks_395 : decode cX10_looks 395 = .ok (.getfield 24, 3) := by decide +kernel
theorem dX10_looks_398 : decode cX10_looks 398 = .ok (.iconst 0, 1) := by decide +kernel
theorem dX10_looks_399 : decode cX10_looks 399 = .ok (.baload, 1) := by decide +kernel
theorem dX10_looks_400 : decode cX10_looks 400 = .ok (.ifCond .eq 11, 3) := by decide +kernel
theorem dX10_looks_403 : decode cX10_looks 403 = .ok (.bipush (-10), 2) := by decide +kernel
theorem dX10_looks_405 : decode cX10_looks 405 = .ok (.iload 8, 2) := by decide +kernel
theorem dX10_looks_407 : decode cX10_looks 407 = .ok (.isub, 1) := by decide +kernel
theorem dX10_looks_408 : decode cX10_looks 408 = .ok (.goto 4, 3) := by decide +kernel
theorem dX10_looks_411 : decode cX10_looks 411 = .ok (.iconst 0, 1) := by decide +kernel
theorem dX10_looks_412 : decode cX10_looks 412 = .ok (.iadd, 1) := by decide +kernel
theorem dX10_looks_413 : decode cX10_looks 413 = .ok (.putfield 133, 3) := by decide +kernel
theorem dX10_looks_416 : decode cX10_looks 416 = .ok (.iinc 7 1, 3) := by decide +kernel
theorem dX10_looks_419 : decode cX10_looks 419 = .ok (.goto (-313), 3) := by decide +kernel
theorem dX10_looks_422 : decode cX10_looks 422 = .ok (.return_, 1) := by decide +kernel
def fX10_looks_B416 (rc106 : Int → Int → Int → Int → vr_M → Option (Int × vr_M)) (x4 : Int) (x5 : Int) (x6 : Int) (x7 : Int) (μ : vr_M) : Option (Int × vr_M) :=
  vr_gd (vr_R (x7 + 1)) (rc106 x4 x5 x6 (x7 + 1) μ)
def fX10_looks_B217 (rc106 : Int → Int → Int → Int → vr_M → Option (Int × vr_M)) (x4 : Int) (x5 : Int) (x6 : Int) (x7 : Int) (y1 : Int) (y2 : Int) (μ : vr_M) : Option (Int × vr_M) :=
  vr_gd (0 ≤ y1 ∧ y1 < 64) (vr_gd (y2 = 0 ∨ y2 = 1) (vr_gd (vr_R (x6 + 1)) (fX10_looks_B416 rc106 x4 x5 (x6 + 1) x7 (vr_u μ 73 y1.toNat y2))))
def fX10_looks_B255 (rc106 : Int → Int → Int → Int → vr_M → Option (Int × vr_M)) (x4 : Int) (x5 : Int) (x6 : Int) (x7 : Int) (y1 : Int) (y2 : Int) (μ : vr_M) : Option (Int × vr_M) :=
  vr_gd (0 ≤ y1 ∧ y1 < 64) (vr_gd (y2 = 0 ∨ y2 = 1) (fX10_looks_B416 rc106 x4 x5 x6 x7 (vr_u μ 73 y1.toNat y2)))
def fX10_looks_B341 (rc106 : Int → Int → Int → Int → vr_M → Option (Int × vr_M)) (x4 : Int) (x5 : Int) (x6 : Int) (x7 : Int) (y1 : Int) (y2 : Int) (μ : vr_M) : Option (Int × vr_M) :=
  vr_gd (0 ≤ y1 ∧ y1 < 64) (vr_gd (y2 = 0 ∨ y2 = 1) (fX10_looks_B416 rc106 x4 x5 x6 x7 (vr_u μ 73 y1.toNat y2)))
def fX10_looks_B310 (rc106 : Int → Int → Int → Int → vr_M → Option (Int × vr_M)) (x4 : Int) (x5 : Int) (x6 : Int) (x7 : Int) (y1 : Int) (μ : vr_M) : Option (Int × vr_M) :=
  fX10_looks_B341 rc106 x4 x5 x6 x7 y1 0 μ
def fX10_looks_B336 (rc106 : Int → Int → Int → Int → vr_M → Option (Int × vr_M)) (x4 : Int) (x5 : Int) (x6 : Int) (x7 : Int) (y1 : Int) (μ : vr_M) : Option (Int × vr_M) :=
  fX10_looks_B341 rc106 x4 x5 x6 x7 y1 1 μ
def fX10_looks_B412 (rc106 : Int → Int → Int → Int → vr_M → Option (Int × vr_M)) (x4 : Int) (x5 : Int) (x6 : Int) (x7 : Int) (y1 : Int) (y2 : Int) (μ : vr_M) : Option (Int × vr_M) :=
  fX10_looks_B416 rc106 x4 x5 x6 x7 (vr_u μ 68 12 (y1 + y2))
def fX10_looks_B411 (rc106 : Int → Int → Int → Int → vr_M → Option (Int × vr_M)) (x4 : Int) (x5 : Int) (x6 : Int) (x7 : Int) (y1 : Int) (μ : vr_M) : Option (Int × vr_M) :=
  fX10_looks_B412 rc106 x4 x5 x6 x7 y1 0 μ
def fX10_looks_B378 (rc106 : Int → Int → Int → Int → vr_M → Option (Int × vr_M)) (x4 : Int) (x5 : Int) (x6 : Int) (x7 : Int) (x8 : Int) (y1 : Int) (μ : vr_M) : Option (Int × vr_M) :=
  vr_gd (y1 = 0 ∨ y1 = 1) (vr_let (vr_u μ 68 13 y1) (fun μ10 => if x8 ≤ (-200) then vr_gd (vr_R (μ10 68 12)) (fX10_looks_B411 rc106 x4 x5 x6 x7 (μ10 68 12) μ10) else vr_gd (vr_R (μ10 73 0)) (if (μ10 73 0) = 0 then vr_gd (vr_R (μ10 68 12)) (fX10_looks_B411 rc106 x4 x5 x6 x7 (μ10 68 12) μ10) else vr_gd (vr_R (μ10 68 12)) (vr_gd (vr_R ((-10) - x8)) (fX10_looks_B412 rc106 x4 x5 x6 x7 (μ10 68 12) ((-10) - x8) μ10)))))
def fX10_looks_B373 (rc106 : Int → Int → Int → Int → vr_M → Option (Int × vr_M)) (x4 : Int) (x5 : Int) (x6 : Int) (x7 : Int) (x8 : Int) (μ : vr_M) : Option (Int × vr_M) :=
  fX10_looks_B378 rc106 x4 x5 x6 x7 x8 1 μ
def fX10_looks_B377 (rc106 : Int → Int → Int → Int → vr_M → Option (Int × vr_M)) (x4 : Int) (x5 : Int) (x6 : Int) (x7 : Int) (x8 : Int) (μ : vr_M) : Option (Int × vr_M) :=
  fX10_looks_B378 rc106 x4 x5 x6 x7 x8 0 μ
def fX10_looks_L106 : Nat → Int → Int → Int → Int → vr_M → Option (Int × vr_M)
  | 0, _, _, _, _, _ => none
  | n + 1, x4, x5, x6, x7, μ => vr_gd (vr_R (x5 + x4)) (if (x5 + x4) ≤ x7 then some (0, μ) else vr_gd (0 ≤ x7 ∧ x7 < 933) (vr_gd (vr_R (μ 69 x7.toNat)) (if (μ 69 x7.toNat) < 0 then if ¬ (μ 69 x7.toNat) = (-1) then if (μ 69 x7.toNat) ≤ (-10) then vr_gd (vr_R (μ 68 13)) (if ¬ (μ 68 13) = 0 then fX10_looks_B373 (fX10_looks_L106 n) x4 x5 0 x7 (μ 69 x7.toNat) μ else if ¬ (μ 69 x7.toNat) = (-200) then fX10_looks_B377 (fX10_looks_L106 n) x4 x5 0 x7 (μ 69 x7.toNat) μ else vr_gd (vr_R (μ 73 0)) (if (μ 73 0) = 0 then fX10_looks_B377 (fX10_looks_L106 n) x4 x5 0 x7 (μ 69 x7.toNat) μ else fX10_looks_B373 (fX10_looks_L106 n) x4 x5 0 x7 (μ 69 x7.toNat) μ)) else if ¬ (μ 69 x7.toNat) = (-2) then vr_gd (0 ≤ ((x6 + (-1)) - 1) ∧ ((x6 + (-1)) - 1) < 64) (vr_gd (vr_R (μ 73 ((x6 + (-1)) - 1).toNat)) (if ¬ (μ 73 ((x6 + (-1)) - 1).toNat) = 0 then vr_gd (vr_R (x6 + (-1))) (vr_gd (vr_R ((x6 + (-1)) - 1)) (fX10_looks_B336 (fX10_looks_L106 n) x4 x5 (x6 + (-1)) x7 ((x6 + (-1)) - 1) μ)) else vr_gd (0 ≤ (x6 + (-1)) ∧ (x6 + (-1)) < 64) (vr_gd (vr_R (μ 73 (x6 + (-1)).toNat)) (if (μ 73 (x6 + (-1)).toNat) = 0 then vr_gd (vr_R (x6 + (-1))) (vr_gd (vr_R ((x6 + (-1)) - 1)) (fX10_looks_B341 (fX10_looks_L106 n) x4 x5 (x6 + (-1)) x7 ((x6 + (-1)) - 1) 0 μ)) else vr_gd (vr_R (x6 + (-1))) (vr_gd (vr_R ((x6 + (-1)) - 1)) (fX10_looks_B336 (fX10_looks_L106 n) x4 x5 (x6 + (-1)) x7 ((x6 + (-1)) - 1) μ)))))) else vr_gd (0 ≤ ((x6 + (-1)) - 1) ∧ ((x6 + (-1)) - 1) < 64) (vr_gd (vr_R (μ 73 ((x6 + (-1)) - 1).toNat)) (if (μ 73 ((x6 + (-1)) - 1).toNat) = 0 then vr_gd (vr_R (x6 + (-1))) (vr_gd (vr_R ((x6 + (-1)) - 1)) (fX10_looks_B310 (fX10_looks_L106 n) x4 x5 (x6 + (-1)) x7 ((x6 + (-1)) - 1) μ)) else vr_gd (0 ≤ (x6 + (-1)) ∧ (x6 + (-1)) < 64) (vr_gd (vr_R (μ 73 (x6 + (-1)).toNat)) (if (μ 73 (x6 + (-1)).toNat) = 0 then vr_gd (vr_R (x6 + (-1))) (vr_gd (vr_R ((x6 + (-1)) - 1)) (fX10_looks_B310 (fX10_looks_L106 n) x4 x5 (x6 + (-1)) x7 ((x6 + (-1)) - 1) μ)) else vr_gd (vr_R (x6 + (-1))) (vr_gd (vr_R ((x6 + (-1)) - 1)) (fX10_looks_B341 (fX10_looks_L106 n) x4 x5 (x6 + (-1)) x7 ((x6 + (-1)) - 1) 1 μ)))))) else vr_gd (0 ≤ (x6 - 1) ∧ (x6 - 1) < 64) (vr_gd (vr_R (μ 73 (x6 - 1).toNat)) (if ¬ (μ 73 (x6 - 1).toNat) = 0 then vr_gd (vr_R (x6 - 1)) (fX10_looks_B255 (fX10_looks_L106 n) x4 x5 x6 x7 (x6 - 1) 0 μ) else vr_gd (vr_R (x6 - 1)) (fX10_looks_B255 (fX10_looks_L106 n) x4 x5 x6 x7 (x6 - 1) 1 μ))) else vr_gd (0 ≤ ((μ 69 x7.toNat).tmod 8) ∧ ((μ 69 x7.toNat).tmod 8) < 5) (vr_gd (vr_R ((μ 69 x7.toNat).tdiv 8)) (vr_gd (vr_R (((μ 69 x7.toNat).tdiv 8).tmod 4)) (if ¬ (((μ 69 x7.toNat).tdiv 8).tmod 4) = 0 then if ¬ (((μ 69 x7.toNat).tdiv 8).tmod 4) = 1 then vr_gd (vr_R (μ 72 ((μ 69 x7.toNat).tmod 8).toNat)) (vr_gd (vr_R ((μ 69 x7.toNat).tdiv 32)) (if (μ 72 ((μ 69 x7.toNat).tmod 8).toNat) ≤ ((μ 69 x7.toNat).tdiv 32) then fX10_looks_B217 (fX10_looks_L106 n) x4 x5 x6 x7 x6 0 μ else fX10_looks_B217 (fX10_looks_L106 n) x4 x5 x6 x7 x6 1 μ)) else vr_gd (vr_R (μ 72 ((μ 69 x7.toNat).tmod 8).toNat)) (vr_gd (vr_R ((μ 69 x7.toNat).tdiv 32)) (if ¬ (μ 72 ((μ 69 x7.toNat).tmod 8).toNat) = ((μ 69 x7.toNat).tdiv 32) then fX10_looks_B217 (fX10_looks_L106 n) x4 x5 x6 x7 x6 0 μ else fX10_looks_B217 (fX10_looks_L106 n) x4 x5 x6 x7 x6 1 μ)) else vr_gd (vr_R (μ 72 ((μ 69 x7.toNat).tmod 8).toNat)) (vr_gd (vr_R ((μ 69 x7.toNat).tdiv 32)) (if ((μ 69 x7.toNat).tdiv 32) ≤ (μ 72 ((μ 69 x7.toNat).tmod 8).toNat) then fX10_looks_B217 (fX10_looks_L106 n) x4 x5 x6 x7 x6 0 μ else fX10_looks_B217 (fX10_looks_L106 n) x4 x5 x6 x7 x6 1 μ))))))))
def fX10_looks (a0 : Int) (a1 : Int) (a2 : Int) (μ : vr_M) : Option (Int × vr_M) :=
  vr_gd (0 ≤ (154 + a0) ∧ (154 + a0) < 933) (vr_let (vr_u (vr_u (vr_u μ 68 12 0) 68 13 0) 72 0 a1) (fun μ55 => vr_gd (0 ≤ (130 + a0) ∧ (130 + a0) < 933) (vr_let (vr_u μ55 72 1 (μ55 69 (154 + a0).toNat)) (fun μ57 => vr_gd (0 ≤ (138 + a0) ∧ (138 + a0) < 933) (vr_let (vr_u (vr_u μ57 72 2 (μ57 69 (130 + a0).toNat)) 72 3 a2) (fun μ59 => (fX10_tellsOf 228 0 (vr_u μ59 72 4 (μ59 69 (138 + a0).toNat))).bind (fun r60 => vr_gd (vr_R (233 + (140 * (r60.2 69 9)))) (fX10_looks_L106 9000 r60.1 (233 + (140 * (r60.2 69 9))) 0 (233 + (140 * (r60.2 69 9))) r60.2))))))))
set_option maxRecDepth 100000 in
set_option maxHeartbeats 4000000 in
theorem ct_X10_looks (l : Launch) (G : vr_G) (a0 : Int) (h_a0 : vr_R a0) (a1 : Int) (h_a1 : vr_R a1) (a2 : Int) (h_a2 : vr_R a2) (μ : vr_M) : vr_CV l yX10_looks cX10_looks 12 none ({ frames := 1, cells := 0, slots := 0, locals := 22 } : Room) G [.ref (vr_ad G 68), .int (vr_I a0), .int (vr_I a1), .int (vr_I a2)] μ (fX10_looks a0 a1 a2 μ) := by
  refine vr_start (own := RX10) (by decide) rfl (Nat.le_of_ble_eq_true rfl) (fun p e s m args below meth c C0 => ?_)
  show vr_J p l e _ s m args below meth c 12 0 0 G (vr_Z (vr_QV G) G args s below) 0 [(0, .ref (vr_ad G 68)), (1, .int (vr_I a0)), (2, .int (vr_I a1)), (3, .int (vr_I a2))] [] μ _
  have L106 : ∀ (n : Nat) (x4 : Int) (h_x4 : vr_R x4) (x5 : Int) (h_x5 : vr_R x5) (x6 : Int) (h_x6 : vr_R x6) (x7 : Int) (h_x7 : vr_R x7) (μ : vr_M), vr_J p l e ({ frames := 1, cells := 0, slots := 0, locals := 22 } : Room) s m args below meth c 12 0 0 G (vr_Z (vr_QV G) G args s below) 106 [(0, .ref (vr_ad G 68)), (4, .int (vr_I x4)), (5, .int (vr_I x5)), (6, .int (vr_I x6)), (7, .int (vr_I x7))] [] μ (fX10_looks_L106 n x4 x5 x6 x7 μ) := by
    intro n106
    induction n106 with
    | zero => intros; exact jr_none
    | succ n106 ih106 =>
      have B416 : ∀ (x4 : Int) (h_x4 : vr_R x4) (x5 : Int) (h_x5 : vr_R x5) (x6 : Int) (h_x6 : vr_R x6) (x7 : Int) (h_x7 : vr_R x7) (μ : vr_M), vr_J p l e ({ frames := 1, cells := 0, slots := 0, locals := 22 } : Room) s m args below meth c 12 0 0 G (vr_Z (vr_QV G) G args s below) 416 [(0, .ref (vr_ad G 68)), (4, .int (vr_I x4)), (5, .int (vr_I x5)), (6, .int (vr_I x6)), (7, .int (vr_I x7))] [] μ (fX10_looks_B416 (fX10_looks_L106 n106) x4 x5 x6 x7 μ) := by
        intro x4 h_x4 x5 h_x5 x6 h_x6 x7 h_x7 μ
        unfold fX10_looks_B416
        refine jr_iinc C0 (q := 4) dX10_looks_416 rfl (by decide) (lv' := [(7, .int (vr_I (x7 + 1))), (0, .ref (vr_ad G 68)), (4, .int (vr_I x4)), (5, .int (vr_I x5)), (6, .int (vr_I x6))]) rfl ?_
        refine jr_goto C0 dX10_looks_419 (tgt := 106) (by decide) ?_
        refine jr_gd (fun g1 => ?_)
        refine jr_sub [1, 2, 3, 4, 0] rfl ?_
        exact ih106 x4 h_x4 x5 h_x5 x6 h_x6 (x7 + 1) g1 _
      have B217 : ∀ (x4 : Int) (h_x4 : vr_R x4) (x5 : Int) (h_x5 : vr_R x5) (x6 : Int) (h_x6 : vr_R x6) (x7 : Int) (h_x7 : vr_R x7) (y1 : Int) (h_y1 : vr_R y1) (y2 : Int) (h_y2 : vr_R y2) (μ : vr_M), vr_J p l e ({ frames := 1, cells := 0, slots := 0, locals := 22 } : Room) s m args below meth c 12 0 0 G (vr_Z (vr_QV G) G args s below) 217 [(0, .ref (vr_ad G 68)), (4, .int (vr_I x4)), (5, .int (vr_I x5)), (6, .int (vr_I x6)), (7, .int (vr_I x7))] [.int (vr_I y2), .int (vr_I y1), .ref (vr_ad G 73)] μ (fX10_looks_B217 (fX10_looks_L106 n106) x4 x5 x6 x7 y1 y2 μ) := by
        intro x4 h_x4 x5 h_x5 x6 h_x6 x7 h_x7 y1 h_y1 y2 h_y2 μ
        unfold fX10_looks_B217
        refine jr_gd (fun g2 => ?_)
        refine jr_gd (fun g3 => ?_)
        refine jr_zast C0 (by decide) kd_73 kl_73 g2 (j := y1.toNat) rfl g3 dX10_looks_217 ?_
        refine jr_iinc C0 (q := 3) dX10_looks_218 rfl (by decide) (lv' := [(6, .int (vr_I (x6 + 1))), (0, .ref (vr_ad G 68)), (4, .int (vr_I x4)), (5, .int (vr_I x5)), (7, .int (vr_I x7))]) rfl ?_
        refine jr_goto C0 dX10_looks_221 (tgt := 416) (by decide) ?_
        refine jr_gd (fun g4 => ?_)
        refine jr_sub [1, 2, 3, 0, 4] rfl ?_
        exact B416 x4 h_x4 x5 h_x5 (x6 + 1) g4 x7 h_x7 _
      have B255 : ∀ (x4 : Int) (h_x4 : vr_R x4) (x5 : Int) (h_x5 : vr_R x5) (x6 : Int) (h_x6 : vr_R x6) (x7 : Int) (h_x7 : vr_R x7) (y1 : Int) (h_y1 : vr_R y1) (y2 : Int) (h_y2 : vr_R y2) (μ : vr_M), vr_J p l e ({ frames := 1, cells := 0, slots := 0, locals := 22 } : Room) s m args below meth c 12 0 0 G (vr_Z (vr_QV G) G args s below) 255 [(0, .ref (vr_ad G 68)), (4, .int (vr_I x4)), (5, .int (vr_I x5)), (6, .int (vr_I x6)), (7, .int (vr_I x7))] [.int (vr_I y2), .int (vr_I y1), .ref (vr_ad G 73)] μ (fX10_looks_B255 (fX10_looks_L106 n106) x4 x5 x6 x7 y1 y2 μ) := by
        intro x4 h_x4 x5 h_x5 x6 h_x6 x7 h_x7 y1 h_y1 y2 h_y2 μ
        unfold fX10_looks_B255
        refine jr_gd (fun g5 => ?_)
        refine jr_gd (fun g6 => ?_)
        refine jr_zast C0 (by decide) kd_73 kl_73 g5 (j := y1.toNat) rfl g6 dX10_looks_255 ?_
        refine jr_goto C0 dX10_looks_256 (tgt := 416) (by decide) ?_
        exact B416 x4 h_x4 x5 h_x5 x6 h_x6 x7 h_x7 _
      have B341 : ∀ (x4 : Int) (h_x4 : vr_R x4) (x5 : Int) (h_x5 : vr_R x5) (x6 : Int) (h_x6 : vr_R x6) (x7 : Int) (h_x7 : vr_R x7) (y1 : Int) (h_y1 : vr_R y1) (y2 : Int) (h_y2 : vr_R y2) (μ : vr_M), vr_J p l e ({ frames := 1, cells := 0, slots := 0, locals := 22 } : Room) s m args below meth c 12 0 0 G (vr_Z (vr_QV G) G args s below) 341 [(0, .ref (vr_ad G 68)), (4, .int (vr_I x4)), (5, .int (vr_I x5)), (6, .int (vr_I x6)), (7, .int (vr_I x7))] [.int (vr_I y2), .int (vr_I y1), .ref (vr_ad G 73)] μ (fX10_looks_B341 (fX10_looks_L106 n106) x4 x5 x6 x7 y1 y2 μ) := by
        intro x4 h_x4 x5 h_x5 x6 h_x6 x7 h_x7 y1 h_y1 y2 h_y2 μ
        unfold fX10_looks_B341
        refine jr_gd (fun g7 => ?_)
        refine jr_gd (fun g8 => ?_)
        refine jr_zast C0 (by decide) kd_73 kl_73 g7 (j := y1.toNat) rfl g8 dX10_looks_341 ?_
        refine jr_goto C0 dX10_looks_342 (tgt := 416) (by decide) ?_
        exact B416 x4 h_x4 x5 h_x5 x6 h_x6 x7 h_x7 _
      have B310 : ∀ (x4 : Int) (h_x4 : vr_R x4) (x5 : Int) (h_x5 : vr_R x5) (x6 : Int) (h_x6 : vr_R x6) (x7 : Int) (h_x7 : vr_R x7) (y1 : Int) (h_y1 : vr_R y1) (μ : vr_M), vr_J p l e ({ frames := 1, cells := 0, slots := 0, locals := 22 } : Room) s m args below meth c 12 0 0 G (vr_Z (vr_QV G) G args s below) 310 [(0, .ref (vr_ad G 68)), (4, .int (vr_I x4)), (5, .int (vr_I x5)), (6, .int (vr_I x6)), (7, .int (vr_I x7))] [.int (vr_I y1), .ref (vr_ad G 73)] μ (fX10_looks_B310 (fX10_looks_L106 n106) x4 x5 x6 x7 y1 μ) := by
        intro x4 h_x4 x5 h_x5 x6 h_x6 x7 h_x7 y1 h_y1 μ
        unfold fX10_looks_B310
        refine jr_iconst C0 dX10_looks_310 ?_
        refine jr_goto C0 dX10_looks_311 (tgt := 341) (by decide) ?_
        exact B341 x4 h_x4 x5 h_x5 x6 h_x6 x7 h_x7 y1 h_y1 0 (⟨by decide, by decide⟩) _
      have B336 : ∀ (x4 : Int) (h_x4 : vr_R x4) (x5 : Int) (h_x5 : vr_R x5) (x6 : Int) (h_x6 : vr_R x6) (x7 : Int) (h_x7 : vr_R x7) (y1 : Int) (h_y1 : vr_R y1) (μ : vr_M), vr_J p l e ({ frames := 1, cells := 0, slots := 0, locals := 22 } : Room) s m args below meth c 12 0 0 G (vr_Z (vr_QV G) G args s below) 336 [(0, .ref (vr_ad G 68)), (4, .int (vr_I x4)), (5, .int (vr_I x5)), (6, .int (vr_I x6)), (7, .int (vr_I x7))] [.int (vr_I y1), .ref (vr_ad G 73)] μ (fX10_looks_B336 (fX10_looks_L106 n106) x4 x5 x6 x7 y1 μ) := by
        intro x4 h_x4 x5 h_x5 x6 h_x6 x7 h_x7 y1 h_y1 μ
        unfold fX10_looks_B336
        refine jr_iconst C0 dX10_looks_336 ?_
        refine jr_goto C0 dX10_looks_337 (tgt := 341) (by decide) ?_
        exact B341 x4 h_x4 x5 h_x5 x6 h_x6 x7 h_x7 y1 h_y1 1 (⟨by decide, by decide⟩) _
      have B412 : ∀ (x4 : Int) (h_x4 : vr_R x4) (x5 : Int) (h_x5 : vr_R x5) (x6 : Int) (h_x6 : vr_R x6) (x7 : Int) (h_x7 : vr_R x7) (y1 : Int) (h_y1 : vr_R y1) (y2 : Int) (h_y2 : vr_R y2) (μ : vr_M), vr_J p l e ({ frames := 1, cells := 0, slots := 0, locals := 22 } : Room) s m args below meth c 12 0 0 G (vr_Z (vr_QV G) G args s below) 412 [(0, .ref (vr_ad G 68)), (4, .int (vr_I x4)), (5, .int (vr_I x5)), (6, .int (vr_I x6)), (7, .int (vr_I x7))] [.int (vr_I y2), .int (vr_I y1), .ref (vr_ad G 68)] μ (fX10_looks_B412 (fX10_looks_L106 n106) x4 x5 x6 x7 y1 y2 μ) := by
        intro x4 h_x4 x5 h_x5 x6 h_x6 x7 h_x7 y1 h_y1 y2 h_y2 μ
        unfold fX10_looks_B412
        refine jr_iadd C0 dX10_looks_412 ?_
        refine jr_puti C0 (by decide) kd_68 (by decide) rfl wx_X10 (i := 12) (by decide) wf_X10_133 rfl tyX10_ok nmX10 rfl rfl rfl dX10_looks_413 ?_
        exact B416 x4 h_x4 x5 h_x5 x6 h_x6 x7 h_x7 _
      have B411 : ∀ (x4 : Int) (h_x4 : vr_R x4) (x5 : Int) (h_x5 : vr_R x5) (x6 : Int) (h_x6 : vr_R x6) (x7 : Int) (h_x7 : vr_R x7) (y1 : Int) (h_y1 : vr_R y1) (μ : vr_M), vr_J p l e ({ frames := 1, cells := 0, slots := 0, locals := 22 } : Room) s m args below meth c 12 0 0 G (vr_Z (vr_QV G) G args s below) 411 [(0, .ref (vr_ad G 68)), (4, .int (vr_I x4)), (5, .int (vr_I x5)), (6, .int (vr_I x6)), (7, .int (vr_I x7))] [.int (vr_I y1), .ref (vr_ad G 68)] μ (fX10_looks_B411 (fX10_looks_L106 n106) x4 x5 x6 x7 y1 μ) := by
        intro x4 h_x4 x5 h_x5 x6 h_x6 x7 h_x7 y1 h_y1 μ
        unfold fX10_looks_B411
        refine jr_iconst C0 dX10_looks_411 ?_
        exact B412 x4 h_x4 x5 h_x5 x6 h_x6 x7 h_x7 y1 h_y1 0 (⟨by decide, by decide⟩) _
      have B378 : ∀ (x4 : Int) (h_x4 : vr_R x4) (x5 : Int) (h_x5 : vr_R x5) (x6 : Int) (h_x6 : vr_R x6) (x7 : Int) (h_x7 : vr_R x7) (x8 : Int) (h_x8 : vr_R x8) (y1 : Int) (h_y1 : vr_R y1) (μ : vr_M), vr_J p l e ({ frames := 1, cells := 0, slots := 0, locals := 22 } : Room) s m args below meth c 12 0 0 G (vr_Z (vr_QV G) G args s below) 378 [(0, .ref (vr_ad G 68)), (4, .int (vr_I x4)), (5, .int (vr_I x5)), (6, .int (vr_I x6)), (7, .int (vr_I x7)), (8, .int (vr_I x8))] [.int (vr_I y1), .ref (vr_ad G 68)] μ (fX10_looks_B378 (fX10_looks_L106 n106) x4 x5 x6 x7 x8 y1 μ) := by
        intro x4 h_x4 x5 h_x5 x6 h_x6 x7 h_x7 x8 h_x8 y1 h_y1 μ
        unfold fX10_looks_B378
        refine jr_gd (fun g9 => ?_)
        refine jr_puti C0 (by decide) kd_68 (by decide) rfl wx_X10 (i := 13) (by decide) wf_X10_136 rfl tyX10_ok nmX10 rfl (vr_nz g9) ((vr_fz .boolean (Or.inr rfl) (fun _ => g9)).2) dX10_looks_378 ?_
        refine jr_aload_n C0 0 dX10_looks_381 rfl rfl ?_
        refine jr_dup C0 rfl dX10_looks_382 ?_
        refine jr_let (fun μ10 => ?_)
        refine jr_geti C0 (by decide) kd_68 (by decide) rfl wx_X10 (i := 12) (by decide) wf_X10_133 rfl dX10_looks_383 ?_
        refine jr_iload C0 5 dX10_looks_386 rfl ?_
        refine jr_sipush C0 dX10_looks_388 rfl ?_
        refine jr_icmp_le C0 h_x8 (⟨by decide, by decide⟩) dX10_looks_391 (tgt := 411) (by decide) ?_ ?_
        · refine jr_gd (fun g11 => ?_)
          refine jr_sub [0, 1, 2, 3, 4] rfl ?_
          exact B411 x4 h_x4 x5 h_x5 x6 h_x6 x7 h_x7 (μ10 68 12) g11 _
        refine jr_aload_n C0 0 dX10_looks_394 rfl rfl ?_
        refine jr_getr C0 (by decide) kd_68 (by decide) rfl wx_X10 (i := 11) (by decide) wf_X10_24 (j := 73) rfl dX10_looks_395 ?_
        refine jr_iconst C0 dX10_looks_398 ?_
        refine jr_zald C0 (by decide) kd_73 kl_73 (by decide) (j := 0) rfl dX10_looks_399 ?_
        refine jr_gd (fun g12 => ?_)
        refine jr_if_eq C0 g12 dX10_looks_400 (tgt := 411) (by decide) ?_ ?_
        · refine jr_gd (fun g13 => ?_)
          refine jr_sub [0, 1, 2, 3, 4] rfl ?_
          exact B411 x4 h_x4 x5 h_x5 x6 h_x6 x7 h_x7 (μ10 68 12) g13 _
        refine jr_bipush C0 dX10_looks_403 rfl ?_
        refine jr_iload C0 5 dX10_looks_405 rfl ?_
        refine jr_isub C0 dX10_looks_407 ?_
        refine jr_goto C0 dX10_looks_408 (tgt := 412) (by decide) ?_
        refine jr_gd (fun g14 => ?_)
        refine jr_gd (fun g15 => ?_)
        refine jr_sub [0, 1, 2, 3, 4] rfl ?_
        exact B412 x4 h_x4 x5 h_x5 x6 h_x6 x7 h_x7 (μ10 68 12) g14 ((-10) - x8) g15 _
      have B373 : ∀ (x4 : Int) (h_x4 : vr_R x4) (x5 : Int) (h_x5 : vr_R x5) (x6 : Int) (h_x6 : vr_R x6) (x7 : Int) (h_x7 : vr_R x7) (x8 : Int) (h_x8 : vr_R x8) (μ : vr_M), vr_J p l e ({ frames := 1, cells := 0, slots := 0, locals := 22 } : Room) s m args below meth c 12 0 0 G (vr_Z (vr_QV G) G args s below) 373 [(0, .ref (vr_ad G 68)), (4, .int (vr_I x4)), (5, .int (vr_I x5)), (6, .int (vr_I x6)), (7, .int (vr_I x7)), (8, .int (vr_I x8))] [.ref (vr_ad G 68)] μ (fX10_looks_B373 (fX10_looks_L106 n106) x4 x5 x6 x7 x8 μ) := by
        intro x4 h_x4 x5 h_x5 x6 h_x6 x7 h_x7 x8 h_x8 μ
        unfold fX10_looks_B373
        refine jr_iconst C0 dX10_looks_373 ?_
        refine jr_goto C0 dX10_looks_374 (tgt := 378) (by decide) ?_
        exact B378 x4 h_x4 x5 h_x5 x6 h_x6 x7 h_x7 x8 h_x8 1 (⟨by decide, by decide⟩) _
      have B377 : ∀ (x4 : Int) (h_x4 : vr_R x4) (x5 : Int) (h_x5 : vr_R x5) (x6 : Int) (h_x6 : vr_R x6) (x7 : Int) (h_x7 : vr_R x7) (x8 : Int) (h_x8 : vr_R x8) (μ : vr_M), vr_J p l e ({ frames := 1, cells := 0, slots := 0, locals := 22 } : Room) s m args below meth c 12 0 0 G (vr_Z (vr_QV G) G args s below) 377 [(0, .ref (vr_ad G 68)), (4, .int (vr_I x4)), (5, .int (vr_I x5)), (6, .int (vr_I x6)), (7, .int (vr_I x7)), (8, .int (vr_I x8))] [.ref (vr_ad G 68)] μ (fX10_looks_B377 (fX10_looks_L106 n106) x4 x5 x6 x7 x8 μ) := by
        intro x4 h_x4 x5 h_x5 x6 h_x6 x7 h_x7 x8 h_x8 μ
        unfold fX10_looks_B377
        refine jr_iconst C0 dX10_looks_377 ?_
        exact B378 x4 h_x4 x5 h_x5 x6 h_x6 x7 h_x7 x8 h_x8 0 (⟨by decide, by decide⟩) _
      intro x4 h_x4 x5 h_x5 x6 h_x6 x7 h_x7 μ
      rw [fX10_looks_L106.eq_2]
      refine jr_iload C0 4 dX10_looks_106 rfl ?_
      refine jr_iload C0 2 dX10_looks_108 rfl ?_
      refine jr_iload C0 1 dX10_looks_110 rfl ?_
      refine jr_iadd C0 dX10_looks_112 ?_
      refine jr_gd (fun g16 => ?_)
      refine jr_icmp_ge C0 h_x7 g16 dX10_looks_113 (tgt := 422) (by decide) ?_ ?_
      · exact jr_vret C0 dX10_looks_422
      refine jr_aload_n C0 0 dX10_looks_116 rfl rfl ?_
      refine jr_getr C0 (by decide) kd_68 (by decide) rfl wx_X10 (i := 1) (by decide) wf_X10_9 (j := 69) rfl dX10_looks_117 ?_
      refine jr_iload C0 4 dX10_looks_120 rfl ?_
      refine jr_gd (fun g17 => ?_)
      refine jr_iald C0 (by decide) kd_69 kl_69 g17 (j := x7.toNat) rfl dX10_looks_122 ?_
      refine jr_istore C0 dX10_looks_123 (by decide) (lv' := [(8, .int (vr_I (μ 69 x7.toNat))), (0, .ref (vr_ad G 68)), (4, .int (vr_I x4)), (5, .int (vr_I x5)), (6, .int (vr_I x6)), (7, .int (vr_I x7))]) rfl ?_
      refine jr_iload C0 0 dX10_looks_125 rfl ?_
      refine jr_gd (fun g18 => ?_)
      refine jr_if_lt C0 g18 dX10_looks_127 (tgt := 224) (by decide) ?_ ?_
      · refine jr_iload C0 0 dX10_looks_224 rfl ?_
        refine jr_iconst C0 dX10_looks_226 ?_
        refine jr_icmp_ne C0 g18 (⟨by decide, by decide⟩) dX10_looks_227 (tgt := 259) (by decide) ?_ ?_
        · refine jr_iload C0 0 dX10_looks_259 rfl ?_
          refine jr_bipush C0 dX10_looks_261 rfl ?_
          refine jr_icmp_le C0 g18 (⟨by decide, by decide⟩) dX10_looks_263 (tgt := 345) (by decide) ?_ ?_
          · refine jr_iconst C0 dX10_looks_345 ?_
            refine jr_istore C0 dX10_looks_346 (by decide) (lv' := [(6, .int (vr_I 0)), (8, .int (vr_I (μ 69 x7.toNat))), (0, .ref (vr_ad G 68)), (4, .int (vr_I x4)), (5, .int (vr_I x5)), (7, .int (vr_I x7))]) rfl ?_
            refine jr_aload_n C0 2 dX10_looks_348 rfl rfl ?_
            refine jr_aload_n C0 2 dX10_looks_349 rfl rfl ?_
            refine jr_geti C0 (by decide) kd_68 (by decide) rfl wx_X10 (i := 13) (by decide) wf_X10_136 rfl dX10_looks_350 ?_
            refine jr_gd (fun g19 => ?_)
            refine jr_if_ne C0 g19 dX10_looks_353 (tgt := 373) (by decide) ?_ ?_
            · refine jr_sub [2, 3, 4, 0, 5, 1] rfl ?_
              exact B373 x4 h_x4 x5 h_x5 0 (⟨by decide, by decide⟩) x7 h_x7 (μ 69 x7.toNat) g18 _
            refine jr_iload C0 1 dX10_looks_356 rfl ?_
            refine jr_sipush C0 dX10_looks_358 rfl ?_
            refine jr_icmp_ne C0 g18 (⟨by decide, by decide⟩) dX10_looks_361 (tgt := 377) (by decide) ?_ ?_
            · refine jr_sub [2, 3, 4, 0, 5, 1] rfl ?_
              exact B377 x4 h_x4 x5 h_x5 0 (⟨by decide, by decide⟩) x7 h_x7 (μ 69 x7.toNat) g18 _
            refine jr_aload_n C0 2 dX10_looks_364 rfl rfl ?_
            refine jr_getr C0 (by decide) kd_68 (by decide) rfl wx_X10 (i := 11) (by decide) wf_X10_24 (j := 73) rfl dX10_looks_365 ?_
            refine jr_iconst C0 dX10_looks_368 ?_
            refine jr_zald C0 (by decide) kd_73 kl_73 (by decide) (j := 0) rfl dX10_looks_369 ?_
            refine jr_gd (fun g20 => ?_)
            refine jr_if_eq C0 g20 dX10_looks_370 (tgt := 377) (by decide) ?_ ?_
            · refine jr_sub [2, 3, 4, 0, 5, 1] rfl ?_
              exact B377 x4 h_x4 x5 h_x5 0 (⟨by decide, by decide⟩) x7 h_x7 (μ 69 x7.toNat) g18 _
            refine jr_sub [2, 3, 4, 0, 5, 1] rfl ?_
            exact B373 x4 h_x4 x5 h_x5 0 (⟨by decide, by decide⟩) x7 h_x7 (μ 69 x7.toNat) g18 _
          refine jr_iinc C0 (q := 4) dX10_looks_266 rfl (by decide) (lv' := [(6, .int (vr_I (x6 + (-1)))), (8, .int (vr_I (μ 69 x7.toNat))), (0, .ref (vr_ad G 68)), (4, .int (vr_I x4)), (5, .int (vr_I x5)), (7, .int (vr_I x7))]) rfl ?_
          refine jr_aload_n C0 2 dX10_looks_269 rfl rfl ?_
          refine jr_getr C0 (by decide) kd_68 (by decide) rfl wx_X10 (i := 11) (by decide) wf_X10_24 (j := 73) rfl dX10_looks_270 ?_
          refine jr_iload C0 0 dX10_looks_273 rfl ?_
          refine jr_iconst C0 dX10_looks_275 ?_
          refine jr_isub C0 dX10_looks_276 ?_
          refine jr_iload C0 1 dX10_looks_277 rfl ?_
          refine jr_bipush C0 dX10_looks_279 rfl ?_
          refine jr_icmp_ne C0 g18 (⟨by decide, by decide⟩) dX10_looks_281 (tgt := 314) (by decide) ?_ ?_
          · refine jr_aload_n C0 2 dX10_looks_314 rfl rfl ?_
            refine jr_getr C0 (by decide) kd_68 (by decide) rfl wx_X10 (i := 11) (by decide) wf_X10_24 (j := 73) rfl dX10_looks_315 ?_
            refine jr_iload C0 0 dX10_looks_318 rfl ?_
            refine jr_iconst C0 dX10_looks_320 ?_
            refine jr_isub C0 dX10_looks_321 ?_
            refine jr_gd (fun g21 => ?_)
            refine jr_zald C0 (by decide) kd_73 kl_73 g21 (j := ((x6 + (-1)) - 1).toNat) rfl dX10_looks_322 ?_
            refine jr_gd (fun g22 => ?_)
            refine jr_if_ne C0 g22 dX10_looks_323 (tgt := 336) (by decide) ?_ ?_
            · refine jr_gd (fun g23 => ?_)
              refine jr_gd (fun g24 => ?_)
              refine jr_sub [2, 3, 4, 0, 5] rfl ?_
              exact B336 x4 h_x4 x5 h_x5 (x6 + (-1)) g23 x7 h_x7 ((x6 + (-1)) - 1) g24 _
            refine jr_aload_n C0 2 dX10_looks_326 rfl rfl ?_
            refine jr_getr C0 (by decide) kd_68 (by decide) rfl wx_X10 (i := 11) (by decide) wf_X10_24 (j := 73) rfl dX10_looks_327 ?_
            refine jr_iload C0 0 dX10_looks_330 rfl ?_
            refine jr_gd (fun g25 => ?_)
            refine jr_zald C0 (by decide) kd_73 kl_73 g25 (j := (x6 + (-1)).toNat) rfl dX10_looks_332 ?_
            refine jr_gd (fun g26 => ?_)
            refine jr_if_eq C0 g26 dX10_looks_333 (tgt := 340) (by decide) ?_ ?_
            · refine jr_iconst C0 dX10_looks_340 ?_
              refine jr_gd (fun g27 => ?_)
              refine jr_gd (fun g28 => ?_)
              refine jr_sub [2, 3, 4, 0, 5] rfl ?_
              exact B341 x4 h_x4 x5 h_x5 (x6 + (-1)) g27 x7 h_x7 ((x6 + (-1)) - 1) g28 0 (⟨by decide, by decide⟩) _
            refine jr_gd (fun g29 => ?_)
            refine jr_gd (fun g30 => ?_)
            refine jr_sub [2, 3, 4, 0, 5] rfl ?_
            exact B336 x4 h_x4 x5 h_x5 (x6 + (-1)) g29 x7 h_x7 ((x6 + (-1)) - 1) g30 _
          refine jr_aload_n C0 2 dX10_looks_284 rfl rfl ?_
          refine jr_getr C0 (by decide) kd_68 (by decide) rfl wx_X10 (i := 11) (by decide) wf_X10_24 (j := 73) rfl dX10_looks_285 ?_
          refine jr_iload C0 0 dX10_looks_288 rfl ?_
          refine jr_iconst C0 dX10_looks_290 ?_
          refine jr_isub C0 dX10_looks_291 ?_
          refine jr_gd (fun g31 => ?_)
          refine jr_zald C0 (by decide) kd_73 kl_73 g31 (j := ((x6 + (-1)) - 1).toNat) rfl dX10_looks_292 ?_
          refine jr_gd (fun g32 => ?_)
          refine jr_if_eq C0 g32 dX10_looks_293 (tgt := 310) (by decide) ?_ ?_
          · refine jr_gd (fun g33 => ?_)
            refine jr_gd (fun g34 => ?_)
            refine jr_sub [2, 3, 4, 0, 5] rfl ?_
            exact B310 x4 h_x4 x5 h_x5 (x6 + (-1)) g33 x7 h_x7 ((x6 + (-1)) - 1) g34 _
          refine jr_aload_n C0 2 dX10_looks_296 rfl rfl ?_
          refine jr_getr C0 (by decide) kd_68 (by decide) rfl wx_X10 (i := 11) (by decide) wf_X10_24 (j := 73) rfl dX10_looks_297 ?_
          refine jr_iload C0 0 dX10_looks_300 rfl ?_
          refine jr_gd (fun g35 => ?_)
          refine jr_zald C0 (by decide) kd_73 kl_73 g35 (j := (x6 + (-1)).toNat) rfl dX10_looks_302 ?_
          refine jr_gd (fun g36 => ?_)
          refine jr_if_eq C0 g36 dX10_looks_303 (tgt := 310) (by decide) ?_ ?_
          · refine jr_gd (fun g37 => ?_)
            refine jr_gd (fun g38 => ?_)
            refine jr_sub [2, 3, 4, 0, 5] rfl ?_
            exact B310 x4 h_x4 x5 h_x5 (x6 + (-1)) g37 x7 h_x7 ((x6 + (-1)) - 1) g38 _
          refine jr_iconst C0 dX10_looks_306 ?_
          refine jr_goto C0 dX10_looks_307 (tgt := 341) (by decide) ?_
          refine jr_gd (fun g39 => ?_)
          refine jr_gd (fun g40 => ?_)
          refine jr_sub [2, 3, 4, 0, 5] rfl ?_
          exact B341 x4 h_x4 x5 h_x5 (x6 + (-1)) g39 x7 h_x7 ((x6 + (-1)) - 1) g40 1 (⟨by decide, by decide⟩) _
        refine jr_aload_n C0 1 dX10_looks_230 rfl rfl ?_
        refine jr_getr C0 (by decide) kd_68 (by decide) rfl wx_X10 (i := 11) (by decide) wf_X10_24 (j := 73) rfl dX10_looks_231 ?_
        refine jr_iload C0 4 dX10_looks_234 rfl ?_
        refine jr_iconst C0 dX10_looks_236 ?_
        refine jr_isub C0 dX10_looks_237 ?_
        refine jr_aload_n C0 1 dX10_looks_238 rfl rfl ?_
        refine jr_getr C0 (by decide) kd_68 (by decide) rfl wx_X10 (i := 11) (by decide) wf_X10_24 (j := 73) rfl dX10_looks_239 ?_
        refine jr_iload C0 4 dX10_looks_242 rfl ?_
        refine jr_iconst C0 dX10_looks_244 ?_
        refine jr_isub C0 dX10_looks_245 ?_
        refine jr_gd (fun g41 => ?_)
        refine jr_zald C0 (by decide) kd_73 kl_73 g41 (j := (x6 - 1).toNat) rfl dX10_looks_246 ?_
        refine jr_gd (fun g42 => ?_)
        refine jr_if_ne C0 g42 dX10_looks_247 (tgt := 254) (by decide) ?_ ?_
        · refine jr_iconst C0 dX10_looks_254 ?_
          refine jr_gd (fun g43 => ?_)
          refine jr_sub [1, 2, 3, 4, 5] rfl ?_
          exact B255 x4 h_x4 x5 h_x5 x6 h_x6 x7 h_x7 (x6 - 1) g43 0 (⟨by decide, by decide⟩) _
        refine jr_iconst C0 dX10_looks_250 ?_
        refine jr_goto C0 dX10_looks_251 (tgt := 255) (by decide) ?_
        refine jr_gd (fun g44 => ?_)
        refine jr_sub [1, 2, 3, 4, 5] rfl ?_
        exact B255 x4 h_x4 x5 h_x5 x6 h_x6 x7 h_x7 (x6 - 1) g44 1 (⟨by decide, by decide⟩) _
      refine jr_aload_n C0 1 dX10_looks_130 rfl rfl ?_
      refine jr_getr C0 (by decide) kd_68 (by decide) rfl wx_X10 (i := 10) (by decide) wf_X10_21 (j := 72) rfl dX10_looks_131 ?_
      refine jr_iload C0 0 dX10_looks_134 rfl ?_
      refine jr_bipush C0 dX10_looks_136 rfl ?_
      refine jr_irem C0 g18 (⟨by decide, by decide⟩) (by decide) dX10_looks_138 ?_
      refine jr_gd (fun g45 => ?_)
      refine jr_iald C0 (by decide) kd_72 kl_72 g45 (j := ((μ 69 x7.toNat).tmod 8).toNat) rfl dX10_looks_139 ?_
      refine jr_istore C0 dX10_looks_140 (by decide) (lv' := [(9, .int (vr_I (μ 72 ((μ 69 x7.toNat).tmod 8).toNat))), (8, .int (vr_I (μ 69 x7.toNat))), (0, .ref (vr_ad G 68)), (4, .int (vr_I x4)), (5, .int (vr_I x5)), (6, .int (vr_I x6)), (7, .int (vr_I x7))]) rfl ?_
      refine jr_iload C0 1 dX10_looks_142 rfl ?_
      refine jr_bipush C0 dX10_looks_144 rfl ?_
      refine jr_idiv C0 g18 (⟨by decide, by decide⟩) (by decide) dX10_looks_146 ?_
      refine jr_iconst C0 dX10_looks_147 ?_
      refine jr_gd (fun g46 => ?_)
      refine jr_irem C0 g46 (⟨by decide, by decide⟩) (by decide) dX10_looks_148 ?_
      refine jr_istore C0 dX10_looks_149 (by decide) (lv' := [(10, .int (vr_I (((μ 69 x7.toNat).tdiv 8).tmod 4))), (9, .int (vr_I (μ 72 ((μ 69 x7.toNat).tmod 8).toNat))), (8, .int (vr_I (μ 69 x7.toNat))), (0, .ref (vr_ad G 68)), (4, .int (vr_I x4)), (5, .int (vr_I x5)), (6, .int (vr_I x6)), (7, .int (vr_I x7))]) rfl ?_
      refine jr_iload C0 2 dX10_looks_151 rfl ?_
      refine jr_bipush C0 dX10_looks_153 rfl ?_
      refine jr_idiv C0 g18 (⟨by decide, by decide⟩) (by decide) dX10_looks_155 ?_
      refine jr_istore C0 dX10_looks_156 (by decide) (lv' := [(11, .int (vr_I ((μ 69 x7.toNat).tdiv 32))), (10, .int (vr_I (((μ 69 x7.toNat).tdiv 8).tmod 4))), (9, .int (vr_I (μ 72 ((μ 69 x7.toNat).tmod 8).toNat))), (8, .int (vr_I (μ 69 x7.toNat))), (0, .ref (vr_ad G 68)), (4, .int (vr_I x4)), (5, .int (vr_I x5)), (6, .int (vr_I x6)), (7, .int (vr_I x7))]) rfl ?_
      refine jr_aload_n C0 4 dX10_looks_158 rfl rfl ?_
      refine jr_getr C0 (by decide) kd_68 (by decide) rfl wx_X10 (i := 11) (by decide) wf_X10_24 (j := 73) rfl dX10_looks_159 ?_
      refine jr_iload C0 7 dX10_looks_162 rfl ?_
      refine jr_iload C0 1 dX10_looks_164 rfl ?_
      refine jr_gd (fun g47 => ?_)
      refine jr_if_ne C0 g47 dX10_looks_166 (tgt := 184) (by decide) ?_ ?_
      · refine jr_iload C0 1 dX10_looks_184 rfl ?_
        refine jr_iconst C0 dX10_looks_186 ?_
        refine jr_icmp_ne C0 g47 (⟨by decide, by decide⟩) dX10_looks_187 (tgt := 205) (by decide) ?_ ?_
        · refine jr_iload C0 2 dX10_looks_205 rfl ?_
          refine jr_iload C0 0 dX10_looks_207 rfl ?_
          refine jr_gd (fun g48 => ?_)
          refine jr_gd (fun g49 => ?_)
          refine jr_icmp_le C0 g48 g49 dX10_looks_209 (tgt := 216) (by decide) ?_ ?_
          · refine jr_iconst C0 dX10_looks_216 ?_
            refine jr_sub [4, 5, 6, 7, 8] rfl ?_
            exact B217 x4 h_x4 x5 h_x5 x6 h_x6 x7 h_x7 x6 h_x6 0 (⟨by decide, by decide⟩) _
          refine jr_iconst C0 dX10_looks_212 ?_
          refine jr_goto C0 dX10_looks_213 (tgt := 217) (by decide) ?_
          refine jr_sub [4, 5, 6, 7, 8] rfl ?_
          exact B217 x4 h_x4 x5 h_x5 x6 h_x6 x7 h_x7 x6 h_x6 1 (⟨by decide, by decide⟩) _
        refine jr_iload C0 2 dX10_looks_190 rfl ?_
        refine jr_iload C0 0 dX10_looks_192 rfl ?_
        refine jr_gd (fun g50 => ?_)
        refine jr_gd (fun g51 => ?_)
        refine jr_icmp_ne C0 g50 g51 dX10_looks_194 (tgt := 201) (by decide) ?_ ?_
        · refine jr_iconst C0 dX10_looks_201 ?_
          refine jr_goto C0 dX10_looks_202 (tgt := 217) (by decide) ?_
          refine jr_sub [4, 5, 6, 7, 8] rfl ?_
          exact B217 x4 h_x4 x5 h_x5 x6 h_x6 x7 h_x7 x6 h_x6 0 (⟨by decide, by decide⟩) _
        refine jr_iconst C0 dX10_looks_197 ?_
        refine jr_goto C0 dX10_looks_198 (tgt := 217) (by decide) ?_
        refine jr_sub [4, 5, 6, 7, 8] rfl ?_
        exact B217 x4 h_x4 x5 h_x5 x6 h_x6 x7 h_x7 x6 h_x6 1 (⟨by decide, by decide⟩) _
      refine jr_iload C0 2 dX10_looks_169 rfl ?_
      refine jr_iload C0 0 dX10_looks_171 rfl ?_
      refine jr_gd (fun g52 => ?_)
      refine jr_gd (fun g53 => ?_)
      refine jr_icmp_ge C0 g52 g53 dX10_looks_173 (tgt := 180) (by decide) ?_ ?_
      · refine jr_iconst C0 dX10_looks_180 ?_
        refine jr_goto C0 dX10_looks_181 (tgt := 217) (by decide) ?_
        refine jr_sub [4, 5, 6, 7, 8] rfl ?_
        exact B217 x4 h_x4 x5 h_x5 x6 h_x6 x7 h_x7 x6 h_x6 0 (⟨by decide, by decide⟩) _
      refine jr_iconst C0 dX10_looks_176 ?_
      refine jr_goto C0 dX10_looks_177 (tgt := 217) (by decide) ?_
      refine jr_sub [4, 5, 6, 7, 8] rfl ?_
      exact B217 x4 h_x4 x5 h_x5 x6 h_x6 x7 h_x7 x6 h_x6 1 (⟨by decide, by decide⟩) _
  unfold fX10_looks
  refine jr_aload_n C0 0 dX10_looks_0 rfl rfl ?_
  refine jr_iconst C0 dX10_looks_1 ?_
  refine jr_puti C0 (by decide) kd_68 (by decide) rfl wx_X10 (i := 12) (by decide) wf_X10_133 rfl tyX10_ok nmX10 rfl rfl rfl dX10_looks_2 ?_
  refine jr_aload_n C0 0 dX10_looks_5 rfl rfl ?_
  refine jr_iconst C0 dX10_looks_6 ?_
  refine jr_puti C0 (by decide) kd_68 (by decide) rfl wx_X10 (i := 13) (by decide) wf_X10_136 rfl tyX10_ok nmX10 rfl (vr_nz (Or.inl rfl)) ((vr_fz .boolean (Or.inr rfl) (fun _ => (Or.inl rfl))).2) dX10_looks_7 ?_
  refine jr_aload_n C0 0 dX10_looks_10 rfl rfl ?_
  refine jr_getr C0 (by decide) kd_68 (by decide) rfl wx_X10 (i := 10) (by decide) wf_X10_21 (j := 72) rfl dX10_looks_11 ?_
  refine jr_iconst C0 dX10_looks_14 ?_
  refine jr_iload_n C0 2 dX10_looks_15 rfl rfl ?_
  refine jr_iast C0 (by decide) kd_72 kl_72 (by decide) (j := 0) rfl dX10_looks_16 ?_
  refine jr_aload_n C0 0 dX10_looks_17 rfl rfl ?_
  refine jr_getr C0 (by decide) kd_68 (by decide) rfl wx_X10 (i := 10) (by decide) wf_X10_21 (j := 72) rfl dX10_looks_18 ?_
  refine jr_iconst C0 dX10_looks_21 ?_
  refine jr_aload_n C0 0 dX10_looks_22 rfl rfl ?_
  refine jr_getr C0 (by decide) kd_68 (by decide) rfl wx_X10 (i := 1) (by decide) wf_X10_9 (j := 69) rfl dX10_looks_23 ?_
  refine jr_sipush C0 dX10_looks_26 rfl ?_
  refine jr_iload_n C0 1 dX10_looks_29 rfl rfl ?_
  refine jr_iadd C0 dX10_looks_30 ?_
  refine jr_gd (fun g54 => ?_)
  refine jr_let (fun μ55 => ?_)
  refine jr_iald C0 (by decide) kd_69 kl_69 g54 (j := (154 + a0).toNat) rfl dX10_looks_31 ?_
  refine jr_iast C0 (by decide) kd_72 kl_72 (by decide) (j := 1) rfl dX10_looks_32 ?_
  refine jr_aload_n C0 0 dX10_looks_33 rfl rfl ?_
  refine jr_getr C0 (by decide) kd_68 (by decide) rfl wx_X10 (i := 10) (by decide) wf_X10_21 (j := 72) rfl dX10_looks_34 ?_
  refine jr_iconst C0 dX10_looks_37 ?_
  refine jr_aload_n C0 0 dX10_looks_38 rfl rfl ?_
  refine jr_getr C0 (by decide) kd_68 (by decide) rfl wx_X10 (i := 1) (by decide) wf_X10_9 (j := 69) rfl dX10_looks_39 ?_
  refine jr_sipush C0 dX10_looks_42 rfl ?_
  refine jr_iload_n C0 1 dX10_looks_45 rfl rfl ?_
  refine jr_iadd C0 dX10_looks_46 ?_
  refine jr_gd (fun g56 => ?_)
  refine jr_let (fun μ57 => ?_)
  refine jr_iald C0 (by decide) kd_69 kl_69 g56 (j := (130 + a0).toNat) rfl dX10_looks_47 ?_
  refine jr_iast C0 (by decide) kd_72 kl_72 (by decide) (j := 2) rfl dX10_looks_48 ?_
  refine jr_aload_n C0 0 dX10_looks_49 rfl rfl ?_
  refine jr_getr C0 (by decide) kd_68 (by decide) rfl wx_X10 (i := 10) (by decide) wf_X10_21 (j := 72) rfl dX10_looks_50 ?_
  refine jr_iconst C0 dX10_looks_53 ?_
  refine jr_iload_n C0 3 dX10_looks_54 rfl rfl ?_
  refine jr_iast C0 (by decide) kd_72 kl_72 (by decide) (j := 3) rfl dX10_looks_55 ?_
  refine jr_aload_n C0 0 dX10_looks_56 rfl rfl ?_
  refine jr_getr C0 (by decide) kd_68 (by decide) rfl wx_X10 (i := 10) (by decide) wf_X10_21 (j := 72) rfl dX10_looks_57 ?_
  refine jr_iconst C0 dX10_looks_60 ?_
  refine jr_aload_n C0 0 dX10_looks_61 rfl rfl ?_
  refine jr_getr C0 (by decide) kd_68 (by decide) rfl wx_X10 (i := 1) (by decide) wf_X10_9 (j := 69) rfl dX10_looks_62 ?_
  refine jr_sipush C0 dX10_looks_65 rfl ?_
  refine jr_iload_n C0 1 dX10_looks_68 rfl rfl ?_
  refine jr_iadd C0 dX10_looks_69 ?_
  refine jr_gd (fun g58 => ?_)
  refine jr_let (fun μ59 => ?_)
  refine jr_iald C0 (by decide) kd_69 kl_69 g58 (j := (138 + a0).toNat) rfl dX10_looks_70 ?_
  refine jr_iast C0 (by decide) kd_72 kl_72 (by decide) (j := 4) rfl dX10_looks_71 ?_
  refine jr_aload_n C0 0 dX10_looks_72 rfl rfl ?_
  refine jr_sipush C0 dX10_looks_73 rfl ?_
  refine jr_iconst C0 dX10_looks_76 ?_
  refine jr_vI C0 (by decide) kd_68 (by decide) rfl (ct_X10_tellsOf l G 228 (⟨by decide, by decide⟩) 0 (⟨by decide, by decide⟩) _) mi_X10_tellsOf wm_X10_139 ⟨Nat.le_of_ble_eq_true rfl, Nat.le_of_ble_eq_true rfl⟩ ⟨rfl, rfl⟩ (As := [.int (vr_I 228), .int (vr_I 0)]) rfl (st := []) rfl (Nat.le_of_ble_eq_true rfl) dX10_looks_77 (fun r60 hr60 => ?_)
  refine jr_istore C0 dX10_looks_80 (by decide) (lv' := [(4, .int (vr_I r60.1)), (0, .ref (vr_ad G 68)), (1, .int (vr_I a0)), (2, .int (vr_I a1)), (3, .int (vr_I a2))]) rfl ?_
  refine jr_sipush C0 dX10_looks_82 rfl ?_
  refine jr_sipush C0 dX10_looks_85 rfl ?_
  refine jr_aload_n C0 1 dX10_looks_88 rfl rfl ?_
  refine jr_getr C0 (by decide) kd_68 (by decide) rfl wx_X10 (i := 1) (by decide) wf_X10_9 (j := 69) rfl dX10_looks_89 ?_
  refine jr_bipush C0 dX10_looks_92 rfl ?_
  refine jr_iald C0 (by decide) kd_69 kl_69 (by decide) (j := 9) rfl dX10_looks_94 ?_
  refine jr_imul C0 dX10_looks_95 ?_
  refine jr_iadd C0 dX10_looks_96 ?_
  refine jr_istore C0 dX10_looks_97 (by decide) (lv' := [(5, .int (vr_I (233 + (140 * (r60.2 69 9))))), (4, .int (vr_I r60.1)), (0, .ref (vr_ad G 68)), (1, .int (vr_I a0)), (2, .int (vr_I a1)), (3, .int (vr_I a2))]) rfl ?_
  refine jr_iconst C0 dX10_looks_99 ?_
  refine jr_istore C0 dX10_looks_100 (by decide) (lv' := [(6, .int (vr_I 0)), (5, .int (vr_I (233 + (140 * (r60.2 69 9))))), (4, .int (vr_I r60.1)), (0, .ref (vr_ad G 68)), (1, .int (vr_I a0)), (2, .int (vr_I a1)), (3, .int (vr_I a2))]) rfl ?_
  refine jr_iload C0 1 dX10_looks_102 rfl ?_
  refine jr_istore C0 dX10_looks_104 (by decide) (lv' := [(7, .int (vr_I (233 + (140 * (r60.2 69 9))))), (6, .int (vr_I 0)), (5, .int (vr_I (233 + (140 * (r60.2 69 9))))), (4, .int (vr_I r60.1)), (0, .ref (vr_ad G 68)), (1, .int (vr_I a0)), (2, .int (vr_I a1)), (3, .int (vr_I a2))]) rfl ?_
  refine jr_gd (fun g61 => ?_)
  refine jr_sub [4, 3, 2, 1, 0] rfl ?_
  exact L106 9000 r60.1 hr60 (233 + (140 * (r60.2 69 9))) g61 0 (⟨by decide, by decide⟩) (233 + (140 * (r60.2 69 9))) g61 _
theorem dX10_wornThen_0 : decode cX10_wornThen 0 = .ok (.aload_n 0, 1) := by decide +kernel
theorem dX10_wornThen_1 : decode cX10_wornThen 1 = .ok (.getfield 9, 3) := by decide +kernel
theorem dX10_wornThen_4 : decode cX10_wornThen 4 = .ok (.sipush 146, 3) := by decide +kernel
theorem dX10_wornThen_7 : decode cX10_wornThen 7 = .ok (.iload_n 1, 1) := by decide +kernel
theorem dX10_wornThen_8 : decode cX10_wornThen 8 = .ok (.iadd, 1) := by decide +kernel
theorem dX10_wornThen_9 : decode cX10_wornThen 9 = .ok (.iaload, 1) := by decide +kernel
theorem dX10_wornThen_10 : decode cX10_wornThen 10 = .ok (.ifCond .le 14, 3) := by decide +kernel
theorem dX10_wornThen_13 : decode cX10_wornThen 13 = .ok (.aload_n 0, 1) := by decide +kernel
theorem dX10_wornThen_14 : decode cX10_wornThen 14 = .ok (.getfield 9, 3) := by decide +kernel
theorem dX10_wornThen_17 : decode cX10_wornThen 17 = .ok (.sipush 162, 3) := by decide +kernel
theorem dX10_wornThen_20 : decode cX10_wornThen 20 = .ok (.iload_n 1, 1) := by decide +kernel
theorem dX10_wornThen_21 : decode cX10_wornThen 21 = .ok (.iadd, 1) := by decide +kernel
theorem dX10_wornThen_22 : decode cX10_wornThen 22 = .ok (.iaload, 1) := by decide +kernel
theorem dX10_wornThen_23 : decode cX10_wornThen 23 = .ok (.ireturn, 1) := by decide +kernel
theorem dX10_wornThen_24 : decode cX10_wornThen 24 = .ok (.aload_n 0, 1) := by decide +kernel
theorem dX10_wornThen_25 : decode cX10_wornThen 25 = .ok (.iload_n 1, 1) := by decide +kernel
theorem dX10_wornThen_26 : decode cX10_wornThen 26 = .ok (.iconst 1, 1) := by decide +kernel
theorem dX10_wornThen_27 : decode cX10_wornThen 27 = .ok (.aload_n 0, 1) := by decide +kernel
theorem dX10_wornThen_28 : decode cX10_wornThen 28 = .ok (.getfield 9, 3) := by decide +kernel
theorem dX10_wornThen_31 : decode cX10_wornThen 31 = .ok (.sipush 162, 3) := by decide +kernel
theorem dX10_wornThen_34 : decode cX10_wornThen 34 = .ok (.iload_n 1, 1) := by decide +kernel
theorem dX10_wornThen_35 : decode cX10_wornThen 35 = .ok (.iadd, 1) := by decide +kernel
theorem dX10_wornThen_36 : decode cX10_wornThen 36 = .ok (.iaload, 1) := by decide +kernel
theorem dX10_wornThen_37 : decode cX10_wornThen 37 = .ok (.invokevirtual 143, 3) := by decide +kernel
theorem dX10_wornThen_40 : decode cX10_wornThen 40 = .ok (.aload_n 0, 1) := by decide +kernel
theorem dX10_wornThen_41 : decode cX10_wornThen 41 = .ok (.getfield 136, 3) := by decide +kernel
theorem dX10_wornThen_44 : decode cX10_wornThen 44 = .ok (.ifCond .eq 33, 3) := by decide +kernel
theorem dX10_wornThen_47 : decode cX10_wornThen 47 = .ok (.aload_n 0, 1) := by decide +kernel
theorem dX10_wornThen_48 : decode cX10_wornThen 48 = .ok (.getfield 9, 3) := by decide +kernel
theorem dX10_wornThen_51 : decode cX10_wornThen 51 = .ok (.sipush 162, 3) := by decide +kernel
theorem dX10_wornThen_54 : decode cX10_wornThen 54 = .ok (.iload_n 1, 1) := by decide +kernel
theorem dX10_wornThen_55 : decode cX10_wornThen 55 = .ok (.iadd, 1) := by decide +kernel
theorem dX10_wornThen_56 : decode cX10_wornThen 56 = .ok (.iaload, 1) := by decide +kernel
theorem dX10_wornThen_57 : decode cX10_wornThen 57 = .ok (.bipush 9, 2) := by decide +kernel
theorem dX10_wornThen_59 : decode cX10_wornThen 59 = .ok (.if_icmp .ge 18, 3) := by decide +kernel
theorem dX10_wornThen_62 : decode cX10_wornThen 62 = .ok (.aload_n 0, 1) := by decide +kernel
theorem dX10_wornThen_63 : decode cX10_wornThen 63 = .ok (.getfield 9, 3) := by decide +kernel
theorem dX10_wornThen_66 : decode cX10_wornThen 66 = .ok (.sipush 162, 3) := by decide +kernel
theorem dX10_wornThen_69 : decode cX10_wornThen 69 = .ok (.iload_n 1, 1) := by decide +kernel
theorem dX10_wornThen_70 : decode cX10_wornThen 70 = .ok (.iadd, 1) := by decide +kernel
theorem dX10_wornThen_71 : decode cX10_wornThen 71 = .ok (.iaload, 1) := by decide +kernel
theorem dX10_wornThen_72 : decode cX10_wornThen 72 = .ok (.iconst 1, 1) := by decide +kernel
theorem dX10_wornThen_73 : decode cX10_wornThen 73 = .ok (.iadd, 1) := by decide +kernel
theorem dX10_wornThen_74 : decode cX10_wornThen 74 = .ok (.goto 13, 3) := by decide +kernel
theorem dX10_wornThen_77 : decode cX10_wornThen 77 = .ok (.aload_n 0, 1) := by decide +kernel
theorem dX10_wornThen_78 : decode cX10_wornThen 78 = .ok (.getfield 9, 3) := by decide +kernel
theorem dX10_wornThen_81 : decode cX10_wornThen 81 = .ok (.sipush 162, 3) := by decide +kernel
theorem dX10_wornThen_84 : decode cX10_wornThen 84 = .ok (.iload_n 1, 1) := by decide +kernel
theorem dX10_wornThen_85 : decode cX10_wornThen 85 = .ok (.iadd, 1) := by decide +kernel
theorem dX10_wornThen_86 : decode cX10_wornThen 86 = .ok (.iaload, 1) := by decide +kernel
theorem dX10_wornThen_87 : decode cX10_wornThen 87 = .ok (.ireturn, 1) := by decide +kernel
def fX10_wornThen_B87 (y0 : Int) (μ : vr_M) : Option (Int × vr_M) :=
  some (y0, μ)
def fX10_wornThen_B77 (x1 : Int) (μ : vr_M) : Option (Int × vr_M) :=
  vr_gd (0 ≤ (162 + x1) ∧ (162 + x1) < 933) (vr_gd (vr_R (μ 69 (162 + x1).toNat)) (fX10_wornThen_B87 (μ 69 (162 + x1).toNat) μ))
def fX10_wornThen (a0 : Int) (μ : vr_M) : Option (Int × vr_M) :=
  vr_gd (0 ≤ (146 + a0) ∧ (146 + a0) < 933) (vr_gd (vr_R (μ 69 (146 + a0).toNat)) (if (μ 69 (146 + a0).toNat) ≤ 0 then vr_gd (0 ≤ (162 + a0) ∧ (162 + a0) < 933) (vr_gd (vr_R (μ 69 (162 + a0).toNat)) ((fX10_looks a0 1 (μ 69 (162 + a0).toNat) μ).bind (fun r7 => vr_gd (vr_R (r7.2 68 13)) (if (r7.2 68 13) = 0 then fX10_wornThen_B77 a0 r7.2 else vr_gd (vr_R (r7.2 69 (162 + a0).toNat)) (if 9 ≤ (r7.2 69 (162 + a0).toNat) then fX10_wornThen_B77 a0 r7.2 else vr_gd (vr_R ((r7.2 69 (162 + a0).toNat) + 1)) (fX10_wornThen_B87 ((r7.2 69 (162 + a0).toNat) + 1) r7.2)))))) else vr_gd (0 ≤ (162 + a0) ∧ (162 + a0) < 933) (vr_gd (vr_R (μ 69 (162 + a0).toNat)) (some (μ 69 (162 + a0).toNat, μ)))))
set_option maxRecDepth 100000 in
set_option maxHeartbeats 4000000 in
theorem ct_X10_wornThen (l : Launch) (G : vr_G) (a0 : Int) (h_a0 : vr_R a0) (μ : vr_M) : vr_CI l yX10_wornThen cX10_wornThen 2 (some .int) ({ frames := 2, cells := 0, slots := 0, locals := 53 } : Room) G [.ref (vr_ad G 68), .int (vr_I a0)] μ (fX10_wornThen a0 μ) := by
  refine vr_start (own := RX10) (by decide) rfl (Nat.le_of_ble_eq_true rfl) (fun p e s m args below meth c C0 => ?_)
  show vr_J p l e _ s m args below meth c 2 0 0 G (vr_Z (vr_QI G) G args s below) 0 [(0, .ref (vr_ad G 68)), (1, .int (vr_I a0))] [] μ _
  have B87 : ∀ (y0 : Int) (h_y0 : vr_R y0) (μ : vr_M), vr_J p l e ({ frames := 2, cells := 0, slots := 0, locals := 53 } : Room) s m args below meth c 2 0 0 G (vr_Z (vr_QI G) G args s below) 87 [] [.int (vr_I y0)] μ (fX10_wornThen_B87 y0 μ) := by
    intro y0 h_y0 μ
    unfold fX10_wornThen_B87
    exact jr_iret C0 h_y0 dX10_wornThen_87
  have B77 : ∀ (x1 : Int) (h_x1 : vr_R x1) (μ : vr_M), vr_J p l e ({ frames := 2, cells := 0, slots := 0, locals := 53 } : Room) s m args below meth c 2 0 0 G (vr_Z (vr_QI G) G args s below) 77 [(0, .ref (vr_ad G 68)), (1, .int (vr_I x1))] [] μ (fX10_wornThen_B77 x1 μ) := by
    intro x1 h_x1 μ
    unfold fX10_wornThen_B77
    refine jr_aload_n C0 0 dX10_wornThen_77 rfl rfl ?_
    refine jr_getr C0 (by decide) kd_68 (by decide) rfl wx_X10 (i := 1) (by decide) wf_X10_9 (j := 69) rfl dX10_wornThen_78 ?_
    refine jr_sipush C0 dX10_wornThen_81 rfl ?_
    refine jr_iload_n C0 1 dX10_wornThen_84 rfl rfl ?_
    refine jr_iadd C0 dX10_wornThen_85 ?_
    refine jr_gd (fun g1 => ?_)
    refine jr_iald C0 (by decide) kd_69 kl_69 g1 (j := (162 + x1).toNat) rfl dX10_wornThen_86 ?_
    refine jr_gd (fun g2 => ?_)
    refine jr_sub [] rfl ?_
    exact B87 (μ 69 (162 + x1).toNat) g2 _
  unfold fX10_wornThen
  refine jr_aload_n C0 0 dX10_wornThen_0 rfl rfl ?_
  refine jr_getr C0 (by decide) kd_68 (by decide) rfl wx_X10 (i := 1) (by decide) wf_X10_9 (j := 69) rfl dX10_wornThen_1 ?_
  refine jr_sipush C0 dX10_wornThen_4 rfl ?_
  refine jr_iload_n C0 1 dX10_wornThen_7 rfl rfl ?_
  refine jr_iadd C0 dX10_wornThen_8 ?_
  refine jr_gd (fun g3 => ?_)
  refine jr_iald C0 (by decide) kd_69 kl_69 g3 (j := (146 + a0).toNat) rfl dX10_wornThen_9 ?_
  refine jr_gd (fun g4 => ?_)
  refine jr_if_le C0 g4 dX10_wornThen_10 (tgt := 24) (by decide) ?_ ?_
  · refine jr_aload_n C0 0 dX10_wornThen_24 rfl rfl ?_
    refine jr_iload_n C0 1 dX10_wornThen_25 rfl rfl ?_
    refine jr_iconst C0 dX10_wornThen_26 ?_
    refine jr_aload_n C0 0 dX10_wornThen_27 rfl rfl ?_
    refine jr_getr C0 (by decide) kd_68 (by decide) rfl wx_X10 (i := 1) (by decide) wf_X10_9 (j := 69) rfl dX10_wornThen_28 ?_
    refine jr_sipush C0 dX10_wornThen_31 rfl ?_
    refine jr_iload_n C0 1 dX10_wornThen_34 rfl rfl ?_
    refine jr_iadd C0 dX10_wornThen_35 ?_
    refine jr_gd (fun g5 => ?_)
    refine jr_iald C0 (by decide) kd_69 kl_69 g5 (j := (162 + a0).toNat) rfl dX10_wornThen_36 ?_
    refine jr_gd (fun g6 => ?_)
    refine jr_vV0 C0 (by decide) kd_68 (by decide) rfl (ct_X10_looks l G a0 h_a0 1 (⟨by decide, by decide⟩) (μ 69 (162 + a0).toNat) g6 _) mi_X10_looks wm_X10_143 ⟨Nat.le_of_ble_eq_true rfl, Nat.le_of_ble_eq_true rfl⟩ ⟨rfl, rfl⟩ (As := [.int (vr_I a0), .int (vr_I 1), .int (vr_I (μ 69 (162 + a0).toNat))]) rfl (st := []) rfl (Nat.le_of_ble_eq_true rfl) dX10_wornThen_37 (fun r7 => ?_)
    refine jr_aload_n C0 0 dX10_wornThen_40 rfl rfl ?_
    refine jr_geti C0 (by decide) kd_68 (by decide) rfl wx_X10 (i := 13) (by decide) wf_X10_136 rfl dX10_wornThen_41 ?_
    refine jr_gd (fun g8 => ?_)
    refine jr_if_eq C0 g8 dX10_wornThen_44 (tgt := 77) (by decide) ?_ ?_
    · exact B77 a0 h_a0 _
    refine jr_aload_n C0 0 dX10_wornThen_47 rfl rfl ?_
    refine jr_getr C0 (by decide) kd_68 (by decide) rfl wx_X10 (i := 1) (by decide) wf_X10_9 (j := 69) rfl dX10_wornThen_48 ?_
    refine jr_sipush C0 dX10_wornThen_51 rfl ?_
    refine jr_iload_n C0 1 dX10_wornThen_54 rfl rfl ?_
    refine jr_iadd C0 dX10_wornThen_55 ?_
    refine jr_iald C0 (by decide) kd_69 kl_69 g5 (j := (162 + a0).toNat) rfl dX10_wornThen_56 ?_
    refine jr_bipush C0 dX10_wornThen_57 rfl ?_
    refine jr_gd (fun g9 => ?_)
    refine jr_icmp_ge C0 g9 (⟨by decide, by decide⟩) dX10_wornThen_59 (tgt := 77) (by decide) ?_ ?_
    · exact B77 a0 h_a0 _
    refine jr_aload_n C0 0 dX10_wornThen_62 rfl rfl ?_
    refine jr_getr C0 (by decide) kd_68 (by decide) rfl wx_X10 (i := 1) (by decide) wf_X10_9 (j := 69) rfl dX10_wornThen_63 ?_
    refine jr_sipush C0 dX10_wornThen_66 rfl ?_
    refine jr_iload_n C0 1 dX10_wornThen_69 rfl rfl ?_
    refine jr_iadd C0 dX10_wornThen_70 ?_
    refine jr_iald C0 (by decide) kd_69 kl_69 g5 (j := (162 + a0).toNat) rfl dX10_wornThen_71 ?_
    refine jr_iconst C0 dX10_wornThen_72 ?_
    refine jr_iadd C0 dX10_wornThen_73 ?_
    refine jr_goto C0 dX10_wornThen_74 (tgt := 87) (by decide) ?_
    refine jr_gd (fun g10 => ?_)
    refine jr_sub [] rfl ?_
    exact B87 ((r7.2 69 (162 + a0).toNat) + 1) g10 _
  refine jr_aload_n C0 0 dX10_wornThen_13 rfl rfl ?_
  refine jr_getr C0 (by decide) kd_68 (by decide) rfl wx_X10 (i := 1) (by decide) wf_X10_9 (j := 69) rfl dX10_wornThen_14 ?_
  refine jr_sipush C0 dX10_wornThen_17 rfl ?_
  refine jr_iload_n C0 1 dX10_wornThen_20 rfl rfl ?_
  refine jr_iadd C0 dX10_wornThen_21 ?_
  refine jr_gd (fun g11 => ?_)
  refine jr_iald C0 (by decide) kd_69 kl_69 g11 (j := (162 + a0).toNat) rfl dX10_wornThen_22 ?_
  refine jr_gd (fun g12 => ?_)
  exact jr_iret C0 g12 dX10_wornThen_23
theorem dX10_givesOf_0 : decode cX10_givesOf 0 = .ok (.aload_n 0, 1) := by decide +kernel
theorem dX10_givesOf_1 : decode cX10_givesOf 1 = .ok (.getfield 9, 3) := by decide +kernel
theorem dX10_givesOf_4 : decode cX10_givesOf 4 = .ok (.sipush 138, 3) := by decide +kernel
theorem dX10_givesOf_7 : decode cX10_givesOf 7 = .ok (.iload_n 1, 1) := by decide +kernel
theorem dX10_givesOf_8 : decode cX10_givesOf 8 = .ok (.iadd, 1) := by decide +kernel
theorem dX10_givesOf_9 : decode cX10_givesOf 9 = .ok (.iaload, 1) := by decide +kernel
theorem dX10_givesOf_10 : decode cX10_givesOf 10 = .ok (.iload_n 2, 1) := by decide +kernel
theorem dX10_givesOf_11 : decode cX10_givesOf 11 = .ok (.isub, 1) := by decide +kernel
theorem dX10_givesOf_12 : decode cX10_givesOf 12 = .ok (.invokestatic 147, 3) := by decide +kernel
theorem dX10_givesOf_15 : decode cX10_givesOf 15 = .ok (.iload_n 3, 1) := by decide +kernel
theorem dX10_givesOf_16 : decode cX10_givesOf 16 = .ok (.if_icmp .le 5, 3) := by decide +kernel
theorem dX10_givesOf_19 : decode cX10_givesOf 19 = .ok (.iconst 0, 1) := by decide +kernel
theorem dX10_givesOf_20 : decode cX10_givesOf 20 = .ok (.ireturn, 1) := by decide +kernel
theorem dX10_givesOf_21 : decode cX10_givesOf 21 = .ok (.aload_n 0, 1) := by decide +kernel
theorem dX10_givesOf_22 : decode cX10_givesOf 22 = .ok (.iload_n 1, 1) := by decide +kernel
theorem dX10_givesOf_23 : decode cX10_givesOf 23 = .ok (.invokevirtual 151, 3) := by decide +kernel
theorem dX10_givesOf_26 : decode cX10_givesOf 26 = .ok (.istore 4, 2) := by decide +kernel
theorem dX10_givesOf_28 : decode cX10_givesOf 28 = .ok (.aload_n 0, 1) := by decide +kernel
theorem dX10_givesOf_29 : decode cX10_givesOf 29 = .ok (.iload_n 1, 1) := by decide +kernel
theorem dX10_givesOf_30 : decode cX10_givesOf 30 = .ok (.aload_n 0, 1) := by decide +kernel
theorem dX10_givesOf_31 : decode cX10_givesOf 31 = .ok (.getfield 9, 3) := by decide +kernel
theorem dX10_givesOf_34 : decode cX10_givesOf 34 = .ok (.sipush 146, 3) := by decide +kernel
theorem dX10_givesOf_37 : decode cX10_givesOf 37 = .ok (.iload_n 1, 1) := by decide +kernel
theorem dX10_givesOf_38 : decode cX10_givesOf 38 = .ok (.iadd, 1) := by decide +kernel
theorem dX10_givesOf_39 : decode cX10_givesOf 39 = .ok (.iaload, 1) := by decide +kernel
theorem dX10_givesOf_40 : decode cX10_givesOf 40 = .ok (.iconst 1, 1) := by decide +kernel
theorem dX10_givesOf_41 : decode cX10_givesOf 41 = .ok (.iadd, 1) := by decide +kernel
theorem dX10_givesOf_42 : decode cX10_givesOf 42 = .ok (.iload 4, 2) := by decide +kernel
theorem dX10_givesOf_44 : decode cX10_givesOf 44 = .ok (.invokevirtual 143, 3) := by decide +kernel
theorem dX10_givesOf_47 : decode cX10_givesOf 47 = .ok (.aload_n 0, 1) := by decide +kernel
theorem dX10_givesOf_48 : decode cX10_givesOf 48 = .ok (.getfield 133, 3) := by decide +kernel
theorem dX10_givesOf_51 : decode cX10_givesOf 51 = .ok (.iload 4, 2) := by decide +kernel
theorem dX10_givesOf_53 : decode cX10_givesOf 53 = .ok (.if_icmp .ge 7, 3) := by decide +kernel
theorem dX10_givesOf_56 : decode cX10_givesOf 56 = .ok (.iconst 0, 1) := by decide +kernel
theorem dX10_givesOf_57 : decode cX10_givesOf 57 = .ok (.goto 10, 3) := by decide +kernel
theorem dX10_givesOf_60 : decode cX10_givesOf 60 = .ok (.aload_n 0, 1) := by decide +kernel
theorem dX10_givesOf_61 : decode cX10_givesOf 61 = .ok (.getfield 133, 3) := by decide +kernel
theorem dX10_givesOf_64 : decode cX10_givesOf 64 = .ok (.iload 4, 2) := by decide +kernel
theorem dX10_givesOf_66 : decode cX10_givesOf 66 = .ok (.isub, 1) := by decide +kernel
theorem dX10_givesOf_67 : decode cX10_givesOf 67 = .ok (.ireturn, 1) := by decide +kernel
def fX10_givesOf_B67 (y0 : Int) (μ : vr_M) : Option (Int × vr_M) :=
  some (y0, μ)
def fX10_givesOf (a0 : Int) (a1 : Int) (a2 : Int) (μ : vr_M) : Option (Int × vr_M) :=
  vr_gd (0 ≤ (138 + a0) ∧ (138 + a0) < 933) (vr_gd (vr_R ((μ 69 (138 + a0).toNat) - a1)) ((fX10_size ((μ 69 (138 + a0).toNat) - a1) μ).bind (fun r3 => if r3.1 ≤ a2 then (fX10_wornThen a0 r3.2).bind (fun r4 => vr_gd (0 ≤ (146 + a0) ∧ (146 + a0) < 933) (vr_gd (vr_R ((r4.2 69 (146 + a0).toNat) + 1)) ((fX10_looks a0 ((r4.2 69 (146 + a0).toNat) + 1) r4.1 r4.2).bind (fun r7 => vr_gd (vr_R (r7.2 68 12)) (if r4.1 ≤ (r7.2 68 12) then vr_gd (vr_R ((r7.2 68 12) - r4.1)) (fX10_givesOf_B67 ((r7.2 68 12) - r4.1) r7.2) else fX10_givesOf_B67 0 r7.2))))) else some (0, r3.2))))
set_option maxRecDepth 100000 in
set_option maxHeartbeats 4000000 in
theorem ct_X10_givesOf (l : Launch) (G : vr_G) (a0 : Int) (h_a0 : vr_R a0) (a1 : Int) (h_a1 : vr_R a1) (a2 : Int) (h_a2 : vr_R a2) (μ : vr_M) : vr_CI l yX10_givesOf cX10_givesOf 5 (some .int) ({ frames := 3, cells := 0, slots := 0, locals := 74 } : Room) G [.ref (vr_ad G 68), .int (vr_I a0), .int (vr_I a1), .int (vr_I a2)] μ (fX10_givesOf a0 a1 a2 μ) := by
  refine vr_start (own := RX10) (by decide) rfl (Nat.le_of_ble_eq_true rfl) (fun p e s m args below meth c C0 => ?_)
  show vr_J p l e _ s m args below meth c 5 0 0 G (vr_Z (vr_QI G) G args s below) 0 [(0, .ref (vr_ad G 68)), (1, .int (vr_I a0)), (2, .int (vr_I a1)), (3, .int (vr_I a2))] [] μ _
  have B67 : ∀ (y0 : Int) (h_y0 : vr_R y0) (μ : vr_M), vr_J p l e ({ frames := 3, cells := 0, slots := 0, locals := 74 } : Room) s m args below meth c 5 0 0 G (vr_Z (vr_QI G) G args s below) 67 [] [.int (vr_I y0)] μ (fX10_givesOf_B67 y0 μ) := by
    intro y0 h_y0 μ
    unfold fX10_givesOf_B67
    exact jr_iret C0 h_y0 dX10_givesOf_67
  unfold fX10_givesOf
  refine jr_aload_n C0 0 dX10_givesOf_0 rfl rfl ?_
  refine jr_getr C0 (by decide) kd_68 (by decide) rfl wx_X10 (i := 1) (by decide) wf_X10_9 (j := 69) rfl dX10_givesOf_1 ?_
  refine jr_sipush C0 dX10_givesOf_4 rfl ?_
  refine jr_iload_n C0 1 dX10_givesOf_7 rfl rfl ?_
  refine jr_iadd C0 dX10_givesOf_8 ?_
  refine jr_gd (fun g1 => ?_)
  refine jr_iald C0 (by decide) kd_69 kl_69 g1 (j := (138 + a0).toNat) rfl dX10_givesOf_9 ?_
  refine jr_iload_n C0 2 dX10_givesOf_10 rfl rfl ?_
  refine jr_isub C0 dX10_givesOf_11 ?_
  refine jr_gd (fun g2 => ?_)
  refine jr_sI C0 (ct_X10_size l G ((μ 69 (138 + a0).toNat) - a1) g2 _) mi_X10_size wm_X10_147 ⟨Nat.le_of_ble_eq_true rfl, Nat.le_of_ble_eq_true rfl⟩ ⟨rfl, rfl⟩ (As := [.int (vr_I ((μ 69 (138 + a0).toNat) - a1))]) rfl (st := []) rfl (Nat.le_of_ble_eq_true rfl) dX10_givesOf_12 (fun r3 hr3 => ?_)
  refine jr_iload_n C0 3 dX10_givesOf_15 rfl rfl ?_
  refine jr_icmp_le C0 hr3 h_a2 dX10_givesOf_16 (tgt := 21) (by decide) ?_ ?_
  · refine jr_aload_n C0 0 dX10_givesOf_21 rfl rfl ?_
    refine jr_iload_n C0 1 dX10_givesOf_22 rfl rfl ?_
    refine jr_vI C0 (by decide) kd_68 (by decide) rfl (ct_X10_wornThen l G a0 h_a0 _) mi_X10_wornThen wm_X10_151 ⟨Nat.le_of_ble_eq_true rfl, Nat.le_of_ble_eq_true rfl⟩ ⟨rfl, rfl⟩ (As := [.int (vr_I a0)]) rfl (st := []) rfl (Nat.le_of_ble_eq_true rfl) dX10_givesOf_23 (fun r4 hr4 => ?_)
    refine jr_istore C0 dX10_givesOf_26 (by decide) (lv' := [(4, .int (vr_I r4.1)), (0, .ref (vr_ad G 68)), (1, .int (vr_I a0)), (2, .int (vr_I a1)), (3, .int (vr_I a2))]) rfl ?_
    refine jr_aload_n C0 1 dX10_givesOf_28 rfl rfl ?_
    refine jr_iload_n C0 2 dX10_givesOf_29 rfl rfl ?_
    refine jr_aload_n C0 1 dX10_givesOf_30 rfl rfl ?_
    refine jr_getr C0 (by decide) kd_68 (by decide) rfl wx_X10 (i := 1) (by decide) wf_X10_9 (j := 69) rfl dX10_givesOf_31 ?_
    refine jr_sipush C0 dX10_givesOf_34 rfl ?_
    refine jr_iload_n C0 2 dX10_givesOf_37 rfl rfl ?_
    refine jr_iadd C0 dX10_givesOf_38 ?_
    refine jr_gd (fun g5 => ?_)
    refine jr_iald C0 (by decide) kd_69 kl_69 g5 (j := (146 + a0).toNat) rfl dX10_givesOf_39 ?_
    refine jr_iconst C0 dX10_givesOf_40 ?_
    refine jr_iadd C0 dX10_givesOf_41 ?_
    refine jr_iload C0 0 dX10_givesOf_42 rfl ?_
    refine jr_gd (fun g6 => ?_)
    refine jr_vV0 C0 (by decide) kd_68 (by decide) rfl (ct_X10_looks l G a0 h_a0 ((r4.2 69 (146 + a0).toNat) + 1) g6 r4.1 hr4 _) mi_X10_looks wm_X10_143 ⟨Nat.le_of_ble_eq_true rfl, Nat.le_of_ble_eq_true rfl⟩ ⟨rfl, rfl⟩ (As := [.int (vr_I a0), .int (vr_I ((r4.2 69 (146 + a0).toNat) + 1)), .int (vr_I r4.1)]) rfl (st := []) rfl (Nat.le_of_ble_eq_true rfl) dX10_givesOf_44 (fun r7 => ?_)
    refine jr_aload_n C0 1 dX10_givesOf_47 rfl rfl ?_
    refine jr_geti C0 (by decide) kd_68 (by decide) rfl wx_X10 (i := 12) (by decide) wf_X10_133 rfl dX10_givesOf_48 ?_
    refine jr_iload C0 0 dX10_givesOf_51 rfl ?_
    refine jr_gd (fun g8 => ?_)
    refine jr_icmp_ge C0 g8 hr4 dX10_givesOf_53 (tgt := 60) (by decide) ?_ ?_
    · refine jr_aload_n C0 1 dX10_givesOf_60 rfl rfl ?_
      refine jr_geti C0 (by decide) kd_68 (by decide) rfl wx_X10 (i := 12) (by decide) wf_X10_133 rfl dX10_givesOf_61 ?_
      refine jr_iload C0 0 dX10_givesOf_64 rfl ?_
      refine jr_isub C0 dX10_givesOf_66 ?_
      refine jr_gd (fun g9 => ?_)
      refine jr_sub [] rfl ?_
      exact B67 ((r7.2 68 12) - r4.1) g9 _
    refine jr_iconst C0 dX10_givesOf_56 ?_
    refine jr_goto C0 dX10_givesOf_57 (tgt := 67) (by decide) ?_
    refine jr_sub [] rfl ?_
    exact B67 0 (⟨by decide, by decide⟩) _
  refine jr_iconst C0 dX10_givesOf_19 ?_
  exact jr_iret C0 (⟨by decide, by decide⟩) dX10_givesOf_20
theorem dX10_walk_0 : decode cX10_walk 0 = .ok (.aload_n 0, 1) := by decide +kernel
theorem dX10_walk_1 : decode cX10_walk 1 = .ok (.sipush 208, 3) := by decide +kernel
theorem dX10_walk_4 : decode cX10_walk 4 = .ok (.bipush 99, 2) := by decide +kernel
theorem dX10_walk_6 : decode cX10_walk 6 = .ok (.invokevirtual 139, 3) := by decide +kernel
theorem dX10_walk_9 : decode cX10_walk 9 = .ok (.ireturn, 1) := by decide +kernel
def fX10_walk (μ : vr_M) : Option (Int × vr_M) :=
  (fX10_tellsOf 208 99 μ).bind (fun r1 => some (r1.1, r1.2))
set_option maxRecDepth 100000 in
set_option maxHeartbeats 4000000 in
theorem ct_X10_walk (l : Launch) (G : vr_G) (μ : vr_M) : vr_CI l yX10_walk cX10_walk 1 (some .int) ({ frames := 1, cells := 0, slots := 0, locals := 22 } : Room) G [.ref (vr_ad G 68)] μ (fX10_walk μ) := by
  refine vr_start (own := RX10) (by decide) rfl (Nat.le_of_ble_eq_true rfl) (fun p e s m args below meth c C0 => ?_)
  show vr_J p l e _ s m args below meth c 1 0 0 G (vr_Z (vr_QI G) G args s below) 0 [(0, .ref (vr_ad G 68))] [] μ _
  unfold fX10_walk
  refine jr_aload_n C0 0 dX10_walk_0 rfl rfl ?_
  refine jr_sipush C0 dX10_walk_1 rfl ?_
  refine jr_bipush C0 dX10_walk_4 rfl ?_
  refine jr_vI C0 (by decide) kd_68 (by decide) rfl (ct_X10_tellsOf l G 208 (⟨by decide, by decide⟩) 99 (⟨by decide, by decide⟩) _) mi_X10_tellsOf wm_X10_139 ⟨Nat.le_of_ble_eq_true rfl, Nat.le_of_ble_eq_true rfl⟩ ⟨rfl, rfl⟩ (As := [.int (vr_I 208), .int (vr_I 99)]) rfl (st := []) rfl (Nat.le_of_ble_eq_true rfl) dX10_walk_6 (fun r1 hr1 => ?_)
  exact jr_iret C0 hr1 dX10_walk_9
theorem dX10_sumOf_0 : decode cX10_sumOf 0 = .ok (.iconst 0, 1) := by decide +kernel
theorem dX10_sumOf_1 : decode cX10_sumOf 1 = .ok (.istore_n 3, 1) := by decide +kernel
theorem dX10_sumOf_2 : decode cX10_sumOf 2 = .ok (.iconst 0, 1) := by decide +kernel
theorem dX10_sumOf_3 : decode cX10_sumOf 3 = .ok (.istore 4, 2) := by decide +kernel
theorem dX10_sumOf_5 : decode cX10_sumOf 5 = .ok (.iload 4, 2) := by decide +kernel
theorem dX10_sumOf_7 : decode cX10_sumOf 7 = .ok (.aload_n 0, 1) := by decide +kernel
theorem dX10_sumOf_8 : decode cX10_sumOf 8 = .ok (.getfield 9, 3) := by decide +kernel
theorem dX10_sumOf_11 : decode cX10_sumOf 11 = .ok (.iconst 0, 1) := by decide +kernel
theorem dX10_sumOf_12 : decode cX10_sumOf 12 = .ok (.iaload, 1) := by decide +kernel
theorem dX10_sumOf_13 : decode cX10_sumOf 13 = .ok (.if_icmp .ge 37, 3) := by decide +kernel
theorem dX10_sumOf_16 : decode cX10_sumOf 16 = .ok (.iload_n 3, 1) := by decide +kernel
theorem dX10_sumOf_17 : decode cX10_sumOf 17 = .ok (.iload_n 1, 1) := by decide +kernel
theorem dX10_sumOf_18 : decode cX10_sumOf 18 = .ok (.iload 4, 2) := by decide +kernel
theorem dX10_sumOf_20 : decode cX10_sumOf 20 = .ok (.ishr, 1) := by decide +kernel
theorem dX10_sumOf_21 : decode cX10_sumOf 21 = .ok (.iconst 1, 1) := by decide +kernel
theorem dX10_sumOf_22 : decode cX10_sumOf 22 = .ok (.iand, 1) := by decide +kernel
theorem dX10_sumOf_23 : decode cX10_sumOf 23 = .ok (.iconst 1, 1) := by decide +kernel
theorem dX10_sumOf_24 : decode cX10_sumOf 24 = .ok (.if_icmp .ne 17, 3) := by decide +kernel
theorem dX10_sumOf_27 : decode cX10_sumOf 27 = .ok (.aload_n 0, 1) := by decide +kernel
theorem dX10_sumOf_28 : decode cX10_sumOf 28 = .ok (.iload 4, 2) := by decide +kernel
theorem dX10_sumOf_30 : decode cX10_sumOf 30 = .ok (.iload_n 2, 1) := by decide +kernel
theorem dX10_sumOf_31 : decode cX10_sumOf 31 = .ok (.aload_n 0, 1) := by decide +kernel
theorem dX10_sumOf_32 : decode cX10_sumOf 32 = .ok (.invokevirtual 154, 3) := by decide +kernel
theorem dX10_sumOf_35 : decode cX10_sumOf 35 = .ok (.invokevirtual 157, 3) := by decide +kernel
theorem dX10_sumOf_38 : decode cX10_sumOf 38 = .ok (.goto 4, 3) := by decide +kernel
theorem dX10_sumOf_41 : decode cX10_sumOf 41 = .ok (.iconst 0, 1) := by decide +kernel
theorem dX10_sumOf_42 : decode cX10_sumOf 42 = .ok (.iadd, 1) := by decide +kernel
theorem dX10_sumOf_43 : decode cX10_sumOf 43 = .ok (.istore_n 3, 1) := by decide +kernel
theorem dX10_sumOf_44 : decode cX10_sumOf 44 = .ok (.iinc 4 1, 3) := by decide +kernel
theorem dX10_sumOf_47 : decode cX10_sumOf 47 = .ok (.goto (-42), 3) := by decide +kernel
theorem dX10_sumOf_50 : decode cX10_sumOf 50 = .ok (.iload_n 3, 1) := by decide +kernel
theorem dX10_sumOf_51 : decode cX10_sumOf 51 = .ok (.ireturn, 1) := by decide +kernel
def fX10_sumOf_B42 (rc5 : Int → Int → Int → Int → vr_M → Option (Int × vr_M)) (x1 : Int) (x2 : Int) (x4 : Int) (y0 : Int) (y1 : Int) (μ : vr_M) : Option (Int × vr_M) :=
  vr_gd (vr_R (y0 + y1)) (vr_gd (vr_R (x4 + 1)) (rc5 x1 x2 (y0 + y1) (x4 + 1) μ))
def fX10_sumOf_L5 : Nat → Int → Int → Int → Int → vr_M → Option (Int × vr_M)
  | 0, _, _, _, _, _ => none
  | n + 1, x1, x2, x3, x4, μ => vr_gd (vr_R (μ 69 0)) (if (μ 69 0) ≤ x4 then some (x3, μ) else if ¬ (vr_and (vr_shr x1 x4) 1) = 1 then fX10_sumOf_B42 (fX10_sumOf_L5 n) x1 x2 x4 x3 0 μ else (fX10_walk  μ).bind (fun r4 => (fX10_givesOf x4 x2 r4.1 r4.2).bind (fun r5 => fX10_sumOf_B42 (fX10_sumOf_L5 n) x1 x2 x4 x3 r5.1 r5.2)))
def fX10_sumOf (a0 : Int) (a1 : Int) (μ : vr_M) : Option (Int × vr_M) :=
  fX10_sumOf_L5 9000 a0 a1 0 0 μ
set_option maxRecDepth 100000 in
set_option maxHeartbeats 4000000 in
theorem ct_X10_sumOf (l : Launch) (G : vr_G) (a0 : Int) (h_a0 : vr_R a0) (a1 : Int) (h_a1 : vr_R a1) (μ : vr_M) : vr_CI l yX10_sumOf cX10_sumOf 5 (some .int) ({ frames := 4, cells := 0, slots := 0, locals := 98 } : Room) G [.ref (vr_ad G 68), .int (vr_I a0), .int (vr_I a1)] μ (fX10_sumOf a0 a1 μ) := by
  refine vr_start (own := RX10) (by decide) rfl (Nat.le_of_ble_eq_true rfl) (fun p e s m args below meth c C0 => ?_)
  show vr_J p l e _ s m args below meth c 5 0 0 G (vr_Z (vr_QI G) G args s below) 0 [(0, .ref (vr_ad G 68)), (1, .int (vr_I a0)), (2, .int (vr_I a1))] [] μ _
  have L5 : ∀ (n : Nat) (x1 : Int) (h_x1 : vr_R x1) (x2 : Int) (h_x2 : vr_R x2) (x3 : Int) (h_x3 : vr_R x3) (x4 : Int) (h_x4 : vr_R x4) (μ : vr_M), vr_J p l e ({ frames := 4, cells := 0, slots := 0, locals := 98 } : Room) s m args below meth c 5 0 0 G (vr_Z (vr_QI G) G args s below) 5 [(0, .ref (vr_ad G 68)), (1, .int (vr_I x1)), (2, .int (vr_I x2)), (3, .int (vr_I x3)), (4, .int (vr_I x4))] [] μ (fX10_sumOf_L5 n x1 x2 x3 x4 μ) := by
    intro n5
    induction n5 with
    | zero => intros; exact jr_none
    | succ n5 ih5 =>
      have B42 : ∀ (x1 : Int) (h_x1 : vr_R x1) (x2 : Int) (h_x2 : vr_R x2) (x4 : Int) (h_x4 : vr_R x4) (y0 : Int) (h_y0 : vr_R y0) (y1 : Int) (h_y1 : vr_R y1) (μ : vr_M), vr_J p l e ({ frames := 4, cells := 0, slots := 0, locals := 98 } : Room) s m args below meth c 5 0 0 G (vr_Z (vr_QI G) G args s below) 42 [(0, .ref (vr_ad G 68)), (1, .int (vr_I x1)), (2, .int (vr_I x2)), (4, .int (vr_I x4))] [.int (vr_I y1), .int (vr_I y0)] μ (fX10_sumOf_B42 (fX10_sumOf_L5 n5) x1 x2 x4 y0 y1 μ) := by
        intro x1 h_x1 x2 h_x2 x4 h_x4 y0 h_y0 y1 h_y1 μ
        unfold fX10_sumOf_B42
        refine jr_iadd C0 dX10_sumOf_42 ?_
        refine jr_istore_n C0 dX10_sumOf_43 rfl (by decide) (lv' := [(3, .int (vr_I (y0 + y1))), (0, .ref (vr_ad G 68)), (1, .int (vr_I x1)), (2, .int (vr_I x2)), (4, .int (vr_I x4))]) rfl ?_
        refine jr_iinc C0 (q := 4) dX10_sumOf_44 rfl (by decide) (lv' := [(4, .int (vr_I (x4 + 1))), (3, .int (vr_I (y0 + y1))), (0, .ref (vr_ad G 68)), (1, .int (vr_I x1)), (2, .int (vr_I x2))]) rfl ?_
        refine jr_goto C0 dX10_sumOf_47 (tgt := 5) (by decide) ?_
        refine jr_gd (fun g1 => ?_)
        refine jr_gd (fun g2 => ?_)
        refine jr_sub [2, 3, 4, 1, 0] rfl ?_
        exact ih5 x1 h_x1 x2 h_x2 (y0 + y1) g1 (x4 + 1) g2 _
      intro x1 h_x1 x2 h_x2 x3 h_x3 x4 h_x4 μ
      rw [fX10_sumOf_L5.eq_2]
      refine jr_iload C0 4 dX10_sumOf_5 rfl ?_
      refine jr_aload_n C0 0 dX10_sumOf_7 rfl rfl ?_
      refine jr_getr C0 (by decide) kd_68 (by decide) rfl wx_X10 (i := 1) (by decide) wf_X10_9 (j := 69) rfl dX10_sumOf_8 ?_
      refine jr_iconst C0 dX10_sumOf_11 ?_
      refine jr_iald C0 (by decide) kd_69 kl_69 (by decide) (j := 0) rfl dX10_sumOf_12 ?_
      refine jr_gd (fun g3 => ?_)
      refine jr_icmp_ge C0 h_x4 g3 dX10_sumOf_13 (tgt := 50) (by decide) ?_ ?_
      · refine jr_iload_n C0 3 dX10_sumOf_50 rfl rfl ?_
        exact jr_iret C0 h_x3 dX10_sumOf_51
      refine jr_iload_n C0 3 dX10_sumOf_16 rfl rfl ?_
      refine jr_iload_n C0 1 dX10_sumOf_17 rfl rfl ?_
      refine jr_iload C0 4 dX10_sumOf_18 rfl ?_
      refine jr_ishr C0 dX10_sumOf_20 ?_
      refine jr_iconst C0 dX10_sumOf_21 ?_
      refine jr_iand C0 dX10_sumOf_22 ?_
      refine jr_iconst C0 dX10_sumOf_23 ?_
      refine jr_icmp_ne C0 (vr_RT _) (⟨by decide, by decide⟩) dX10_sumOf_24 (tgt := 41) (by decide) ?_ ?_
      · refine jr_iconst C0 dX10_sumOf_41 ?_
        refine jr_sub [0, 1, 2, 4] rfl ?_
        exact B42 x1 h_x1 x2 h_x2 x4 h_x4 x3 h_x3 0 (⟨by decide, by decide⟩) _
      refine jr_aload_n C0 0 dX10_sumOf_27 rfl rfl ?_
      refine jr_iload C0 4 dX10_sumOf_28 rfl ?_
      refine jr_iload_n C0 2 dX10_sumOf_30 rfl rfl ?_
      refine jr_aload_n C0 0 dX10_sumOf_31 rfl rfl ?_
      refine jr_vI C0 (by decide) kd_68 (by decide) rfl (ct_X10_walk l G  _) mi_X10_walk wm_X10_154 ⟨Nat.le_of_ble_eq_true rfl, Nat.le_of_ble_eq_true rfl⟩ ⟨rfl, rfl⟩ (As := []) rfl (st := [.int (vr_I x2), .int (vr_I x4), .ref (vr_ad G 68), .int (vr_I x3)]) rfl (Nat.le_of_ble_eq_true rfl) dX10_sumOf_32 (fun r4 hr4 => ?_)
      refine jr_vI C0 (by decide) kd_68 (by decide) rfl (ct_X10_givesOf l G x4 h_x4 x2 h_x2 r4.1 hr4 _) mi_X10_givesOf wm_X10_157 ⟨Nat.le_of_ble_eq_true rfl, Nat.le_of_ble_eq_true rfl⟩ ⟨rfl, rfl⟩ (As := [.int (vr_I x4), .int (vr_I x2), .int (vr_I r4.1)]) rfl (st := [.int (vr_I x3)]) rfl (Nat.le_of_ble_eq_true rfl) dX10_sumOf_35 (fun r5 hr5 => ?_)
      refine jr_goto C0 dX10_sumOf_38 (tgt := 42) (by decide) ?_
      refine jr_sub [0, 1, 2, 4] rfl ?_
      exact B42 x1 h_x1 x2 h_x2 x4 h_x4 x3 h_x3 r5.1 hr5 _
  unfold fX10_sumOf
  refine jr_iconst C0 dX10_sumOf_0 ?_
  refine jr_istore_n C0 dX10_sumOf_1 rfl (by decide) (lv' := [(3, .int (vr_I 0)), (0, .ref (vr_ad G 68)), (1, .int (vr_I a0)), (2, .int (vr_I a1))]) rfl ?_
  refine jr_iconst C0 dX10_sumOf_2 ?_
  refine jr_istore C0 dX10_sumOf_3 (by decide) (lv' := [(4, .int (vr_I 0)), (3, .int (vr_I 0)), (0, .ref (vr_ad G 68)), (1, .int (vr_I a0)), (2, .int (vr_I a1))]) rfl ?_
  refine jr_sub [2, 3, 4, 1, 0] rfl ?_
  exact L5 9000 a0 h_a0 a1 h_a1 0 (⟨by decide, by decide⟩) 0 (⟨by decide, by decide⟩) _
theorem dX10_gives_0 : decode cX10_gives 0 = .ok (.aload_n 0, 1) := by decide +kernel
theorem dX10_gives_1 : decode cX10_gives 1 = .ok (.iload_n 1, 1) := by decide +kernel
theorem dX10_gives_2 : decode cX10_gives 2 = .ok (.invokevirtual 48, 3) := by decide +kernel
theorem dX10_gives_5 : decode cX10_gives 5 = .ok (.ifCond .eq 22, 3) := by decide +kernel
theorem dX10_gives_8 : decode cX10_gives 8 = .ok (.aload_n 0, 1) := by decide +kernel
theorem dX10_gives_9 : decode cX10_gives 9 = .ok (.iload_n 1, 1) := by decide +kernel
theorem dX10_gives_10 : decode cX10_gives 10 = .ok (.aload_n 0, 1) := by decide +kernel
theorem dX10_gives_11 : decode cX10_gives 11 = .ok (.getfield 9, 3) := by decide +kernel
theorem dX10_gives_14 : decode cX10_gives 14 = .ok (.bipush 7, 2) := by decide +kernel
theorem dX10_gives_16 : decode cX10_gives 16 = .ok (.iaload, 1) := by decide +kernel
theorem dX10_gives_17 : decode cX10_gives 17 = .ok (.aload_n 0, 1) := by decide +kernel
theorem dX10_gives_18 : decode cX10_gives 18 = .ok (.invokevirtual 154, 3) := by decide +kernel
theorem dX10_gives_21 : decode cX10_gives 21 = .ok (.invokevirtual 157, 3) := by decide +kernel
theorem dX10_gives_24 : decode cX10_gives 24 = .ok (.goto 4, 3) := by decide +kernel
theorem dX10_gives_27 : decode cX10_gives 27 = .ok (.iconst (-1), 1) := by decide +kernel
theorem dX10_gives_28 : decode cX10_gives 28 = .ok (.ireturn, 1) := by decide +kernel
def fX10_gives_B28 (y0 : Int) (μ : vr_M) : Option (Int × vr_M) :=
  some (y0, μ)
def fX10_gives (a0 : Int) (μ : vr_M) : Option (Int × vr_M) :=
  (fX10_isPlot a0 μ).bind (fun r1 => if r1.1 = 0 then fX10_gives_B28 (-1) r1.2 else (fX10_walk  r1.2).bind (fun r2 => vr_gd (vr_R (r1.2 69 7)) ((fX10_givesOf a0 (r1.2 69 7) r2.1 r2.2).bind (fun r4 => fX10_gives_B28 r4.1 r4.2))))
set_option maxRecDepth 100000 in
set_option maxHeartbeats 4000000 in
theorem ct_X10_gives (l : Launch) (G : vr_G) (a0 : Int) (h_a0 : vr_R a0) (μ : vr_M) : vr_CI l yX10_gives cX10_gives 2 (some .int) ({ frames := 4, cells := 0, slots := 0, locals := 98 } : Room) G [.ref (vr_ad G 68), .int (vr_I a0)] μ (fX10_gives a0 μ) := by
  refine vr_start (own := RX10) (by decide) rfl (Nat.le_of_ble_eq_true rfl) (fun p e s m args below meth c C0 => ?_)
  show vr_J p l e _ s m args below meth c 2 0 0 G (vr_Z (vr_QI G) G args s below) 0 [(0, .ref (vr_ad G 68)), (1, .int (vr_I a0))] [] μ _
  have B28 : ∀ (y0 : Int) (h_y0 : vr_R y0) (μ : vr_M), vr_J p l e ({ frames := 4, cells := 0, slots := 0, locals := 98 } : Room) s m args below meth c 2 0 0 G (vr_Z (vr_QI G) G args s below) 28 [] [.int (vr_I y0)] μ (fX10_gives_B28 y0 μ) := by
    intro y0 h_y0 μ
    unfold fX10_gives_B28
    exact jr_iret C0 h_y0 dX10_gives_28
  unfold fX10_gives
  refine jr_aload_n C0 0 dX10_gives_0 rfl rfl ?_
  refine jr_iload_n C0 1 dX10_gives_1 rfl rfl ?_
  refine jr_vI C0 (by decide) kd_68 (by decide) rfl (ct_X10_isPlot l G a0 h_a0 _) mi_X10_isPlot wm_X10_48 ⟨Nat.le_of_ble_eq_true rfl, Nat.le_of_ble_eq_true rfl⟩ ⟨rfl, rfl⟩ (As := [.int (vr_I a0)]) rfl (st := []) rfl (Nat.le_of_ble_eq_true rfl) dX10_gives_2 (fun r1 hr1 => ?_)
  refine jr_if_eq C0 hr1 dX10_gives_5 (tgt := 27) (by decide) ?_ ?_
  · refine jr_iconst C0 dX10_gives_27 ?_
    refine jr_sub [] rfl ?_
    exact B28 (-1) (⟨by decide, by decide⟩) _
  refine jr_aload_n C0 0 dX10_gives_8 rfl rfl ?_
  refine jr_iload_n C0 1 dX10_gives_9 rfl rfl ?_
  refine jr_aload_n C0 0 dX10_gives_10 rfl rfl ?_
  refine jr_getr C0 (by decide) kd_68 (by decide) rfl wx_X10 (i := 1) (by decide) wf_X10_9 (j := 69) rfl dX10_gives_11 ?_
  refine jr_bipush C0 dX10_gives_14 rfl ?_
  refine jr_iald C0 (by decide) kd_69 kl_69 (by decide) (j := 7) rfl dX10_gives_16 ?_
  refine jr_aload_n C0 0 dX10_gives_17 rfl rfl ?_
  refine jr_vI C0 (by decide) kd_68 (by decide) rfl (ct_X10_walk l G  _) mi_X10_walk wm_X10_154 ⟨Nat.le_of_ble_eq_true rfl, Nat.le_of_ble_eq_true rfl⟩ ⟨rfl, rfl⟩ (As := []) rfl (st := [.int (vr_I (r1.2 69 7)), .int (vr_I a0), .ref (vr_ad G 68)]) rfl (Nat.le_of_ble_eq_true rfl) dX10_gives_18 (fun r2 hr2 => ?_)
  refine jr_gd (fun g3 => ?_)
  refine jr_vI C0 (by decide) kd_68 (by decide) rfl (ct_X10_givesOf l G a0 h_a0 (r1.2 69 7) g3 r2.1 hr2 _) mi_X10_givesOf wm_X10_157 ⟨Nat.le_of_ble_eq_true rfl, Nat.le_of_ble_eq_true rfl⟩ ⟨rfl, rfl⟩ (As := [.int (vr_I a0), .int (vr_I (r1.2 69 7)), .int (vr_I r2.1)]) rfl (st := []) rfl (Nat.le_of_ble_eq_true rfl) dX10_gives_21 (fun r4 hr4 => ?_)
  refine jr_goto C0 dX10_gives_24 (tgt := 28) (by decide) ?_
  refine jr_sub [] rfl ?_
  exact B28 r4.1 hr4 _
theorem dX10_goesBy_0 : decode cX10_goesBy 0 = .ok (.aload_n 0, 1) := by decide +kernel
theorem dX10_goesBy_1 : decode cX10_goesBy 1 = .ok (.iload_n 1, 1) := by decide +kernel
theorem dX10_goesBy_2 : decode cX10_goesBy 2 = .ok (.iload_n 2, 1) := by decide +kernel
theorem dX10_goesBy_3 : decode cX10_goesBy 3 = .ok (.invokevirtual 161, 3) := by decide +kernel
theorem dX10_goesBy_6 : decode cX10_goesBy 6 = .ok (.istore 4, 2) := by decide +kernel
theorem dX10_goesBy_8 : decode cX10_goesBy 8 = .ok (.iload 4, 2) := by decide +kernel
theorem dX10_goesBy_10 : decode cX10_goesBy 10 = .ok (.iload_n 2, 1) := by decide +kernel
theorem dX10_goesBy_11 : decode cX10_goesBy 11 = .ok (.aload_n 0, 1) := by decide +kernel
theorem dX10_goesBy_12 : decode cX10_goesBy 12 = .ok (.getfield 9, 3) := by decide +kernel
theorem dX10_goesBy_15 : decode cX10_goesBy 15 = .ok (.bipush 7, 2) := by decide +kernel
theorem dX10_goesBy_17 : decode cX10_goesBy 17 = .ok (.iaload, 1) := by decide +kernel
theorem dX10_goesBy_18 : decode cX10_goesBy 18 = .ok (.if_icmp .ne 7, 3) := by decide +kernel
theorem dX10_goesBy_21 : decode cX10_goesBy 21 = .ok (.iconst 0, 1) := by decide +kernel
theorem dX10_goesBy_22 : decode cX10_goesBy 22 = .ok (.goto 11, 3) := by decide +kernel
theorem dX10_goesBy_25 : decode cX10_goesBy 25 = .ok (.aload_n 0, 1) := by decide +kernel
theorem dX10_goesBy_26 : decode cX10_goesBy 26 = .ok (.sipush 213, 3) := by decide +kernel
theorem dX10_goesBy_29 : decode cX10_goesBy 29 = .ok (.iconst 0, 1) := by decide +kernel
theorem dX10_goesBy_30 : decode cX10_goesBy 30 = .ok (.invokevirtual 139, 3) := by decide +kernel
theorem dX10_goesBy_33 : decode cX10_goesBy 33 = .ok (.isub, 1) := by decide +kernel
theorem dX10_goesBy_34 : decode cX10_goesBy 34 = .ok (.istore 5, 2) := by decide +kernel
theorem dX10_goesBy_36 : decode cX10_goesBy 36 = .ok (.iconst 0, 1) := by decide +kernel
theorem dX10_goesBy_37 : decode cX10_goesBy 37 = .ok (.istore 6, 2) := by decide +kernel
theorem dX10_goesBy_39 : decode cX10_goesBy 39 = .ok (.iload 6, 2) := by decide +kernel
theorem dX10_goesBy_41 : decode cX10_goesBy 41 = .ok (.aload_n 0, 1) := by decide +kernel
theorem dX10_goesBy_42 : decode cX10_goesBy 42 = .ok (.getfield 9, 3) := by decide +kernel
theorem dX10_goesBy_45 : decode cX10_goesBy 45 = .ok (.iconst 0, 1) := by decide +kernel
theorem dX10_goesBy_46 : decode cX10_goesBy 46 = .ok (.iaload, 1) := by decide +kernel
theorem dX10_goesBy_47 : decode cX10_goesBy 47 = .ok (.if_icmp .ge 130, 3) := by decide +kernel
theorem dX10_goesBy_50 : decode cX10_goesBy 50 = .ok (.iload_n 1, 1) := by decide +kernel
theorem dX10_goesBy_51 : decode cX10_goesBy 51 = .ok (.iload 6, 2) := by decide +kernel
theorem dX10_goesBy_53 : decode cX10_goesBy 53 = .ok (.ishr, 1) := by decide +kernel
theorem dX10_goesBy_54 : decode cX10_goesBy 54 = .ok (.iconst 1, 1) := by decide +kernel
theorem dX10_goesBy_55 : decode cX10_goesBy 55 = .ok (.iand, 1) := by decide +kernel
theorem dX10_goesBy_56 : decode cX10_goesBy 56 = .ok (.iconst 1, 1) := by decide +kernel
theorem dX10_goesBy_57 : decode cX10_goesBy 57 = .ok (.if_icmp .ne 38, 3) := by decide +kernel
theorem dX10_goesBy_60 : decode cX10_goesBy 60 = .ok (.aload_n 0, 1) := by decide +kernel
theorem dX10_goesBy_61 : decode cX10_goesBy 61 = .ok (.getfield 9, 3) := by decide +kernel
theorem dX10_goesBy_64 : decode cX10_goesBy 64 = .ok (.sipush 162, 3) := by decide +kernel
theorem dX10_goesBy_67 : decode cX10_goesBy 67 = .ok (.iload 6, 2) := by decide +kernel
theorem dX10_goesBy_69 : decode cX10_goesBy 69 = .ok (.iadd, 1) := by decide +kernel
theorem dX10_goesBy_70 : decode cX10_goesBy 70 = .ok (.aload_n 0, 1) := by decide +kernel
theorem dX10_goesBy_71 : decode cX10_goesBy 71 = .ok (.iload 6, 2) := by decide +kernel
theorem dX10_goesBy_73 : decode cX10_goesBy 73 = .ok (.invokevirtual 151, 3) := by decide +kernel
theorem dX10_goesBy_76 : decode cX10_goesBy 76 = .ok (.iastore, 1) := by decide +kernel
theorem dX10_goesBy_77 : decode cX10_goesBy 77 = .ok (.aload_n 0, 1) := by decide +kernel
theorem dX10_goesBy_78 : decode cX10_goesBy 78 = .ok (.getfield 9, 3) := by decide +kernel
theorem dX10_goesBy_81 : decode cX10_goesBy 81 = .ok (.sipush 146, 3) := by decide +kernel
theorem dX10_goesBy_84 : decode cX10_goesBy 84 = .ok (.iload 6, 2) := by decide +kernel
theorem dX10_goesBy_86 : decode cX10_goesBy 86 = .ok (.iadd, 1) := by decide +kernel
theorem dX10_goesBy_87 : decode cX10_goesBy 87 = .ok (.dup2, 1) := by decide +kernel
theorem dX10_goesBy_88 : decode cX10_goesBy 88 = .ok (.iaload, 1) := by decide +kernel
theorem dX10_goesBy_89 : decode cX10_goesBy 89 = .ok (.iconst 1, 1) := by decide +kernel
theorem dX10_goesBy_90 : decode cX10_goesBy 90 = .ok (.iadd, 1) := by decide +kernel
theorem dX10_goesBy_91 : decode cX10_goesBy 91 = .ok (.iastore, 1) := by decide +kernel
theorem dX10_goesBy_92 : decode cX10_goesBy 92 = .ok (.goto 79, 3) := by decide +kernel
theorem dX10_goesBy_95 : decode cX10_goesBy 95 = .ok (.aload_n 0, 1) := by decide +kernel
theorem dX10_goesBy_96 : decode cX10_goesBy 96 = .ok (.getfield 9, 3) := by decide +kernel
theorem dX10_goesBy_99 : decode cX10_goesBy 99 = .ok (.sipush 146, 3) := by decide +kernel
theorem dX10_goesBy_102 : decode cX10_goesBy 102 = .ok (.iload 6, 2) := by decide +kernel
theorem dX10_goesBy_104 : decode cX10_goesBy 104 = .ok (.iadd, 1) := by decide +kernel
theorem dX10_goesBy_105 : decode cX10_goesBy 105 = .ok (.iaload, 1) := by decide +kernel
theorem dX10_goesBy_106 : decode cX10_goesBy 106 = .ok (.ifCond .le 30, 3) := by decide +kernel
theorem dX10_goesBy_109 : decode cX10_goesBy 109 = .ok (.aload_n 0, 1) := by decide +kernel
theorem dX10_goesBy_110 : decode cX10_goesBy 110 = .ok (.getfield 9, 3) := by decide +kernel
theorem dX10_goesBy_113 : decode cX10_goesBy 113 = .ok (.sipush 146, 3) := by decide +kernel
theorem dX10_goesBy_116 : decode cX10_goesBy 116 = .ok (.iload 6, 2) := by decide +kernel
theorem dX10_goesBy_118 : decode cX10_goesBy 118 = .ok (.iadd, 1) := by decide +kernel
theorem dX10_goesBy_119 : decode cX10_goesBy 119 = .ok (.iconst 0, 1) := by decide +kernel
theorem dX10_goesBy_120 : decode cX10_goesBy 120 = .ok (.iastore, 1) := by decide +kernel
theorem dX10_goesBy_121 : decode cX10_goesBy 121 = .ok (.aload_n 0, 1) := by decide +kernel
theorem dX10_goesBy_122 : decode cX10_goesBy 122 = .ok (.getfield 9, 3) := by decide +kernel
theorem dX10_goesBy_125 : decode cX10_goesBy 125 = .ok (.sipush 154, 3) := by decide +kernel
theorem dX10_goesBy_128 : decode cX10_goesBy 128 = .ok (.iload 6, 2) := by decide +kernel
theorem dX10_goesBy_130 : decode cX10_goesBy 130 = .ok (.iadd, 1) := by decide +kernel
theorem dX10_goesBy_131 : decode cX10_goesBy 131 = .ok (.iconst 0, 1) := by decide +kernel
theorem dX10_goesBy_132 : decode cX10_goesBy 132 = .ok (.iastore, 1) := by decide +kernel
theorem dX10_goesBy_133 : decode cX10_goesBy 133 = .ok (.goto 38, 3) := by decide +kernel
theorem dX10_goesBy_136 : decode cX10_goesBy 136 = .ok (.aload_n 0, 1) := by decide +kernel
theorem dX10_goesBy_137 : decode cX10_goesBy 137 = .ok (.getfield 9, 3) := by decide +kernel
theorem dX10_goesBy_140 : decode cX10_goesBy 140 = .ok (.sipush 154, 3) := by decide +kernel
theorem dX10_goesBy_143 : decode cX10_goesBy 143 = .ok (.iload 6, 2) := by decide +kernel
theorem dX10_goesBy_145 : decode cX10_goesBy 145 = .ok (.iadd, 1) := by decide +kernel
theorem dX10_goesBy_146 : decode cX10_goesBy 146 = .ok (.dup2, 1) := by decide +kernel
theorem dX10_goesBy_147 : decode cX10_goesBy 147 = .ok (.iaload, 1) := by decide +kernel
theorem dX10_goesBy_148 : decode cX10_goesBy 148 = .ok (.aload_n 0, 1) := by decide +kernel
theorem dX10_goesBy_149 : decode cX10_goesBy 149 = .ok (.getfield 9, 3) := by decide +kernel
theorem dX10_goesBy_152 : decode cX10_goesBy 152 = .ok (.sipush 154, 3) := by decide +kernel
theorem dX10_goesBy_155 : decode cX10_goesBy 155 = .ok (.iload 6, 2) := by decide +kernel
theorem dX10_goesBy_157 : decode cX10_goesBy 157 = .ok (.iadd, 1) := by decide +kernel
theorem dX10_goesBy_158 : decode cX10_goesBy 158 = .ok (.iaload, 1) := by decide +kernel
theorem dX10_goesBy_159 : decode cX10_goesBy 159 = .ok (.bipush 30, 2) := by decide +kernel
theorem dX10_goesBy_161 : decode cX10_goesBy 161 = .ok (.if_icmp .ge 7, 3) := by decide +kernel
theorem dX10_goesBy_164 : decode cX10_goesBy 164 = .ok (.iconst 1, 1) := by decide +kernel
theorem dX10_goesBy_165 : decode cX10_goesBy 165 = .ok (.goto 4, 3) := by decide +kernel
theorem dX10_goesBy_168 : decode cX10_goesBy 168 = .ok (.iconst 0, 1) := by decide +kernel
theorem dX10_goesBy_169 : decode cX10_goesBy 169 = .ok (.iadd, 1) := by decide +kernel
theorem dX10_goesBy_170 : decode cX10_goesBy 170 = .ok (.iastore, 1) := by decide +kernel
theorem dX10_goesBy_171 : decode cX10_goesBy 171 = .ok (.iinc 6 1, 3) := by decide +kernel
theorem dX10_goesBy_174 : decode cX10_goesBy 174 = .ok (.goto (-135), 3) := by decide +kernel
theorem dX10_goesBy_177 : decode cX10_goesBy 177 = .ok (.aload_n 0, 1) := by decide +kernel
theorem dX10_goesBy_178 : decode cX10_goesBy 178 = .ok (.getfield 9, 3) := by decide +kernel
theorem dX10_goesBy_181 : decode cX10_goesBy 181 = .ok (.bipush 7, 2) := by decide +kernel
theorem dX10_goesBy_183 : decode cX10_goesBy 183 = .ok (.iload_n 2, 1) := by decide +kernel
theorem dX10_goesBy_184 : decode cX10_goesBy 184 = .ok (.iastore, 1) := by decide +kernel
theorem dX10_goesBy_185 : decode cX10_goesBy 185 = .ok (.iload_n 3, 1) := by decide +kernel
theorem dX10_goesBy_186 : decode cX10_goesBy 186 = .ok (.ifCond .eq 56, 3) := by decide +kernel
theorem dX10_goesBy_189 : decode cX10_goesBy 189 = .ok (.aload_n 0, 1) := by decide +kernel
theorem dX10_goesBy_190 : decode cX10_goesBy 190 = .ok (.getfield 9, 3) := by decide +kernel
theorem dX10_goesBy_193 : decode cX10_goesBy 193 = .ok (.bipush 8, 2) := by decide +kernel
theorem dX10_goesBy_195 : decode cX10_goesBy 195 = .ok (.iaload, 1) := by decide +kernel
theorem dX10_goesBy_196 : decode cX10_goesBy 196 = .ok (.aload_n 0, 1) := by decide +kernel
theorem dX10_goesBy_197 : decode cX10_goesBy 197 = .ok (.getfield 9, 3) := by decide +kernel
theorem dX10_goesBy_200 : decode cX10_goesBy 200 = .ok (.bipush 8, 2) := by decide +kernel
theorem dX10_goesBy_202 : decode cX10_goesBy 202 = .ok (.iaload, 1) := by decide +kernel
theorem dX10_goesBy_203 : decode cX10_goesBy 203 = .ok (.aload_n 0, 1) := by decide +kernel
theorem dX10_goesBy_204 : decode cX10_goesBy 204 = .ok (.sipush 218, 3) := by decide +kernel
theorem dX10_goesBy_207 : decode cX10_goesBy 207 = .ok (.iconst 0, 1) := by decide +kernel
theorem dX10_goesBy_208 : decode cX10_goesBy 208 = .ok (.invokevirtual 139, 3) := by decide +kernel
theorem dX10_goesBy_211 : decode cX10_goesBy 211 = .ok (.imul, 1) := by decide +kernel
theorem dX10_goesBy_212 : decode cX10_goesBy 212 = .ok (.bipush 99, 2) := by decide +kernel
theorem dX10_goesBy_214 : decode cX10_goesBy 214 = .ok (.iadd, 1) := by decide +kernel
theorem dX10_goesBy_215 : decode cX10_goesBy 215 = .ok (.bipush 100, 2) := by decide +kernel
theorem dX10_goesBy_217 : decode cX10_goesBy 217 = .ok (.idiv, 1) := by decide +kernel
theorem dX10_goesBy_218 : decode cX10_goesBy 218 = .ok (.iadd, 1) := by decide +kernel
theorem dX10_goesBy_219 : decode cX10_goesBy 219 = .ok (.istore 6, 2) := by decide +kernel
theorem dX10_goesBy_221 : decode cX10_goesBy 221 = .ok (.aload_n 0, 1) := by decide +kernel
theorem dX10_goesBy_222 : decode cX10_goesBy 222 = .ok (.getfield 9, 3) := by decide +kernel
theorem dX10_goesBy_225 : decode cX10_goesBy 225 = .ok (.bipush 8, 2) := by decide +kernel
theorem dX10_goesBy_227 : decode cX10_goesBy 227 = .ok (.iload 6, 2) := by decide +kernel
theorem dX10_goesBy_229 : decode cX10_goesBy 229 = .ok (.bipush 99, 2) := by decide +kernel
theorem dX10_goesBy_231 : decode cX10_goesBy 231 = .ok (.if_icmp .le 8, 3) := by decide +kernel
theorem dX10_goesBy_234 : decode cX10_goesBy 234 = .ok (.bipush 99, 2) := by decide +kernel
theorem dX10_goesBy_236 : decode cX10_goesBy 236 = .ok (.goto 5, 3) := by decide +kernel
theorem dX10_goesBy_239 : decode cX10_goesBy 239 = .ok (.iload 6, 2) := by decide +kernel
theorem dX10_goesBy_241 : decode cX10_goesBy 241 = .ok (.iastore, 1) := by decide +kernel
theorem dX10_goesBy_242 : decode cX10_goesBy 242 = .ok (.aload_n 0, 1) := by decide +kernel
theorem dX10_goesBy_243 : decode cX10_goesBy 243 = .ok (.getfield 9, 3) := by decide +kernel
theorem dX10_goesBy_246 : decode cX10_goesBy 246 = .ok (.iconst 3, 1) := by decide +kernel
theorem dX10_goesBy_247 : decode cX10_goesBy 247 = .ok (.dup2, 1) := by decide +kernel
theorem dX10_goesBy_248 : decode cX10_goesBy 248 = .ok (.iaload, 1) := by decide +kernel
theorem dX10_goesBy_249 : decode cX10_goesBy 249 = .ok (.iconst 1, 1) := by decide +kernel
theorem dX10_goesBy_250 : decode cX10_goesBy 250 = .ok (.iadd, 1) := by decide +kernel
theorem dX10_goesBy_251 : decode cX10_goesBy 251 = .ok (.iastore, 1) := by decide +kernel
theorem dX10_goesBy_252 : decode cX10_goesBy 252 = .ok (.iload 5, 2) := by decide +kernel
theorem dX10_goesBy_254 : decode cX10_goesBy 254 = .ok (.ireturn, 1) := by decide +kernel
def fX10_goesBy_B242 (x5 : Int) (μ : vr_M) : Option (Int × vr_M) :=
  some (x5, vr_u μ 69 3 ((μ 69 3) + 1))
def fX10_goesBy_B241 (x5 : Int) (y1 : Int) (y2 : Int) (μ : vr_M) : Option (Int × vr_M) :=
  vr_gd (0 ≤ y1 ∧ y1 < 933) (fX10_goesBy_B242 x5 (vr_u μ 69 y1.toNat y2))
def fX10_goesBy_B171 (rc39 : Int → Int → Int → Int → Int → vr_M → Option (Int × vr_M)) (x1 : Int) (x2 : Int) (x3 : Int) (x5 : Int) (x6 : Int) (μ : vr_M) : Option (Int × vr_M) :=
  vr_gd (vr_R (x6 + 1)) (rc39 x1 x2 x3 x5 (x6 + 1) μ)
def fX10_goesBy_B169 (rc39 : Int → Int → Int → Int → Int → vr_M → Option (Int × vr_M)) (x1 : Int) (x2 : Int) (x3 : Int) (x5 : Int) (x6 : Int) (y1 : Int) (y2 : Int) (y3 : Int) (μ : vr_M) : Option (Int × vr_M) :=
  vr_gd (0 ≤ y1 ∧ y1 < 933) (fX10_goesBy_B171 rc39 x1 x2 x3 x5 x6 (vr_u μ 69 y1.toNat (y2 + y3)))
def fX10_goesBy_L39 : Nat → Int → Int → Int → Int → Int → vr_M → Option (Int × vr_M)
  | 0, _, _, _, _, _, _ => none
  | n + 1, x1, x2, x3, x5, x6, μ => vr_gd (vr_R (μ 69 0)) (if (μ 69 0) ≤ x6 then if x3 = 0 then fX10_goesBy_B242 x5 (vr_u μ 69 7 x2) else vr_let (vr_u μ 69 7 x2) (fun μ5 => (fX10_tellsOf 218 0 μ5).bind (fun r6 => vr_gd (vr_R (((μ5 69 8) * r6.1) + 99)) (vr_gd (vr_R ((μ5 69 8) + ((((μ5 69 8) * r6.1) + 99).tdiv 100))) (if ((μ5 69 8) + ((((μ5 69 8) * r6.1) + 99).tdiv 100)) ≤ 99 then fX10_goesBy_B241 x5 8 ((μ5 69 8) + ((((μ5 69 8) * r6.1) + 99).tdiv 100)) r6.2 else fX10_goesBy_B241 x5 8 99 r6.2)))) else if ¬ (vr_and (vr_shr x1 x6) 1) = 1 then vr_gd (0 ≤ (146 + x6) ∧ (146 + x6) < 933) (vr_gd (vr_R (μ 69 (146 + x6).toNat)) (if (μ 69 (146 + x6).toNat) ≤ 0 then vr_gd (0 ≤ (154 + x6) ∧ (154 + x6) < 933) (vr_gd (vr_R (μ 69 (154 + x6).toNat)) (if 30 ≤ (μ 69 (154 + x6).toNat) then vr_gd (vr_R (154 + x6)) (fX10_goesBy_B169 (fX10_goesBy_L39 n) x1 x2 x3 x5 x6 (154 + x6) (μ 69 (154 + x6).toNat) 0 μ) else vr_gd (vr_R (154 + x6)) (fX10_goesBy_B169 (fX10_goesBy_L39 n) x1 x2 x3 x5 x6 (154 + x6) (μ 69 (154 + x6).toNat) 1 μ))) else vr_gd (0 ≤ (154 + x6) ∧ (154 + x6) < 933) (fX10_goesBy_B171 (fX10_goesBy_L39 n) x1 x2 x3 x5 x6 (vr_u (vr_u μ 69 (146 + x6).toNat 0) 69 (154 + x6).toNat 0)))) else (fX10_wornThen x6 μ).bind (fun r16 => vr_gd (0 ≤ (162 + x6) ∧ (162 + x6) < 933) (vr_gd (0 ≤ (146 + x6) ∧ (146 + x6) < 933) (vr_let (vr_u r16.2 69 (162 + x6).toNat r16.1) (fun μ19 => fX10_goesBy_B171 (fX10_goesBy_L39 n) x1 x2 x3 x5 x6 (vr_u μ19 69 (146 + x6).toNat ((μ19 69 (146 + x6).toNat) + 1)))))))
def fX10_goesBy_B33 (x1 : Int) (x2 : Int) (x3 : Int) (y0 : Int) (y1 : Int) (μ : vr_M) : Option (Int × vr_M) :=
  vr_gd (vr_R (y0 - y1)) (fX10_goesBy_L39 9000 x1 x2 x3 (y0 - y1) 0 μ)
def fX10_goesBy (a0 : Int) (a1 : Int) (a2 : Int) (μ : vr_M) : Option (Int × vr_M) :=
  (fX10_sumOf a0 a1 μ).bind (fun r21 => vr_gd (vr_R (r21.2 69 7)) (if ¬ a1 = (r21.2 69 7) then (fX10_tellsOf 213 0 r21.2).bind (fun r23 => fX10_goesBy_B33 a0 a1 a2 r21.1 r23.1 r23.2) else fX10_goesBy_B33 a0 a1 a2 r21.1 0 r21.2))
set_option maxRecDepth 100000 in
set_option maxHeartbeats 4000000 in
theorem ct_X10_goesBy (l : Launch) (G : vr_G) (a0 : Int) (h_a0 : vr_R a0) (a1 : Int) (h_a1 : vr_R a1) (a2 : Int) (h_a2 : vr_R a2) (μ : vr_M) : vr_CI l yX10_goesBy cX10_goesBy 7 (some .int) ({ frames := 5, cells := 0, slots := 0, locals := 122 } : Room) G [.ref (vr_ad G 68), .int (vr_I a0), .int (vr_I a1), .int (vr_I a2)] μ (fX10_goesBy a0 a1 a2 μ) := by
  refine vr_start (own := RX10) (by decide) rfl (Nat.le_of_ble_eq_true rfl) (fun p e s m args below meth c C0 => ?_)
  show vr_J p l e _ s m args below meth c 7 0 0 G (vr_Z (vr_QI G) G args s below) 0 [(0, .ref (vr_ad G 68)), (1, .int (vr_I a0)), (2, .int (vr_I a1)), (3, .int (vr_I a2))] [] μ _
  have B242 : ∀ (x5 : Int) (h_x5 : vr_R x5) (μ : vr_M), vr_J p l e ({ frames := 5, cells := 0, slots := 0, locals := 122 } : Room) s m args below meth c 7 0 0 G (vr_Z (vr_QI G) G args s below) 242 [(0, .ref (vr_ad G 68)), (5, .int (vr_I x5))] [] μ (fX10_goesBy_B242 x5 μ) := by
    intro x5 h_x5 μ
    unfold fX10_goesBy_B242
    refine jr_aload_n C0 0 dX10_goesBy_242 rfl rfl ?_
    refine jr_getr C0 (by decide) kd_68 (by decide) rfl wx_X10 (i := 1) (by decide) wf_X10_9 (j := 69) rfl dX10_goesBy_243 ?_
    refine jr_iconst C0 dX10_goesBy_246 ?_
    refine jr_dup2 C0 rfl rfl dX10_goesBy_247 ?_
    refine jr_iald C0 (by decide) kd_69 kl_69 (by decide) (j := 3) rfl dX10_goesBy_248 ?_
    refine jr_iconst C0 dX10_goesBy_249 ?_
    refine jr_iadd C0 dX10_goesBy_250 ?_
    refine jr_iast C0 (by decide) kd_69 kl_69 (by decide) (j := 3) rfl dX10_goesBy_251 ?_
    refine jr_iload C0 1 dX10_goesBy_252 rfl ?_
    exact jr_iret C0 h_x5 dX10_goesBy_254
  have B241 : ∀ (x5 : Int) (h_x5 : vr_R x5) (y1 : Int) (h_y1 : vr_R y1) (y2 : Int) (h_y2 : vr_R y2) (μ : vr_M), vr_J p l e ({ frames := 5, cells := 0, slots := 0, locals := 122 } : Room) s m args below meth c 7 0 0 G (vr_Z (vr_QI G) G args s below) 241 [(0, .ref (vr_ad G 68)), (5, .int (vr_I x5))] [.int (vr_I y2), .int (vr_I y1), .ref (vr_ad G 69)] μ (fX10_goesBy_B241 x5 y1 y2 μ) := by
    intro x5 h_x5 y1 h_y1 y2 h_y2 μ
    unfold fX10_goesBy_B241
    refine jr_gd (fun g1 => ?_)
    refine jr_iast C0 (by decide) kd_69 kl_69 g1 (j := y1.toNat) rfl dX10_goesBy_241 ?_
    exact B242 x5 h_x5 _
  have L39 : ∀ (n : Nat) (x1 : Int) (h_x1 : vr_R x1) (x2 : Int) (h_x2 : vr_R x2) (x3 : Int) (h_x3 : vr_R x3) (x5 : Int) (h_x5 : vr_R x5) (x6 : Int) (h_x6 : vr_R x6) (μ : vr_M), vr_J p l e ({ frames := 5, cells := 0, slots := 0, locals := 122 } : Room) s m args below meth c 7 0 0 G (vr_Z (vr_QI G) G args s below) 39 [(0, .ref (vr_ad G 68)), (1, .int (vr_I x1)), (2, .int (vr_I x2)), (3, .int (vr_I x3)), (5, .int (vr_I x5)), (6, .int (vr_I x6))] [] μ (fX10_goesBy_L39 n x1 x2 x3 x5 x6 μ) := by
    intro n39
    induction n39 with
    | zero => intros; exact jr_none
    | succ n39 ih39 =>
      have B171 : ∀ (x1 : Int) (h_x1 : vr_R x1) (x2 : Int) (h_x2 : vr_R x2) (x3 : Int) (h_x3 : vr_R x3) (x5 : Int) (h_x5 : vr_R x5) (x6 : Int) (h_x6 : vr_R x6) (μ : vr_M), vr_J p l e ({ frames := 5, cells := 0, slots := 0, locals := 122 } : Room) s m args below meth c 7 0 0 G (vr_Z (vr_QI G) G args s below) 171 [(0, .ref (vr_ad G 68)), (1, .int (vr_I x1)), (2, .int (vr_I x2)), (3, .int (vr_I x3)), (5, .int (vr_I x5)), (6, .int (vr_I x6))] [] μ (fX10_goesBy_B171 (fX10_goesBy_L39 n39) x1 x2 x3 x5 x6 μ) := by
        intro x1 h_x1 x2 h_x2 x3 h_x3 x5 h_x5 x6 h_x6 μ
        unfold fX10_goesBy_B171
        refine jr_iinc C0 (q := 5) dX10_goesBy_171 rfl (by decide) (lv' := [(6, .int (vr_I (x6 + 1))), (0, .ref (vr_ad G 68)), (1, .int (vr_I x1)), (2, .int (vr_I x2)), (3, .int (vr_I x3)), (5, .int (vr_I x5))]) rfl ?_
        refine jr_goto C0 dX10_goesBy_174 (tgt := 39) (by decide) ?_
        refine jr_gd (fun g2 => ?_)
        refine jr_sub [1, 2, 3, 4, 5, 0] rfl ?_
        exact ih39 x1 h_x1 x2 h_x2 x3 h_x3 x5 h_x5 (x6 + 1) g2 _
      have B169 : ∀ (x1 : Int) (h_x1 : vr_R x1) (x2 : Int) (h_x2 : vr_R x2) (x3 : Int) (h_x3 : vr_R x3) (x5 : Int) (h_x5 : vr_R x5) (x6 : Int) (h_x6 : vr_R x6) (y1 : Int) (h_y1 : vr_R y1) (y2 : Int) (h_y2 : vr_R y2) (y3 : Int) (h_y3 : vr_R y3) (μ : vr_M), vr_J p l e ({ frames := 5, cells := 0, slots := 0, locals := 122 } : Room) s m args below meth c 7 0 0 G (vr_Z (vr_QI G) G args s below) 169 [(0, .ref (vr_ad G 68)), (1, .int (vr_I x1)), (2, .int (vr_I x2)), (3, .int (vr_I x3)), (5, .int (vr_I x5)), (6, .int (vr_I x6))] [.int (vr_I y3), .int (vr_I y2), .int (vr_I y1), .ref (vr_ad G 69)] μ (fX10_goesBy_B169 (fX10_goesBy_L39 n39) x1 x2 x3 x5 x6 y1 y2 y3 μ) := by
        intro x1 h_x1 x2 h_x2 x3 h_x3 x5 h_x5 x6 h_x6 y1 h_y1 y2 h_y2 y3 h_y3 μ
        unfold fX10_goesBy_B169
        refine jr_iadd C0 dX10_goesBy_169 ?_
        refine jr_gd (fun g3 => ?_)
        refine jr_iast C0 (by decide) kd_69 kl_69 g3 (j := y1.toNat) rfl dX10_goesBy_170 ?_
        exact B171 x1 h_x1 x2 h_x2 x3 h_x3 x5 h_x5 x6 h_x6 _
      intro x1 h_x1 x2 h_x2 x3 h_x3 x5 h_x5 x6 h_x6 μ
      rw [fX10_goesBy_L39.eq_2]
      refine jr_iload C0 5 dX10_goesBy_39 rfl ?_
      refine jr_aload_n C0 0 dX10_goesBy_41 rfl rfl ?_
      refine jr_getr C0 (by decide) kd_68 (by decide) rfl wx_X10 (i := 1) (by decide) wf_X10_9 (j := 69) rfl dX10_goesBy_42 ?_
      refine jr_iconst C0 dX10_goesBy_45 ?_
      refine jr_iald C0 (by decide) kd_69 kl_69 (by decide) (j := 0) rfl dX10_goesBy_46 ?_
      refine jr_gd (fun g4 => ?_)
      refine jr_icmp_ge C0 h_x6 g4 dX10_goesBy_47 (tgt := 177) (by decide) ?_ ?_
      · refine jr_aload_n C0 0 dX10_goesBy_177 rfl rfl ?_
        refine jr_getr C0 (by decide) kd_68 (by decide) rfl wx_X10 (i := 1) (by decide) wf_X10_9 (j := 69) rfl dX10_goesBy_178 ?_
        refine jr_bipush C0 dX10_goesBy_181 rfl ?_
        refine jr_iload_n C0 2 dX10_goesBy_183 rfl rfl ?_
        refine jr_iast C0 (by decide) kd_69 kl_69 (by decide) (j := 7) rfl dX10_goesBy_184 ?_
        refine jr_iload_n C0 3 dX10_goesBy_185 rfl rfl ?_
        refine jr_if_eq C0 h_x3 dX10_goesBy_186 (tgt := 242) (by decide) ?_ ?_
        · refine jr_sub [0, 4] rfl ?_
          exact B242 x5 h_x5 _
        refine jr_aload_n C0 0 dX10_goesBy_189 rfl rfl ?_
        refine jr_getr C0 (by decide) kd_68 (by decide) rfl wx_X10 (i := 1) (by decide) wf_X10_9 (j := 69) rfl dX10_goesBy_190 ?_
        refine jr_bipush C0 dX10_goesBy_193 rfl ?_
        refine jr_let (fun μ5 => ?_)
        refine jr_iald C0 (by decide) kd_69 kl_69 (by decide) (j := 8) rfl dX10_goesBy_195 ?_
        refine jr_aload_n C0 0 dX10_goesBy_196 rfl rfl ?_
        refine jr_getr C0 (by decide) kd_68 (by decide) rfl wx_X10 (i := 1) (by decide) wf_X10_9 (j := 69) rfl dX10_goesBy_197 ?_
        refine jr_bipush C0 dX10_goesBy_200 rfl ?_
        refine jr_iald C0 (by decide) kd_69 kl_69 (by decide) (j := 8) rfl dX10_goesBy_202 ?_
        refine jr_aload_n C0 0 dX10_goesBy_203 rfl rfl ?_
        refine jr_sipush C0 dX10_goesBy_204 rfl ?_
        refine jr_iconst C0 dX10_goesBy_207 ?_
        refine jr_vI C0 (by decide) kd_68 (by decide) rfl (ct_X10_tellsOf l G 218 (⟨by decide, by decide⟩) 0 (⟨by decide, by decide⟩) _) mi_X10_tellsOf wm_X10_139 ⟨Nat.le_of_ble_eq_true rfl, Nat.le_of_ble_eq_true rfl⟩ ⟨rfl, rfl⟩ (As := [.int (vr_I 218), .int (vr_I 0)]) rfl (st := [.int (vr_I (μ5 69 8)), .int (vr_I (μ5 69 8))]) rfl (Nat.le_of_ble_eq_true rfl) dX10_goesBy_208 (fun r6 hr6 => ?_)
        refine jr_imul C0 dX10_goesBy_211 ?_
        refine jr_bipush C0 dX10_goesBy_212 rfl ?_
        refine jr_iadd C0 dX10_goesBy_214 ?_
        refine jr_bipush C0 dX10_goesBy_215 rfl ?_
        refine jr_gd (fun g7 => ?_)
        refine jr_idiv C0 g7 (⟨by decide, by decide⟩) (by decide) dX10_goesBy_217 ?_
        refine jr_iadd C0 dX10_goesBy_218 ?_
        refine jr_istore C0 dX10_goesBy_219 (by decide) (lv' := [(6, .int (vr_I ((μ5 69 8) + ((((μ5 69 8) * r6.1) + 99).tdiv 100)))), (0, .ref (vr_ad G 68)), (1, .int (vr_I x1)), (2, .int (vr_I x2)), (3, .int (vr_I x3)), (5, .int (vr_I x5))]) rfl ?_
        refine jr_aload_n C0 1 dX10_goesBy_221 rfl rfl ?_
        refine jr_getr C0 (by decide) kd_68 (by decide) rfl wx_X10 (i := 1) (by decide) wf_X10_9 (j := 69) rfl dX10_goesBy_222 ?_
        refine jr_bipush C0 dX10_goesBy_225 rfl ?_
        refine jr_iload C0 0 dX10_goesBy_227 rfl ?_
        refine jr_bipush C0 dX10_goesBy_229 rfl ?_
        refine jr_gd (fun g8 => ?_)
        refine jr_icmp_le C0 g8 (⟨by decide, by decide⟩) dX10_goesBy_231 (tgt := 239) (by decide) ?_ ?_
        · refine jr_iload C0 0 dX10_goesBy_239 rfl ?_
          refine jr_sub [1, 5] rfl ?_
          exact B241 x5 h_x5 8 (⟨by decide, by decide⟩) ((μ5 69 8) + ((((μ5 69 8) * r6.1) + 99).tdiv 100)) g8 _
        refine jr_bipush C0 dX10_goesBy_234 rfl ?_
        refine jr_goto C0 dX10_goesBy_236 (tgt := 241) (by decide) ?_
        refine jr_sub [1, 5] rfl ?_
        exact B241 x5 h_x5 8 (⟨by decide, by decide⟩) 99 (⟨by decide, by decide⟩) _
      refine jr_iload_n C0 1 dX10_goesBy_50 rfl rfl ?_
      refine jr_iload C0 5 dX10_goesBy_51 rfl ?_
      refine jr_ishr C0 dX10_goesBy_53 ?_
      refine jr_iconst C0 dX10_goesBy_54 ?_
      refine jr_iand C0 dX10_goesBy_55 ?_
      refine jr_iconst C0 dX10_goesBy_56 ?_
      refine jr_icmp_ne C0 (vr_RT _) (⟨by decide, by decide⟩) dX10_goesBy_57 (tgt := 95) (by decide) ?_ ?_
      · refine jr_aload_n C0 0 dX10_goesBy_95 rfl rfl ?_
        refine jr_getr C0 (by decide) kd_68 (by decide) rfl wx_X10 (i := 1) (by decide) wf_X10_9 (j := 69) rfl dX10_goesBy_96 ?_
        refine jr_sipush C0 dX10_goesBy_99 rfl ?_
        refine jr_iload C0 5 dX10_goesBy_102 rfl ?_
        refine jr_iadd C0 dX10_goesBy_104 ?_
        refine jr_gd (fun g9 => ?_)
        refine jr_iald C0 (by decide) kd_69 kl_69 g9 (j := (146 + x6).toNat) rfl dX10_goesBy_105 ?_
        refine jr_gd (fun g10 => ?_)
        refine jr_if_le C0 g10 dX10_goesBy_106 (tgt := 136) (by decide) ?_ ?_
        · refine jr_aload_n C0 0 dX10_goesBy_136 rfl rfl ?_
          refine jr_getr C0 (by decide) kd_68 (by decide) rfl wx_X10 (i := 1) (by decide) wf_X10_9 (j := 69) rfl dX10_goesBy_137 ?_
          refine jr_sipush C0 dX10_goesBy_140 rfl ?_
          refine jr_iload C0 5 dX10_goesBy_143 rfl ?_
          refine jr_iadd C0 dX10_goesBy_145 ?_
          refine jr_dup2 C0 rfl rfl dX10_goesBy_146 ?_
          refine jr_gd (fun g11 => ?_)
          refine jr_iald C0 (by decide) kd_69 kl_69 g11 (j := (154 + x6).toNat) rfl dX10_goesBy_147 ?_
          refine jr_aload_n C0 0 dX10_goesBy_148 rfl rfl ?_
          refine jr_getr C0 (by decide) kd_68 (by decide) rfl wx_X10 (i := 1) (by decide) wf_X10_9 (j := 69) rfl dX10_goesBy_149 ?_
          refine jr_sipush C0 dX10_goesBy_152 rfl ?_
          refine jr_iload C0 5 dX10_goesBy_155 rfl ?_
          refine jr_iadd C0 dX10_goesBy_157 ?_
          refine jr_iald C0 (by decide) kd_69 kl_69 g11 (j := (154 + x6).toNat) rfl dX10_goesBy_158 ?_
          refine jr_bipush C0 dX10_goesBy_159 rfl ?_
          refine jr_gd (fun g12 => ?_)
          refine jr_icmp_ge C0 g12 (⟨by decide, by decide⟩) dX10_goesBy_161 (tgt := 168) (by decide) ?_ ?_
          · refine jr_iconst C0 dX10_goesBy_168 ?_
            refine jr_gd (fun g13 => ?_)
            exact B169 x1 h_x1 x2 h_x2 x3 h_x3 x5 h_x5 x6 h_x6 (154 + x6) g13 (μ 69 (154 + x6).toNat) g12 0 (⟨by decide, by decide⟩) _
          refine jr_iconst C0 dX10_goesBy_164 ?_
          refine jr_goto C0 dX10_goesBy_165 (tgt := 169) (by decide) ?_
          refine jr_gd (fun g14 => ?_)
          exact B169 x1 h_x1 x2 h_x2 x3 h_x3 x5 h_x5 x6 h_x6 (154 + x6) g14 (μ 69 (154 + x6).toNat) g12 1 (⟨by decide, by decide⟩) _
        refine jr_aload_n C0 0 dX10_goesBy_109 rfl rfl ?_
        refine jr_getr C0 (by decide) kd_68 (by decide) rfl wx_X10 (i := 1) (by decide) wf_X10_9 (j := 69) rfl dX10_goesBy_110 ?_
        refine jr_sipush C0 dX10_goesBy_113 rfl ?_
        refine jr_iload C0 5 dX10_goesBy_116 rfl ?_
        refine jr_iadd C0 dX10_goesBy_118 ?_
        refine jr_iconst C0 dX10_goesBy_119 ?_
        refine jr_iast C0 (by decide) kd_69 kl_69 g9 (j := (146 + x6).toNat) rfl dX10_goesBy_120 ?_
        refine jr_aload_n C0 0 dX10_goesBy_121 rfl rfl ?_
        refine jr_getr C0 (by decide) kd_68 (by decide) rfl wx_X10 (i := 1) (by decide) wf_X10_9 (j := 69) rfl dX10_goesBy_122 ?_
        refine jr_sipush C0 dX10_goesBy_125 rfl ?_
        refine jr_iload C0 5 dX10_goesBy_128 rfl ?_
        refine jr_iadd C0 dX10_goesBy_130 ?_
        refine jr_iconst C0 dX10_goesBy_131 ?_
        refine jr_gd (fun g15 => ?_)
        refine jr_iast C0 (by decide) kd_69 kl_69 g15 (j := (154 + x6).toNat) rfl dX10_goesBy_132 ?_
        refine jr_goto C0 dX10_goesBy_133 (tgt := 171) (by decide) ?_
        exact B171 x1 h_x1 x2 h_x2 x3 h_x3 x5 h_x5 x6 h_x6 _
      refine jr_aload_n C0 0 dX10_goesBy_60 rfl rfl ?_
      refine jr_getr C0 (by decide) kd_68 (by decide) rfl wx_X10 (i := 1) (by decide) wf_X10_9 (j := 69) rfl dX10_goesBy_61 ?_
      refine jr_sipush C0 dX10_goesBy_64 rfl ?_
      refine jr_iload C0 5 dX10_goesBy_67 rfl ?_
      refine jr_iadd C0 dX10_goesBy_69 ?_
      refine jr_aload_n C0 0 dX10_goesBy_70 rfl rfl ?_
      refine jr_iload C0 5 dX10_goesBy_71 rfl ?_
      refine jr_vI C0 (by decide) kd_68 (by decide) rfl (ct_X10_wornThen l G x6 h_x6 _) mi_X10_wornThen wm_X10_151 ⟨Nat.le_of_ble_eq_true rfl, Nat.le_of_ble_eq_true rfl⟩ ⟨rfl, rfl⟩ (As := [.int (vr_I x6)]) rfl (st := [.int (vr_I (162 + x6)), .ref (vr_ad G 69)]) rfl (Nat.le_of_ble_eq_true rfl) dX10_goesBy_73 (fun r16 hr16 => ?_)
      refine jr_gd (fun g17 => ?_)
      refine jr_iast C0 (by decide) kd_69 kl_69 g17 (j := (162 + x6).toNat) rfl dX10_goesBy_76 ?_
      refine jr_aload_n C0 0 dX10_goesBy_77 rfl rfl ?_
      refine jr_getr C0 (by decide) kd_68 (by decide) rfl wx_X10 (i := 1) (by decide) wf_X10_9 (j := 69) rfl dX10_goesBy_78 ?_
      refine jr_sipush C0 dX10_goesBy_81 rfl ?_
      refine jr_iload C0 5 dX10_goesBy_84 rfl ?_
      refine jr_iadd C0 dX10_goesBy_86 ?_
      refine jr_dup2 C0 rfl rfl dX10_goesBy_87 ?_
      refine jr_gd (fun g18 => ?_)
      refine jr_let (fun μ19 => ?_)
      refine jr_iald C0 (by decide) kd_69 kl_69 g18 (j := (146 + x6).toNat) rfl dX10_goesBy_88 ?_
      refine jr_iconst C0 dX10_goesBy_89 ?_
      refine jr_iadd C0 dX10_goesBy_90 ?_
      refine jr_iast C0 (by decide) kd_69 kl_69 g18 (j := (146 + x6).toNat) rfl dX10_goesBy_91 ?_
      refine jr_goto C0 dX10_goesBy_92 (tgt := 171) (by decide) ?_
      exact B171 x1 h_x1 x2 h_x2 x3 h_x3 x5 h_x5 x6 h_x6 _
  have B33 : ∀ (x1 : Int) (h_x1 : vr_R x1) (x2 : Int) (h_x2 : vr_R x2) (x3 : Int) (h_x3 : vr_R x3) (y0 : Int) (h_y0 : vr_R y0) (y1 : Int) (h_y1 : vr_R y1) (μ : vr_M), vr_J p l e ({ frames := 5, cells := 0, slots := 0, locals := 122 } : Room) s m args below meth c 7 0 0 G (vr_Z (vr_QI G) G args s below) 33 [(0, .ref (vr_ad G 68)), (1, .int (vr_I x1)), (2, .int (vr_I x2)), (3, .int (vr_I x3))] [.int (vr_I y1), .int (vr_I y0)] μ (fX10_goesBy_B33 x1 x2 x3 y0 y1 μ) := by
    intro x1 h_x1 x2 h_x2 x3 h_x3 y0 h_y0 y1 h_y1 μ
    unfold fX10_goesBy_B33
    refine jr_isub C0 dX10_goesBy_33 ?_
    refine jr_istore C0 dX10_goesBy_34 (by decide) (lv' := [(5, .int (vr_I (y0 - y1))), (0, .ref (vr_ad G 68)), (1, .int (vr_I x1)), (2, .int (vr_I x2)), (3, .int (vr_I x3))]) rfl ?_
    refine jr_iconst C0 dX10_goesBy_36 ?_
    refine jr_istore C0 dX10_goesBy_37 (by decide) (lv' := [(6, .int (vr_I 0)), (5, .int (vr_I (y0 - y1))), (0, .ref (vr_ad G 68)), (1, .int (vr_I x1)), (2, .int (vr_I x2)), (3, .int (vr_I x3))]) rfl ?_
    refine jr_gd (fun g20 => ?_)
    refine jr_sub [2, 3, 4, 5, 1, 0] rfl ?_
    exact L39 9000 x1 h_x1 x2 h_x2 x3 h_x3 (y0 - y1) g20 0 (⟨by decide, by decide⟩) _
  unfold fX10_goesBy
  refine jr_aload_n C0 0 dX10_goesBy_0 rfl rfl ?_
  refine jr_iload_n C0 1 dX10_goesBy_1 rfl rfl ?_
  refine jr_iload_n C0 2 dX10_goesBy_2 rfl rfl ?_
  refine jr_vI C0 (by decide) kd_68 (by decide) rfl (ct_X10_sumOf l G a0 h_a0 a1 h_a1 _) mi_X10_sumOf wm_X10_161 ⟨Nat.le_of_ble_eq_true rfl, Nat.le_of_ble_eq_true rfl⟩ ⟨rfl, rfl⟩ (As := [.int (vr_I a0), .int (vr_I a1)]) rfl (st := []) rfl (Nat.le_of_ble_eq_true rfl) dX10_goesBy_3 (fun r21 hr21 => ?_)
  refine jr_istore C0 dX10_goesBy_6 (by decide) (lv' := [(4, .int (vr_I r21.1)), (0, .ref (vr_ad G 68)), (1, .int (vr_I a0)), (2, .int (vr_I a1)), (3, .int (vr_I a2))]) rfl ?_
  refine jr_iload C0 0 dX10_goesBy_8 rfl ?_
  refine jr_iload_n C0 3 dX10_goesBy_10 rfl rfl ?_
  refine jr_aload_n C0 1 dX10_goesBy_11 rfl rfl ?_
  refine jr_getr C0 (by decide) kd_68 (by decide) rfl wx_X10 (i := 1) (by decide) wf_X10_9 (j := 69) rfl dX10_goesBy_12 ?_
  refine jr_bipush C0 dX10_goesBy_15 rfl ?_
  refine jr_iald C0 (by decide) kd_69 kl_69 (by decide) (j := 7) rfl dX10_goesBy_17 ?_
  refine jr_gd (fun g22 => ?_)
  refine jr_icmp_ne C0 h_a1 g22 dX10_goesBy_18 (tgt := 25) (by decide) ?_ ?_
  · refine jr_aload_n C0 1 dX10_goesBy_25 rfl rfl ?_
    refine jr_sipush C0 dX10_goesBy_26 rfl ?_
    refine jr_iconst C0 dX10_goesBy_29 ?_
    refine jr_vI C0 (by decide) kd_68 (by decide) rfl (ct_X10_tellsOf l G 213 (⟨by decide, by decide⟩) 0 (⟨by decide, by decide⟩) _) mi_X10_tellsOf wm_X10_139 ⟨Nat.le_of_ble_eq_true rfl, Nat.le_of_ble_eq_true rfl⟩ ⟨rfl, rfl⟩ (As := [.int (vr_I 213), .int (vr_I 0)]) rfl (st := [.int (vr_I r21.1)]) rfl (Nat.le_of_ble_eq_true rfl) dX10_goesBy_30 (fun r23 hr23 => ?_)
    refine jr_sub [1, 2, 3, 4] rfl ?_
    exact B33 a0 h_a0 a1 h_a1 a2 h_a2 r21.1 hr21 r23.1 hr23 _
  refine jr_iconst C0 dX10_goesBy_21 ?_
  refine jr_goto C0 dX10_goesBy_22 (tgt := 33) (by decide) ?_
  refine jr_sub [1, 2, 3, 4] rfl ?_
  exact B33 a0 h_a0 a1 h_a1 a2 h_a2 r21.1 hr21 0 (⟨by decide, by decide⟩) _
theorem dX10_year_0 : decode cX10_year 0 = .ok (.iload_n 1, 1) := by decide +kernel
theorem dX10_year_1 : decode cX10_year 1 = .ok (.iconst 0, 1) := by decide +kernel
theorem dX10_year_2 : decode cX10_year 2 = .ok (.iconst 1, 1) := by decide +kernel
theorem dX10_year_3 : decode cX10_year 3 = .ok (.aload_n 0, 1) := by decide +kernel
theorem dX10_year_4 : decode cX10_year 4 = .ok (.getfield 9, 3) := by decide +kernel
theorem dX10_year_7 : decode cX10_year 7 = .ok (.iconst 0, 1) := by decide +kernel
theorem dX10_year_8 : decode cX10_year 8 = .ok (.iaload, 1) := by decide +kernel
theorem dX10_year_9 : decode cX10_year 9 = .ok (.ishl, 1) := by decide +kernel
theorem dX10_year_10 : decode cX10_year 10 = .ok (.iconst 1, 1) := by decide +kernel
theorem dX10_year_11 : decode cX10_year 11 = .ok (.isub, 1) := by decide +kernel
theorem dX10_year_12 : decode cX10_year 12 = .ok (.invokestatic 44, 3) := by decide +kernel
theorem dX10_year_15 : decode cX10_year 15 = .ok (.ifCond .eq 13, 3) := by decide +kernel
theorem dX10_year_18 : decode cX10_year 18 = .ok (.iload_n 2, 1) := by decide +kernel
theorem dX10_year_19 : decode cX10_year 19 = .ok (.iconst 0, 1) := by decide +kernel
theorem dX10_year_20 : decode cX10_year 20 = .ok (.bipush 40, 2) := by decide +kernel
theorem dX10_year_22 : decode cX10_year 22 = .ok (.invokestatic 44, 3) := by decide +kernel
theorem dX10_year_25 : decode cX10_year 25 = .ok (.ifCond .ne 7, 3) := by decide +kernel
theorem dX10_year_28 : decode cX10_year 28 = .ok (.sipush (-1002), 3) := by decide +kernel
theorem dX10_year_31 : decode cX10_year 31 = .ok (.ireturn, 1) := by decide +kernel
theorem dX10_year_32 : decode cX10_year 32 = .ok (.aload_n 0, 1) := by decide +kernel
theorem dX10_year_33 : decode cX10_year 33 = .ok (.iload_n 1, 1) := by decide +kernel
theorem dX10_year_34 : decode cX10_year 34 = .ok (.iload_n 2, 1) := by decide +kernel
theorem dX10_year_35 : decode cX10_year 35 = .ok (.iconst 1, 1) := by decide +kernel
theorem dX10_year_36 : decode cX10_year 36 = .ok (.invokevirtual 164, 3) := by decide +kernel
theorem dX10_year_39 : decode cX10_year 39 = .ok (.ireturn, 1) := by decide +kernel
def fX10_year_B28 (μ : vr_M) : Option (Int × vr_M) :=
  some ((-1002), μ)
def fX10_year (a0 : Int) (a1 : Int) (μ : vr_M) : Option (Int × vr_M) :=
  vr_gd (vr_R ((vr_shl 1 (μ 69 0)) - 1)) ((fX10_in a0 0 ((vr_shl 1 (μ 69 0)) - 1) μ).bind (fun r2 => if r2.1 = 0 then fX10_year_B28 r2.2 else (fX10_in a1 0 40 r2.2).bind (fun r3 => if ¬ r3.1 = 0 then (fX10_goesBy a0 a1 1 r3.2).bind (fun r4 => some (r4.1, r4.2)) else fX10_year_B28 r3.2)))
set_option maxRecDepth 100000 in
set_option maxHeartbeats 4000000 in
theorem ct_X10_year (l : Launch) (G : vr_G) (a0 : Int) (h_a0 : vr_R a0) (a1 : Int) (h_a1 : vr_R a1) (μ : vr_M) : vr_CI l yX10_year cX10_year 3 (some .int) ({ frames := 6, cells := 0, slots := 0, locals := 148 } : Room) G [.ref (vr_ad G 68), .int (vr_I a0), .int (vr_I a1)] μ (fX10_year a0 a1 μ) := by
  refine vr_start (own := RX10) (by decide) rfl (Nat.le_of_ble_eq_true rfl) (fun p e s m args below meth c C0 => ?_)
  show vr_J p l e _ s m args below meth c 3 0 0 G (vr_Z (vr_QI G) G args s below) 0 [(0, .ref (vr_ad G 68)), (1, .int (vr_I a0)), (2, .int (vr_I a1))] [] μ _
  have B28 : ∀ (μ : vr_M), vr_J p l e ({ frames := 6, cells := 0, slots := 0, locals := 148 } : Room) s m args below meth c 3 0 0 G (vr_Z (vr_QI G) G args s below) 28 [] [] μ (fX10_year_B28 μ) := by
    intro μ
    unfold fX10_year_B28
    refine jr_sipush C0 dX10_year_28 rfl ?_
    exact jr_iret C0 (⟨by decide, by decide⟩) dX10_year_31
  unfold fX10_year
  refine jr_iload_n C0 1 dX10_year_0 rfl rfl ?_
  refine jr_iconst C0 dX10_year_1 ?_
  refine jr_iconst C0 dX10_year_2 ?_
  refine jr_aload_n C0 0 dX10_year_3 rfl rfl ?_
  refine jr_getr C0 (by decide) kd_68 (by decide) rfl wx_X10 (i := 1) (by decide) wf_X10_9 (j := 69) rfl dX10_year_4 ?_
  refine jr_iconst C0 dX10_year_7 ?_
  refine jr_iald C0 (by decide) kd_69 kl_69 (by decide) (j := 0) rfl dX10_year_8 ?_
  refine jr_ishl C0 dX10_year_9 ?_
  refine jr_iconst C0 dX10_year_10 ?_
  refine jr_isub C0 dX10_year_11 ?_
  refine jr_gd (fun g1 => ?_)
  refine jr_sI C0 (ct_X10_in l G a0 h_a0 0 (⟨by decide, by decide⟩) ((vr_shl 1 (μ 69 0)) - 1) g1 _) mi_X10_in wm_X10_44 ⟨Nat.le_of_ble_eq_true rfl, Nat.le_of_ble_eq_true rfl⟩ ⟨rfl, rfl⟩ (As := [.int (vr_I a0), .int (vr_I 0), .int (vr_I ((vr_shl 1 (μ 69 0)) - 1))]) rfl (st := []) rfl (Nat.le_of_ble_eq_true rfl) dX10_year_12 (fun r2 hr2 => ?_)
  refine jr_if_eq C0 hr2 dX10_year_15 (tgt := 28) (by decide) ?_ ?_
  · refine jr_sub [] rfl ?_
    exact B28 _
  refine jr_iload_n C0 2 dX10_year_18 rfl rfl ?_
  refine jr_iconst C0 dX10_year_19 ?_
  refine jr_bipush C0 dX10_year_20 rfl ?_
  refine jr_sI C0 (ct_X10_in l G a1 h_a1 0 (⟨by decide, by decide⟩) 40 (⟨by decide, by decide⟩) _) mi_X10_in wm_X10_44 ⟨Nat.le_of_ble_eq_true rfl, Nat.le_of_ble_eq_true rfl⟩ ⟨rfl, rfl⟩ (As := [.int (vr_I a1), .int (vr_I 0), .int (vr_I 40)]) rfl (st := []) rfl (Nat.le_of_ble_eq_true rfl) dX10_year_22 (fun r3 hr3 => ?_)
  refine jr_if_ne C0 hr3 dX10_year_25 (tgt := 32) (by decide) ?_ ?_
  · refine jr_aload_n C0 0 dX10_year_32 rfl rfl ?_
    refine jr_iload_n C0 1 dX10_year_33 rfl rfl ?_
    refine jr_iload_n C0 2 dX10_year_34 rfl rfl ?_
    refine jr_iconst C0 dX10_year_35 ?_
    refine jr_vI C0 (by decide) kd_68 (by decide) rfl (ct_X10_goesBy l G a0 h_a0 a1 h_a1 1 (⟨by decide, by decide⟩) _) mi_X10_goesBy wm_X10_164 ⟨Nat.le_of_ble_eq_true rfl, Nat.le_of_ble_eq_true rfl⟩ ⟨rfl, rfl⟩ (As := [.int (vr_I a0), .int (vr_I a1), .int (vr_I 1)]) rfl (st := []) rfl (Nat.le_of_ble_eq_true rfl) dX10_year_36 (fun r4 hr4 => ?_)
    exact jr_iret C0 hr4 dX10_year_39
  refine jr_sub [] rfl ?_
  exact B28 _
theorem dX10_rule_0 : decode cX10_rule 0 = .ok (.iload_n 1, 1) := by decide +kernel
theorem dX10_rule_1 : decode cX10_rule 1 = .ok (.iconst 0, 1) := by decide +kernel
theorem dX10_rule_2 : decode cX10_rule 2 = .ok (.bipush 6, 2) := by decide +kernel
theorem dX10_rule_4 : decode cX10_rule 4 = .ok (.invokestatic 44, 3) := by decide +kernel
theorem dX10_rule_7 : decode cX10_rule 7 = .ok (.ifCond .ne 5, 3) := by decide +kernel
theorem dX10_rule_10 : decode cX10_rule 10 = .ok (.iconst (-1), 1) := by decide +kernel
theorem dX10_rule_11 : decode cX10_rule 11 = .ok (.ireturn, 1) := by decide +kernel
theorem dX10_rule_12 : decode cX10_rule 12 = .ok (.iload_n 2, 1) := by decide +kernel
theorem dX10_rule_13 : decode cX10_rule 13 = .ok (.iconst 1, 1) := by decide +kernel
theorem dX10_rule_14 : decode cX10_rule 14 = .ok (.bipush 30, 2) := by decide +kernel
theorem dX10_rule_16 : decode cX10_rule 16 = .ok (.invokestatic 44, 3) := by decide +kernel
theorem dX10_rule_19 : decode cX10_rule 19 = .ok (.ifCond .ne 6, 3) := by decide +kernel
theorem dX10_rule_22 : decode cX10_rule 22 = .ok (.bipush (-2), 2) := by decide +kernel
theorem dX10_rule_24 : decode cX10_rule 24 = .ok (.ireturn, 1) := by decide +kernel
theorem dX10_rule_25 : decode cX10_rule 25 = .ok (.aload_n 0, 1) := by decide +kernel
theorem dX10_rule_26 : decode cX10_rule 26 = .ok (.getfield 9, 3) := by decide +kernel
theorem dX10_rule_29 : decode cX10_rule 29 = .ok (.iconst 1, 1) := by decide +kernel
theorem dX10_rule_30 : decode cX10_rule 30 = .ok (.iaload, 1) := by decide +kernel
theorem dX10_rule_31 : decode cX10_rule 31 = .ok (.bipush 8, 2) := by decide +kernel
theorem dX10_rule_33 : decode cX10_rule 33 = .ok (.if_icmp .ne 6, 3) := by decide +kernel
theorem dX10_rule_36 : decode cX10_rule 36 = .ok (.bipush (-4), 2) := by decide +kernel
theorem dX10_rule_38 : decode cX10_rule 38 = .ok (.ireturn, 1) := by decide +kernel
theorem dX10_rule_39 : decode cX10_rule 39 = .ok (.aload_n 0, 1) := by decide +kernel
theorem dX10_rule_40 : decode cX10_rule 40 = .ok (.getfield 9, 3) := by decide +kernel
theorem dX10_rule_43 : decode cX10_rule 43 = .ok (.sipush 170, 3) := by decide +kernel
theorem dX10_rule_46 : decode cX10_rule 46 = .ok (.aload_n 0, 1) := by decide +kernel
theorem dX10_rule_47 : decode cX10_rule 47 = .ok (.getfield 9, 3) := by decide +kernel
theorem dX10_rule_50 : decode cX10_rule 50 = .ok (.iconst 1, 1) := by decide +kernel
theorem dX10_rule_51 : decode cX10_rule 51 = .ok (.iaload, 1) := by decide +kernel
theorem dX10_rule_52 : decode cX10_rule 52 = .ok (.iadd, 1) := by decide +kernel
theorem dX10_rule_53 : decode cX10_rule 53 = .ok (.iload_n 1, 1) := by decide +kernel
theorem dX10_rule_54 : decode cX10_rule 54 = .ok (.iastore, 1) := by decide +kernel
theorem dX10_rule_55 : decode cX10_rule 55 = .ok (.aload_n 0, 1) := by decide +kernel
theorem dX10_rule_56 : decode cX10_rule 56 = .ok (.getfield 9, 3) := by decide +kernel
theorem dX10_rule_59 : decode cX10_rule 59 = .ok (.sipush 178, 3) := by decide +kernel
theorem dX10_rule_62 : decode cX10_rule 62 = .ok (.aload_n 0, 1) := by decide +kernel
theorem dX10_rule_63 : decode cX10_rule 63 = .ok (.getfield 9, 3) := by decide +kernel
theorem dX10_rule_66 : decode cX10_rule 66 = .ok (.iconst 1, 1) := by decide +kernel
theorem dX10_rule_67 : decode cX10_rule 67 = .ok (.iaload, 1) := by decide +kernel
theorem dX10_rule_68 : decode cX10_rule 68 = .ok (.iadd, 1) := by decide +kernel
theorem dX10_rule_69 : decode cX10_rule 69 = .ok (.iload_n 2, 1) := by decide +kernel
theorem dX10_rule_70 : decode cX10_rule 70 = .ok (.iastore, 1) := by decide +kernel
theorem dX10_rule_71 : decode cX10_rule 71 = .ok (.aload_n 0, 1) := by decide +kernel
theorem dX10_rule_72 : decode cX10_rule 72 = .ok (.getfield 9, 3) := by decide +kernel
theorem dX10_rule_75 : decode cX10_rule 75 = .ok (.iconst 1, 1) := by decide +kernel
theorem dX10_rule_76 : decode cX10_rule 76 = .ok (.dup2, 1) := by decide +kernel
theorem dX10_rule_77 : decode cX10_rule 77 = .ok (.iaload, 1) := by decide +kernel
theorem dX10_rule_78 : decode cX10_rule 78 = .ok (.iconst 1, 1) := by decide +kernel
theorem dX10_rule_79 : decode cX10_rule 79 = .ok (.iadd, 1) := by decide +kernel
theorem dX10_rule_80 : decode cX10_rule 80 = .ok (.iastore, 1) := by decide +kernel
theorem dX10_rule_81 : decode cX10_rule 81 = .ok (.aload_n 0, 1) := by decide +kernel
theorem dX10_rule_82 : decode cX10_rule 82 = .ok (.getfield 9, 3) := by decide +kernel
theorem dX10_rule_85 : decode cX10_rule 85 = .ok (.iconst 1, 1) := by decide +kernel
theorem dX10_rule_86 : decode cX10_rule 86 = .ok (.iaload, 1) := by decide +kernel
theorem dX10_rule_87 : decode cX10_rule 87 = .ok (.iconst 1, 1) := by decide +kernel
theorem dX10_rule_88 : decode cX10_rule 88 = .ok (.isub, 1) := by decide +kernel
theorem dX10_rule_89 : decode cX10_rule 89 = .ok (.ireturn, 1) := by decide +kernel
def fX10_rule (a0 : Int) (a1 : Int) (μ : vr_M) : Option (Int × vr_M) :=
  (fX10_in a0 0 6 μ).bind (fun r1 => if ¬ r1.1 = 0 then (fX10_in a1 1 30 r1.2).bind (fun r2 => if ¬ r2.1 = 0 then vr_gd (vr_R (r2.2 69 1)) (if ¬ (r2.2 69 1) = 8 then vr_gd (0 ≤ (170 + (r2.2 69 1)) ∧ (170 + (r2.2 69 1)) < 933) (vr_let (vr_u r2.2 69 (170 + (r2.2 69 1)).toNat a0) (fun μ5 => vr_gd (0 ≤ (178 + (μ5 69 1)) ∧ (178 + (μ5 69 1)) < 933) (vr_let (vr_u μ5 69 (178 + (μ5 69 1)).toNat a1) (fun μ7 => vr_let (vr_u μ7 69 1 ((μ7 69 1) + 1)) (fun μ8 => vr_gd (vr_R ((μ8 69 1) - 1)) (some ((μ8 69 1) - 1, μ8))))))) else some ((-4), r2.2)) else some ((-2), r2.2)) else some ((-1), r1.2))
set_option maxRecDepth 100000 in
set_option maxHeartbeats 4000000 in
theorem ct_X10_rule (l : Launch) (G : vr_G) (a0 : Int) (h_a0 : vr_R a0) (a1 : Int) (h_a1 : vr_R a1) (μ : vr_M) : vr_CI l yX10_rule cX10_rule 3 (some .int) ({ frames := 1, cells := 0, slots := 0, locals := 22 } : Room) G [.ref (vr_ad G 68), .int (vr_I a0), .int (vr_I a1)] μ (fX10_rule a0 a1 μ) := by
  refine vr_start (own := RX10) (by decide) rfl (Nat.le_of_ble_eq_true rfl) (fun p e s m args below meth c C0 => ?_)
  show vr_J p l e _ s m args below meth c 3 0 0 G (vr_Z (vr_QI G) G args s below) 0 [(0, .ref (vr_ad G 68)), (1, .int (vr_I a0)), (2, .int (vr_I a1))] [] μ _
  unfold fX10_rule
  refine jr_iload_n C0 1 dX10_rule_0 rfl rfl ?_
  refine jr_iconst C0 dX10_rule_1 ?_
  refine jr_bipush C0 dX10_rule_2 rfl ?_
  refine jr_sI C0 (ct_X10_in l G a0 h_a0 0 (⟨by decide, by decide⟩) 6 (⟨by decide, by decide⟩) _) mi_X10_in wm_X10_44 ⟨Nat.le_of_ble_eq_true rfl, Nat.le_of_ble_eq_true rfl⟩ ⟨rfl, rfl⟩ (As := [.int (vr_I a0), .int (vr_I 0), .int (vr_I 6)]) rfl (st := []) rfl (Nat.le_of_ble_eq_true rfl) dX10_rule_4 (fun r1 hr1 => ?_)
  refine jr_if_ne C0 hr1 dX10_rule_7 (tgt := 12) (by decide) ?_ ?_
  · refine jr_iload_n C0 2 dX10_rule_12 rfl rfl ?_
    refine jr_iconst C0 dX10_rule_13 ?_
    refine jr_bipush C0 dX10_rule_14 rfl ?_
    refine jr_sI C0 (ct_X10_in l G a1 h_a1 1 (⟨by decide, by decide⟩) 30 (⟨by decide, by decide⟩) _) mi_X10_in wm_X10_44 ⟨Nat.le_of_ble_eq_true rfl, Nat.le_of_ble_eq_true rfl⟩ ⟨rfl, rfl⟩ (As := [.int (vr_I a1), .int (vr_I 1), .int (vr_I 30)]) rfl (st := []) rfl (Nat.le_of_ble_eq_true rfl) dX10_rule_16 (fun r2 hr2 => ?_)
    refine jr_if_ne C0 hr2 dX10_rule_19 (tgt := 25) (by decide) ?_ ?_
    · refine jr_aload_n C0 0 dX10_rule_25 rfl rfl ?_
      refine jr_getr C0 (by decide) kd_68 (by decide) rfl wx_X10 (i := 1) (by decide) wf_X10_9 (j := 69) rfl dX10_rule_26 ?_
      refine jr_iconst C0 dX10_rule_29 ?_
      refine jr_iald C0 (by decide) kd_69 kl_69 (by decide) (j := 1) rfl dX10_rule_30 ?_
      refine jr_bipush C0 dX10_rule_31 rfl ?_
      refine jr_gd (fun g3 => ?_)
      refine jr_icmp_ne C0 g3 (⟨by decide, by decide⟩) dX10_rule_33 (tgt := 39) (by decide) ?_ ?_
      · refine jr_aload_n C0 0 dX10_rule_39 rfl rfl ?_
        refine jr_getr C0 (by decide) kd_68 (by decide) rfl wx_X10 (i := 1) (by decide) wf_X10_9 (j := 69) rfl dX10_rule_40 ?_
        refine jr_sipush C0 dX10_rule_43 rfl ?_
        refine jr_aload_n C0 0 dX10_rule_46 rfl rfl ?_
        refine jr_getr C0 (by decide) kd_68 (by decide) rfl wx_X10 (i := 1) (by decide) wf_X10_9 (j := 69) rfl dX10_rule_47 ?_
        refine jr_iconst C0 dX10_rule_50 ?_
        refine jr_iald C0 (by decide) kd_69 kl_69 (by decide) (j := 1) rfl dX10_rule_51 ?_
        refine jr_iadd C0 dX10_rule_52 ?_
        refine jr_iload_n C0 1 dX10_rule_53 rfl rfl ?_
        refine jr_gd (fun g4 => ?_)
        refine jr_iast C0 (by decide) kd_69 kl_69 g4 (j := (170 + (r2.2 69 1)).toNat) rfl dX10_rule_54 ?_
        refine jr_aload_n C0 0 dX10_rule_55 rfl rfl ?_
        refine jr_getr C0 (by decide) kd_68 (by decide) rfl wx_X10 (i := 1) (by decide) wf_X10_9 (j := 69) rfl dX10_rule_56 ?_
        refine jr_sipush C0 dX10_rule_59 rfl ?_
        refine jr_aload_n C0 0 dX10_rule_62 rfl rfl ?_
        refine jr_getr C0 (by decide) kd_68 (by decide) rfl wx_X10 (i := 1) (by decide) wf_X10_9 (j := 69) rfl dX10_rule_63 ?_
        refine jr_iconst C0 dX10_rule_66 ?_
        refine jr_let (fun μ5 => ?_)
        refine jr_iald C0 (by decide) kd_69 kl_69 (by decide) (j := 1) rfl dX10_rule_67 ?_
        refine jr_iadd C0 dX10_rule_68 ?_
        refine jr_iload_n C0 2 dX10_rule_69 rfl rfl ?_
        refine jr_gd (fun g6 => ?_)
        refine jr_iast C0 (by decide) kd_69 kl_69 g6 (j := (178 + (μ5 69 1)).toNat) rfl dX10_rule_70 ?_
        refine jr_aload_n C0 0 dX10_rule_71 rfl rfl ?_
        refine jr_getr C0 (by decide) kd_68 (by decide) rfl wx_X10 (i := 1) (by decide) wf_X10_9 (j := 69) rfl dX10_rule_72 ?_
        refine jr_iconst C0 dX10_rule_75 ?_
        refine jr_dup2 C0 rfl rfl dX10_rule_76 ?_
        refine jr_let (fun μ7 => ?_)
        refine jr_iald C0 (by decide) kd_69 kl_69 (by decide) (j := 1) rfl dX10_rule_77 ?_
        refine jr_iconst C0 dX10_rule_78 ?_
        refine jr_iadd C0 dX10_rule_79 ?_
        refine jr_iast C0 (by decide) kd_69 kl_69 (by decide) (j := 1) rfl dX10_rule_80 ?_
        refine jr_aload_n C0 0 dX10_rule_81 rfl rfl ?_
        refine jr_getr C0 (by decide) kd_68 (by decide) rfl wx_X10 (i := 1) (by decide) wf_X10_9 (j := 69) rfl dX10_rule_82 ?_
        refine jr_iconst C0 dX10_rule_85 ?_
        refine jr_let (fun μ8 => ?_)
        refine jr_iald C0 (by decide) kd_69 kl_69 (by decide) (j := 1) rfl dX10_rule_86 ?_
        refine jr_iconst C0 dX10_rule_87 ?_
        refine jr_isub C0 dX10_rule_88 ?_
        refine jr_gd (fun g9 => ?_)
        exact jr_iret C0 g9 dX10_rule_89
      refine jr_bipush C0 dX10_rule_36 rfl ?_
      exact jr_iret C0 (⟨by decide, by decide⟩) dX10_rule_38
    refine jr_bipush C0 dX10_rule_22 rfl ?_
    exact jr_iret C0 (⟨by decide, by decide⟩) dX10_rule_24
  refine jr_iconst C0 dX10_rule_10 ?_
  exact jr_iret C0 (⟨by decide, by decide⟩) dX10_rule_11
theorem dX10_looksAt_0 : decode cX10_looksAt 0 = .ok (.iconst 0, 1) := by decide +kernel
theorem dX10_looksAt_1 : decode cX10_looksAt 1 = .ok (.istore_n 2, 1) := by decide +kernel
theorem dX10_looksAt_2 : decode cX10_looksAt 2 = .ok (.iload_n 2, 1) := by decide +kernel
theorem dX10_looksAt_3 : decode cX10_looksAt 3 = .ok (.aload_n 0, 1) := by decide +kernel
theorem dX10_looksAt_4 : decode cX10_looksAt 4 = .ok (.getfield 9, 3) := by decide +kernel
theorem dX10_looksAt_7 : decode cX10_looksAt 7 = .ok (.iconst 0, 1) := by decide +kernel
theorem dX10_looksAt_8 : decode cX10_looksAt 8 = .ok (.iaload, 1) := by decide +kernel
theorem dX10_looksAt_9 : decode cX10_looksAt 9 = .ok (.if_icmp .ge 25, 3) := by decide +kernel
theorem dX10_looksAt_12 : decode cX10_looksAt 12 = .ok (.aload_n 0, 1) := by decide +kernel
theorem dX10_looksAt_13 : decode cX10_looksAt 13 = .ok (.getfield 28, 3) := by decide +kernel
theorem dX10_looksAt_16 : decode cX10_looksAt 16 = .ok (.iload_n 2, 1) := by decide +kernel
theorem dX10_looksAt_17 : decode cX10_looksAt 17 = .ok (.aload_n 0, 1) := by decide +kernel
theorem dX10_looksAt_18 : decode cX10_looksAt 18 = .ok (.iload_n 2, 1) := by decide +kernel
theorem dX10_looksAt_19 : decode cX10_looksAt 19 = .ok (.iload_n 1, 1) := by decide +kernel
theorem dX10_looksAt_20 : decode cX10_looksAt 20 = .ok (.aload_n 0, 1) := by decide +kernel
theorem dX10_looksAt_21 : decode cX10_looksAt 21 = .ok (.invokevirtual 154, 3) := by decide +kernel
theorem dX10_looksAt_24 : decode cX10_looksAt 24 = .ok (.invokevirtual 157, 3) := by decide +kernel
theorem dX10_looksAt_27 : decode cX10_looksAt 27 = .ok (.iastore, 1) := by decide +kernel
theorem dX10_looksAt_28 : decode cX10_looksAt 28 = .ok (.iinc 2 1, 3) := by decide +kernel
theorem dX10_looksAt_31 : decode cX10_looksAt 31 = .ok (.goto (-29), 3) := by decide +kernel
theorem dX10_looksAt_34 : decode cX10_looksAt 34 = .ok (.return_, 1) := by decide +kernel
def fX10_looksAt_L2 : Nat → Int → Int → vr_M → Option (Int × vr_M)
  | 0, _, _, _ => none
  | n + 1, x1, x2, μ => vr_gd (vr_R (μ 69 0)) (if (μ 69 0) ≤ x2 then some (0, μ) else (fX10_walk  μ).bind (fun r2 => (fX10_givesOf x2 x1 r2.1 r2.2).bind (fun r3 => vr_gd (0 ≤ x2 ∧ x2 < 8) (vr_gd (vr_R (x2 + 1)) ((fX10_looksAt_L2 n) x1 (x2 + 1) (vr_u r3.2 74 x2.toNat r3.1))))))
def fX10_looksAt (a0 : Int) (μ : vr_M) : Option (Int × vr_M) :=
  fX10_looksAt_L2 9000 a0 0 μ
set_option maxRecDepth 100000 in
set_option maxHeartbeats 4000000 in
theorem ct_X10_looksAt (l : Launch) (G : vr_G) (a0 : Int) (h_a0 : vr_R a0) (μ : vr_M) : vr_CV l yX10_looksAt cX10_looksAt 3 none ({ frames := 4, cells := 0, slots := 0, locals := 98 } : Room) G [.ref (vr_ad G 68), .int (vr_I a0)] μ (fX10_looksAt a0 μ) := by
  refine vr_start (own := RX10) (by decide) rfl (Nat.le_of_ble_eq_true rfl) (fun p e s m args below meth c C0 => ?_)
  show vr_J p l e _ s m args below meth c 3 0 0 G (vr_Z (vr_QV G) G args s below) 0 [(0, .ref (vr_ad G 68)), (1, .int (vr_I a0))] [] μ _
  have L2 : ∀ (n : Nat) (x1 : Int) (h_x1 : vr_R x1) (x2 : Int) (h_x2 : vr_R x2) (μ : vr_M), vr_J p l e ({ frames := 4, cells := 0, slots := 0, locals := 98 } : Room) s m args below meth c 3 0 0 G (vr_Z (vr_QV G) G args s below) 2 [(0, .ref (vr_ad G 68)), (1, .int (vr_I x1)), (2, .int (vr_I x2))] [] μ (fX10_looksAt_L2 n x1 x2 μ) := by
    intro n2
    induction n2 with
    | zero => intros; exact jr_none
    | succ n2 ih2 =>
      intro x1 h_x1 x2 h_x2 μ
      rw [fX10_looksAt_L2.eq_2]
      refine jr_iload_n C0 2 dX10_looksAt_2 rfl rfl ?_
      refine jr_aload_n C0 0 dX10_looksAt_3 rfl rfl ?_
      refine jr_getr C0 (by decide) kd_68 (by decide) rfl wx_X10 (i := 1) (by decide) wf_X10_9 (j := 69) rfl dX10_looksAt_4 ?_
      refine jr_iconst C0 dX10_looksAt_7 ?_
      refine jr_iald C0 (by decide) kd_69 kl_69 (by decide) (j := 0) rfl dX10_looksAt_8 ?_
      refine jr_gd (fun g1 => ?_)
      refine jr_icmp_ge C0 h_x2 g1 dX10_looksAt_9 (tgt := 34) (by decide) ?_ ?_
      · exact jr_vret C0 dX10_looksAt_34
      refine jr_aload_n C0 0 dX10_looksAt_12 rfl rfl ?_
      refine jr_getr C0 (by decide) kd_68 (by decide) rfl wx_X10 (i := 14) (by decide) wf_X10_28 (j := 74) rfl dX10_looksAt_13 ?_
      refine jr_iload_n C0 2 dX10_looksAt_16 rfl rfl ?_
      refine jr_aload_n C0 0 dX10_looksAt_17 rfl rfl ?_
      refine jr_iload_n C0 2 dX10_looksAt_18 rfl rfl ?_
      refine jr_iload_n C0 1 dX10_looksAt_19 rfl rfl ?_
      refine jr_aload_n C0 0 dX10_looksAt_20 rfl rfl ?_
      refine jr_vI C0 (by decide) kd_68 (by decide) rfl (ct_X10_walk l G  _) mi_X10_walk wm_X10_154 ⟨Nat.le_of_ble_eq_true rfl, Nat.le_of_ble_eq_true rfl⟩ ⟨rfl, rfl⟩ (As := []) rfl (st := [.int (vr_I x1), .int (vr_I x2), .ref (vr_ad G 68), .int (vr_I x2), .ref (vr_ad G 74)]) rfl (Nat.le_of_ble_eq_true rfl) dX10_looksAt_21 (fun r2 hr2 => ?_)
      refine jr_vI C0 (by decide) kd_68 (by decide) rfl (ct_X10_givesOf l G x2 h_x2 x1 h_x1 r2.1 hr2 _) mi_X10_givesOf wm_X10_157 ⟨Nat.le_of_ble_eq_true rfl, Nat.le_of_ble_eq_true rfl⟩ ⟨rfl, rfl⟩ (As := [.int (vr_I x2), .int (vr_I x1), .int (vr_I r2.1)]) rfl (st := [.int (vr_I x2), .ref (vr_ad G 74)]) rfl (Nat.le_of_ble_eq_true rfl) dX10_looksAt_24 (fun r3 hr3 => ?_)
      refine jr_gd (fun g4 => ?_)
      refine jr_iast C0 (by decide) kd_74 kl_74 g4 (j := x2.toNat) rfl dX10_looksAt_27 ?_
      refine jr_iinc C0 (q := 2) dX10_looksAt_28 rfl (by decide) (lv' := [(2, .int (vr_I (x2 + 1))), (0, .ref (vr_ad G 68)), (1, .int (vr_I x1))]) rfl ?_
      refine jr_goto C0 dX10_looksAt_31 (tgt := 2) (by decide) ?_
      refine jr_gd (fun g5 => ?_)
      refine jr_sub [1, 2, 0] rfl ?_
      exact ih2 x1 h_x1 (x2 + 1) g5 _
  unfold fX10_looksAt
  refine jr_iconst C0 dX10_looksAt_0 ?_
  refine jr_istore_n C0 dX10_looksAt_1 rfl (by decide) (lv' := [(2, .int (vr_I 0)), (0, .ref (vr_ad G 68)), (1, .int (vr_I a0))]) rfl ?_
  refine jr_sub [1, 2, 0] rfl ?_
  exact L2 9000 a0 h_a0 0 (⟨by decide, by decide⟩) _
theorem dX10_isResting_0 : decode cX10_isResting 0 = .ok (.iload_n 0, 1) := by decide +kernel
theorem dX10_isResting_1 : decode cX10_isResting 1 = .ok (.iconst 2, 1) := by decide +kernel
theorem dX10_isResting_2 : decode cX10_isResting 2 = .ok (.if_icmp .eq 14, 3) := by decide +kernel
theorem dX10_isResting_5 : decode cX10_isResting 5 = .ok (.iload_n 0, 1) := by decide +kernel
theorem dX10_isResting_6 : decode cX10_isResting 6 = .ok (.iconst 5, 1) := by decide +kernel
theorem dX10_isResting_7 : decode cX10_isResting 7 = .ok (.if_icmp .eq 9, 3) := by decide +kernel
theorem dX10_isResting_10 : decode cX10_isResting 10 = .ok (.iload_n 0, 1) := by decide +kernel
theorem dX10_isResting_11 : decode cX10_isResting 11 = .ok (.bipush 6, 2) := by decide +kernel
theorem dX10_isResting_13 : decode cX10_isResting 13 = .ok (.if_icmp .ne 7, 3) := by decide +kernel
theorem dX10_isResting_16 : decode cX10_isResting 16 = .ok (.iconst 1, 1) := by decide +kernel
theorem dX10_isResting_17 : decode cX10_isResting 17 = .ok (.goto 4, 3) := by decide +kernel
theorem dX10_isResting_20 : decode cX10_isResting 20 = .ok (.iconst 0, 1) := by decide +kernel
theorem dX10_isResting_21 : decode cX10_isResting 21 = .ok (.ireturn, 1) := by decide +kernel
def fX10_isResting_B21 (y0 : Int) (μ : vr_M) : Option (Int × vr_M) :=
  vr_gd (y0 = 0 ∨ y0 = 1) (some (y0, μ))
def fX10_isResting_B16 (μ : vr_M) : Option (Int × vr_M) :=
  fX10_isResting_B21 1 μ
def fX10_isResting (a0 : Int) (μ : vr_M) : Option (Int × vr_M) :=
  if a0 = 2 then fX10_isResting_B16 μ else if a0 = 5 then fX10_isResting_B16 μ else if ¬ a0 = 6 then fX10_isResting_B21 0 μ else fX10_isResting_B16 μ
set_option maxRecDepth 100000 in
set_option maxHeartbeats 4000000 in
theorem ct_X10_isResting (l : Launch) (G : vr_G) (a0 : Int) (h_a0 : vr_R a0) (μ : vr_M) : vr_CI l yX10_isResting cX10_isResting 1 (some .boolean) ({ frames := 0, cells := 0, slots := 0, locals := 0 } : Room) G [.int (vr_I a0)] μ (fX10_isResting a0 μ) := by
  refine vr_start (own := RX10) (by decide) rfl (Nat.le_of_ble_eq_true rfl) (fun p e s m args below meth c C0 => ?_)
  show vr_J p l e _ s m args below meth c 1 0 0 G (vr_Z (vr_QI G) G args s below) 0 [(0, .int (vr_I a0))] [] μ _
  have B21 : ∀ (y0 : Int) (h_y0 : vr_R y0) (μ : vr_M), vr_J p l e ({ frames := 0, cells := 0, slots := 0, locals := 0 } : Room) s m args below meth c 1 0 0 G (vr_Z (vr_QI G) G args s below) 21 [] [.int (vr_I y0)] μ (fX10_isResting_B21 y0 μ) := by
    intro y0 h_y0 μ
    unfold fX10_isResting_B21
    refine jr_gd (fun g1 => ?_)
    exact jr_zret C0 h_y0 (vr_nz g1) dX10_isResting_21
  have B16 : ∀ (μ : vr_M), vr_J p l e ({ frames := 0, cells := 0, slots := 0, locals := 0 } : Room) s m args below meth c 1 0 0 G (vr_Z (vr_QI G) G args s below) 16 [] [] μ (fX10_isResting_B16 μ) := by
    intro μ
    unfold fX10_isResting_B16
    refine jr_iconst C0 dX10_isResting_16 ?_
    refine jr_goto C0 dX10_isResting_17 (tgt := 21) (by decide) ?_
    exact B21 1 (⟨by decide, by decide⟩) _
  unfold fX10_isResting
  refine jr_iload_n C0 0 dX10_isResting_0 rfl rfl ?_
  refine jr_iconst C0 dX10_isResting_1 ?_
  refine jr_icmp_eq C0 h_a0 (⟨by decide, by decide⟩) dX10_isResting_2 (tgt := 16) (by decide) ?_ ?_
  · refine jr_sub [] rfl ?_
    exact B16 _
  refine jr_iload_n C0 0 dX10_isResting_5 rfl rfl ?_
  refine jr_iconst C0 dX10_isResting_6 ?_
  refine jr_icmp_eq C0 h_a0 (⟨by decide, by decide⟩) dX10_isResting_7 (tgt := 16) (by decide) ?_ ?_
  · refine jr_sub [] rfl ?_
    exact B16 _
  refine jr_iload_n C0 0 dX10_isResting_10 rfl rfl ?_
  refine jr_bipush C0 dX10_isResting_11 rfl ?_
  refine jr_icmp_ne C0 h_a0 (⟨by decide, by decide⟩) dX10_isResting_13 (tgt := 20) (by decide) ?_ ?_
  · refine jr_iconst C0 dX10_isResting_20 ?_
    refine jr_sub [] rfl ?_
    exact B21 0 (⟨by decide, by decide⟩) _
  refine jr_sub [] rfl ?_
  exact B16 _
theorem dX10_isLeftOut_0 : decode cX10_isLeftOut 0 = .ok (.iload_n 1, 1) := by decide +kernel
theorem dX10_isLeftOut_1 : decode cX10_isLeftOut 1 = .ok (.invokestatic 168, 3) := by decide +kernel
theorem dX10_isLeftOut_4 : decode cX10_isLeftOut 4 = .ok (.ifCond .eq 34, 3) := by decide +kernel
theorem dX10_isLeftOut_7 : decode cX10_isLeftOut 7 = .ok (.aload_n 0, 1) := by decide +kernel
theorem dX10_isLeftOut_8 : decode cX10_isLeftOut 8 = .ok (.getfield 9, 3) := by decide +kernel
theorem dX10_isLeftOut_11 : decode cX10_isLeftOut 11 = .ok (.sipush 146, 3) := by decide +kernel
theorem dX10_isLeftOut_14 : decode cX10_isLeftOut 14 = .ok (.iload_n 3, 1) := by decide +kernel
theorem dX10_isLeftOut_15 : decode cX10_isLeftOut 15 = .ok (.iadd, 1) := by decide +kernel
theorem dX10_isLeftOut_16 : decode cX10_isLeftOut 16 = .ok (.iaload, 1) := by decide +kernel
theorem dX10_isLeftOut_17 : decode cX10_isLeftOut 17 = .ok (.ifCond .ne 21, 3) := by decide +kernel
theorem dX10_isLeftOut_20 : decode cX10_isLeftOut 20 = .ok (.aload_n 0, 1) := by decide +kernel
theorem dX10_isLeftOut_21 : decode cX10_isLeftOut 21 = .ok (.getfield 9, 3) := by decide +kernel
theorem dX10_isLeftOut_24 : decode cX10_isLeftOut 24 = .ok (.sipush 154, 3) := by decide +kernel
theorem dX10_isLeftOut_27 : decode cX10_isLeftOut 27 = .ok (.iload_n 3, 1) := by decide +kernel
theorem dX10_isLeftOut_28 : decode cX10_isLeftOut 28 = .ok (.iadd, 1) := by decide +kernel
theorem dX10_isLeftOut_29 : decode cX10_isLeftOut 29 = .ok (.iaload, 1) := by decide +kernel
theorem dX10_isLeftOut_30 : decode cX10_isLeftOut 30 = .ok (.iload_n 2, 1) := by decide +kernel
theorem dX10_isLeftOut_31 : decode cX10_isLeftOut 31 = .ok (.if_icmp .ge 7, 3) := by decide +kernel
theorem dX10_isLeftOut_34 : decode cX10_isLeftOut 34 = .ok (.iconst 1, 1) := by decide +kernel
theorem dX10_isLeftOut_35 : decode cX10_isLeftOut 35 = .ok (.goto 4, 3) := by decide +kernel
theorem dX10_isLeftOut_38 : decode cX10_isLeftOut 38 = .ok (.iconst 0, 1) := by decide +kernel
theorem dX10_isLeftOut_39 : decode cX10_isLeftOut 39 = .ok (.istore 5, 2) := by decide +kernel
theorem dX10_isLeftOut_41 : decode cX10_isLeftOut 41 = .ok (.aload_n 0, 1) := by decide +kernel
theorem dX10_isLeftOut_42 : decode cX10_isLeftOut 42 = .ok (.getfield 28, 3) := by decide +kernel
theorem dX10_isLeftOut_45 : decode cX10_isLeftOut 45 = .ok (.iload_n 3, 1) := by decide +kernel
theorem dX10_isLeftOut_46 : decode cX10_isLeftOut 46 = .ok (.iaload, 1) := by decide +kernel
theorem dX10_isLeftOut_47 : decode cX10_isLeftOut 47 = .ok (.ifCond .eq 53, 3) := by decide +kernel
theorem dX10_isLeftOut_50 : decode cX10_isLeftOut 50 = .ok (.iload 5, 2) := by decide +kernel
theorem dX10_isLeftOut_52 : decode cX10_isLeftOut 52 = .ok (.ifCond .ne 48, 3) := by decide +kernel
theorem dX10_isLeftOut_55 : decode cX10_isLeftOut 55 = .ok (.iload_n 1, 1) := by decide +kernel
theorem dX10_isLeftOut_56 : decode cX10_isLeftOut 56 = .ok (.iconst 3, 1) := by decide +kernel
theorem dX10_isLeftOut_57 : decode cX10_isLeftOut 57 = .ok (.if_icmp .ne 23, 3) := by decide +kernel
theorem dX10_isLeftOut_60 : decode cX10_isLeftOut 60 = .ok (.aload_n 0, 1) := by decide +kernel
theorem dX10_isLeftOut_61 : decode cX10_isLeftOut 61 = .ok (.getfield 9, 3) := by decide +kernel
theorem dX10_isLeftOut_64 : decode cX10_isLeftOut 64 = .ok (.sipush 138, 3) := by decide +kernel
theorem dX10_isLeftOut_67 : decode cX10_isLeftOut 67 = .ok (.iload_n 3, 1) := by decide +kernel
theorem dX10_isLeftOut_68 : decode cX10_isLeftOut 68 = .ok (.iadd, 1) := by decide +kernel
theorem dX10_isLeftOut_69 : decode cX10_isLeftOut 69 = .ok (.iaload, 1) := by decide +kernel
theorem dX10_isLeftOut_70 : decode cX10_isLeftOut 70 = .ok (.iload 4, 2) := by decide +kernel
theorem dX10_isLeftOut_72 : decode cX10_isLeftOut 72 = .ok (.isub, 1) := by decide +kernel
theorem dX10_isLeftOut_73 : decode cX10_isLeftOut 73 = .ok (.invokestatic 147, 3) := by decide +kernel
theorem dX10_isLeftOut_76 : decode cX10_isLeftOut 76 = .ok (.iload_n 2, 1) := by decide +kernel
theorem dX10_isLeftOut_77 : decode cX10_isLeftOut 77 = .ok (.if_icmp .gt 23, 3) := by decide +kernel
theorem dX10_isLeftOut_80 : decode cX10_isLeftOut 80 = .ok (.iload_n 1, 1) := by decide +kernel
theorem dX10_isLeftOut_81 : decode cX10_isLeftOut 81 = .ok (.bipush 6, 2) := by decide +kernel
theorem dX10_isLeftOut_83 : decode cX10_isLeftOut 83 = .ok (.if_icmp .ne 21, 3) := by decide +kernel
theorem dX10_isLeftOut_86 : decode cX10_isLeftOut 86 = .ok (.aload_n 0, 1) := by decide +kernel
theorem dX10_isLeftOut_87 : decode cX10_isLeftOut 87 = .ok (.getfield 9, 3) := by decide +kernel
theorem dX10_isLeftOut_90 : decode cX10_isLeftOut 90 = .ok (.sipush 146, 3) := by decide +kernel
theorem dX10_isLeftOut_93 : decode cX10_isLeftOut 93 = .ok (.iload_n 3, 1) := by decide +kernel
theorem dX10_isLeftOut_94 : decode cX10_isLeftOut 94 = .ok (.iadd, 1) := by decide +kernel
theorem dX10_isLeftOut_95 : decode cX10_isLeftOut 95 = .ok (.iaload, 1) := by decide +kernel
theorem dX10_isLeftOut_96 : decode cX10_isLeftOut 96 = .ok (.iload_n 2, 1) := by decide +kernel
theorem dX10_isLeftOut_97 : decode cX10_isLeftOut 97 = .ok (.if_icmp .lt 7, 3) := by decide +kernel
theorem dX10_isLeftOut_100 : decode cX10_isLeftOut 100 = .ok (.iconst 1, 1) := by decide +kernel
theorem dX10_isLeftOut_101 : decode cX10_isLeftOut 101 = .ok (.goto 4, 3) := by decide +kernel
theorem dX10_isLeftOut_104 : decode cX10_isLeftOut 104 = .ok (.iconst 0, 1) := by decide +kernel
theorem dX10_isLeftOut_105 : decode cX10_isLeftOut 105 = .ok (.ireturn, 1) := by decide +kernel
def fX10_isLeftOut_B105 (y0 : Int) (μ : vr_M) : Option (Int × vr_M) :=
  vr_gd (y0 = 0 ∨ y0 = 1) (some (y0, μ))
def fX10_isLeftOut_B100 (μ : vr_M) : Option (Int × vr_M) :=
  fX10_isLeftOut_B105 1 μ
def fX10_isLeftOut_B104 (μ : vr_M) : Option (Int × vr_M) :=
  fX10_isLeftOut_B105 0 μ
def fX10_isLeftOut_B80 (x1 : Int) (x2 : Int) (x3 : Int) (μ : vr_M) : Option (Int × vr_M) :=
  if ¬ x1 = 6 then fX10_isLeftOut_B104 μ else vr_gd (0 ≤ (146 + x3) ∧ (146 + x3) < 933) (vr_gd (vr_R (μ 69 (146 + x3).toNat)) (if (μ 69 (146 + x3).toNat) < x2 then fX10_isLeftOut_B104 μ else fX10_isLeftOut_B100 μ))
def fX10_isLeftOut_B39 (x1 : Int) (x2 : Int) (x3 : Int) (x4 : Int) (y0 : Int) (μ : vr_M) : Option (Int × vr_M) :=
  vr_gd (0 ≤ x3 ∧ x3 < 8) (vr_gd (vr_R (μ 74 x3.toNat)) (if (μ 74 x3.toNat) = 0 then fX10_isLeftOut_B100 μ else if ¬ y0 = 0 then fX10_isLeftOut_B100 μ else if ¬ x1 = 3 then fX10_isLeftOut_B80 x1 x2 x3 μ else vr_gd (0 ≤ (138 + x3) ∧ (138 + x3) < 933) (vr_gd (vr_R ((μ 69 (138 + x3).toNat) - x4)) ((fX10_size ((μ 69 (138 + x3).toNat) - x4) μ).bind (fun r8 => if x2 < r8.1 then fX10_isLeftOut_B100 r8.2 else fX10_isLeftOut_B80 x1 x2 x3 r8.2)))))
def fX10_isLeftOut_B38 (x1 : Int) (x2 : Int) (x3 : Int) (x4 : Int) (μ : vr_M) : Option (Int × vr_M) :=
  fX10_isLeftOut_B39 x1 x2 x3 x4 0 μ
def fX10_isLeftOut (a0 : Int) (a1 : Int) (a2 : Int) (a3 : Int) (μ : vr_M) : Option (Int × vr_M) :=
  (fX10_isResting a0 μ).bind (fun r9 => if r9.1 = 0 then fX10_isLeftOut_B38 a0 a1 a2 a3 r9.2 else vr_gd (0 ≤ (146 + a2) ∧ (146 + a2) < 933) (vr_gd (vr_R (r9.2 69 (146 + a2).toNat)) (if ¬ (r9.2 69 (146 + a2).toNat) = 0 then fX10_isLeftOut_B38 a0 a1 a2 a3 r9.2 else vr_gd (0 ≤ (154 + a2) ∧ (154 + a2) < 933) (vr_gd (vr_R (r9.2 69 (154 + a2).toNat)) (if a1 ≤ (r9.2 69 (154 + a2).toNat) then fX10_isLeftOut_B38 a0 a1 a2 a3 r9.2 else fX10_isLeftOut_B39 a0 a1 a2 a3 1 r9.2)))))
set_option maxRecDepth 100000 in
set_option maxHeartbeats 4000000 in
theorem ct_X10_isLeftOut (l : Launch) (G : vr_G) (a0 : Int) (h_a0 : vr_R a0) (a1 : Int) (h_a1 : vr_R a1) (a2 : Int) (h_a2 : vr_R a2) (a3 : Int) (h_a3 : vr_R a3) (μ : vr_M) : vr_CI l yX10_isLeftOut cX10_isLeftOut 6 (some .boolean) ({ frames := 1, cells := 0, slots := 0, locals := 20 } : Room) G [.ref (vr_ad G 68), .int (vr_I a0), .int (vr_I a1), .int (vr_I a2), .int (vr_I a3)] μ (fX10_isLeftOut a0 a1 a2 a3 μ) := by
  refine vr_start (own := RX10) (by decide) rfl (Nat.le_of_ble_eq_true rfl) (fun p e s m args below meth c C0 => ?_)
  show vr_J p l e _ s m args below meth c 6 0 0 G (vr_Z (vr_QI G) G args s below) 0 [(0, .ref (vr_ad G 68)), (1, .int (vr_I a0)), (2, .int (vr_I a1)), (3, .int (vr_I a2)), (4, .int (vr_I a3))] [] μ _
  have B105 : ∀ (y0 : Int) (h_y0 : vr_R y0) (μ : vr_M), vr_J p l e ({ frames := 1, cells := 0, slots := 0, locals := 20 } : Room) s m args below meth c 6 0 0 G (vr_Z (vr_QI G) G args s below) 105 [] [.int (vr_I y0)] μ (fX10_isLeftOut_B105 y0 μ) := by
    intro y0 h_y0 μ
    unfold fX10_isLeftOut_B105
    refine jr_gd (fun g1 => ?_)
    exact jr_zret C0 h_y0 (vr_nz g1) dX10_isLeftOut_105
  have B100 : ∀ (μ : vr_M), vr_J p l e ({ frames := 1, cells := 0, slots := 0, locals := 20 } : Room) s m args below meth c 6 0 0 G (vr_Z (vr_QI G) G args s below) 100 [] [] μ (fX10_isLeftOut_B100 μ) := by
    intro μ
    unfold fX10_isLeftOut_B100
    refine jr_iconst C0 dX10_isLeftOut_100 ?_
    refine jr_goto C0 dX10_isLeftOut_101 (tgt := 105) (by decide) ?_
    exact B105 1 (⟨by decide, by decide⟩) _
  have B104 : ∀ (μ : vr_M), vr_J p l e ({ frames := 1, cells := 0, slots := 0, locals := 20 } : Room) s m args below meth c 6 0 0 G (vr_Z (vr_QI G) G args s below) 104 [] [] μ (fX10_isLeftOut_B104 μ) := by
    intro μ
    unfold fX10_isLeftOut_B104
    refine jr_iconst C0 dX10_isLeftOut_104 ?_
    exact B105 0 (⟨by decide, by decide⟩) _
  have B80 : ∀ (x1 : Int) (h_x1 : vr_R x1) (x2 : Int) (h_x2 : vr_R x2) (x3 : Int) (h_x3 : vr_R x3) (μ : vr_M), vr_J p l e ({ frames := 1, cells := 0, slots := 0, locals := 20 } : Room) s m args below meth c 6 0 0 G (vr_Z (vr_QI G) G args s below) 80 [(0, .ref (vr_ad G 68)), (1, .int (vr_I x1)), (2, .int (vr_I x2)), (3, .int (vr_I x3))] [] μ (fX10_isLeftOut_B80 x1 x2 x3 μ) := by
    intro x1 h_x1 x2 h_x2 x3 h_x3 μ
    unfold fX10_isLeftOut_B80
    refine jr_iload_n C0 1 dX10_isLeftOut_80 rfl rfl ?_
    refine jr_bipush C0 dX10_isLeftOut_81 rfl ?_
    refine jr_icmp_ne C0 h_x1 (⟨by decide, by decide⟩) dX10_isLeftOut_83 (tgt := 104) (by decide) ?_ ?_
    · refine jr_sub [] rfl ?_
      exact B104 _
    refine jr_aload_n C0 0 dX10_isLeftOut_86 rfl rfl ?_
    refine jr_getr C0 (by decide) kd_68 (by decide) rfl wx_X10 (i := 1) (by decide) wf_X10_9 (j := 69) rfl dX10_isLeftOut_87 ?_
    refine jr_sipush C0 dX10_isLeftOut_90 rfl ?_
    refine jr_iload_n C0 3 dX10_isLeftOut_93 rfl rfl ?_
    refine jr_iadd C0 dX10_isLeftOut_94 ?_
    refine jr_gd (fun g2 => ?_)
    refine jr_iald C0 (by decide) kd_69 kl_69 g2 (j := (146 + x3).toNat) rfl dX10_isLeftOut_95 ?_
    refine jr_iload_n C0 2 dX10_isLeftOut_96 rfl rfl ?_
    refine jr_gd (fun g3 => ?_)
    refine jr_icmp_lt C0 g3 h_x2 dX10_isLeftOut_97 (tgt := 104) (by decide) ?_ ?_
    · refine jr_sub [] rfl ?_
      exact B104 _
    refine jr_sub [] rfl ?_
    exact B100 _
  have B39 : ∀ (x1 : Int) (h_x1 : vr_R x1) (x2 : Int) (h_x2 : vr_R x2) (x3 : Int) (h_x3 : vr_R x3) (x4 : Int) (h_x4 : vr_R x4) (y0 : Int) (h_y0 : vr_R y0) (μ : vr_M), vr_J p l e ({ frames := 1, cells := 0, slots := 0, locals := 20 } : Room) s m args below meth c 6 0 0 G (vr_Z (vr_QI G) G args s below) 39 [(0, .ref (vr_ad G 68)), (1, .int (vr_I x1)), (2, .int (vr_I x2)), (3, .int (vr_I x3)), (4, .int (vr_I x4))] [.int (vr_I y0)] μ (fX10_isLeftOut_B39 x1 x2 x3 x4 y0 μ) := by
    intro x1 h_x1 x2 h_x2 x3 h_x3 x4 h_x4 y0 h_y0 μ
    unfold fX10_isLeftOut_B39
    refine jr_istore C0 dX10_isLeftOut_39 (by decide) (lv' := [(5, .int (vr_I y0)), (0, .ref (vr_ad G 68)), (1, .int (vr_I x1)), (2, .int (vr_I x2)), (3, .int (vr_I x3)), (4, .int (vr_I x4))]) rfl ?_
    refine jr_aload_n C0 1 dX10_isLeftOut_41 rfl rfl ?_
    refine jr_getr C0 (by decide) kd_68 (by decide) rfl wx_X10 (i := 14) (by decide) wf_X10_28 (j := 74) rfl dX10_isLeftOut_42 ?_
    refine jr_iload_n C0 4 dX10_isLeftOut_45 rfl rfl ?_
    refine jr_gd (fun g4 => ?_)
    refine jr_iald C0 (by decide) kd_74 kl_74 g4 (j := x3.toNat) rfl dX10_isLeftOut_46 ?_
    refine jr_gd (fun g5 => ?_)
    refine jr_if_eq C0 g5 dX10_isLeftOut_47 (tgt := 100) (by decide) ?_ ?_
    · refine jr_sub [] rfl ?_
      exact B100 _
    refine jr_iload C0 0 dX10_isLeftOut_50 rfl ?_
    refine jr_if_ne C0 h_y0 dX10_isLeftOut_52 (tgt := 100) (by decide) ?_ ?_
    · refine jr_sub [] rfl ?_
      exact B100 _
    refine jr_iload_n C0 2 dX10_isLeftOut_55 rfl rfl ?_
    refine jr_iconst C0 dX10_isLeftOut_56 ?_
    refine jr_icmp_ne C0 h_x1 (⟨by decide, by decide⟩) dX10_isLeftOut_57 (tgt := 80) (by decide) ?_ ?_
    · refine jr_sub [1, 2, 3, 4] rfl ?_
      exact B80 x1 h_x1 x2 h_x2 x3 h_x3 _
    refine jr_aload_n C0 1 dX10_isLeftOut_60 rfl rfl ?_
    refine jr_getr C0 (by decide) kd_68 (by decide) rfl wx_X10 (i := 1) (by decide) wf_X10_9 (j := 69) rfl dX10_isLeftOut_61 ?_
    refine jr_sipush C0 dX10_isLeftOut_64 rfl ?_
    refine jr_iload_n C0 4 dX10_isLeftOut_67 rfl rfl ?_
    refine jr_iadd C0 dX10_isLeftOut_68 ?_
    refine jr_gd (fun g6 => ?_)
    refine jr_iald C0 (by decide) kd_69 kl_69 g6 (j := (138 + x3).toNat) rfl dX10_isLeftOut_69 ?_
    refine jr_iload C0 5 dX10_isLeftOut_70 rfl ?_
    refine jr_isub C0 dX10_isLeftOut_72 ?_
    refine jr_gd (fun g7 => ?_)
    refine jr_sI C0 (ct_X10_size l G ((μ 69 (138 + x3).toNat) - x4) g7 _) mi_X10_size wm_X10_147 ⟨Nat.le_of_ble_eq_true rfl, Nat.le_of_ble_eq_true rfl⟩ ⟨rfl, rfl⟩ (As := [.int (vr_I ((μ 69 (138 + x3).toNat) - x4))]) rfl (st := []) rfl (Nat.le_of_ble_eq_true rfl) dX10_isLeftOut_73 (fun r8 hr8 => ?_)
    refine jr_iload_n C0 3 dX10_isLeftOut_76 rfl rfl ?_
    refine jr_icmp_gt C0 hr8 h_x2 dX10_isLeftOut_77 (tgt := 100) (by decide) ?_ ?_
    · refine jr_sub [] rfl ?_
      exact B100 _
    refine jr_sub [1, 2, 3, 4] rfl ?_
    exact B80 x1 h_x1 x2 h_x2 x3 h_x3 _
  have B38 : ∀ (x1 : Int) (h_x1 : vr_R x1) (x2 : Int) (h_x2 : vr_R x2) (x3 : Int) (h_x3 : vr_R x3) (x4 : Int) (h_x4 : vr_R x4) (μ : vr_M), vr_J p l e ({ frames := 1, cells := 0, slots := 0, locals := 20 } : Room) s m args below meth c 6 0 0 G (vr_Z (vr_QI G) G args s below) 38 [(0, .ref (vr_ad G 68)), (1, .int (vr_I x1)), (2, .int (vr_I x2)), (3, .int (vr_I x3)), (4, .int (vr_I x4))] [] μ (fX10_isLeftOut_B38 x1 x2 x3 x4 μ) := by
    intro x1 h_x1 x2 h_x2 x3 h_x3 x4 h_x4 μ
    unfold fX10_isLeftOut_B38
    refine jr_iconst C0 dX10_isLeftOut_38 ?_
    exact B39 x1 h_x1 x2 h_x2 x3 h_x3 x4 h_x4 0 (⟨by decide, by decide⟩) _
  unfold fX10_isLeftOut
  refine jr_iload_n C0 1 dX10_isLeftOut_0 rfl rfl ?_
  refine jr_sI C0 (ct_X10_isResting l G a0 h_a0 _) mi_X10_isResting wm_X10_168 ⟨Nat.le_of_ble_eq_true rfl, Nat.le_of_ble_eq_true rfl⟩ ⟨rfl, rfl⟩ (As := [.int (vr_I a0)]) rfl (st := []) rfl (Nat.le_of_ble_eq_true rfl) dX10_isLeftOut_1 (fun r9 hr9 => ?_)
  refine jr_if_eq C0 hr9 dX10_isLeftOut_4 (tgt := 38) (by decide) ?_ ?_
  · exact B38 a0 h_a0 a1 h_a1 a2 h_a2 a3 h_a3 _
  refine jr_aload_n C0 0 dX10_isLeftOut_7 rfl rfl ?_
  refine jr_getr C0 (by decide) kd_68 (by decide) rfl wx_X10 (i := 1) (by decide) wf_X10_9 (j := 69) rfl dX10_isLeftOut_8 ?_
  refine jr_sipush C0 dX10_isLeftOut_11 rfl ?_
  refine jr_iload_n C0 3 dX10_isLeftOut_14 rfl rfl ?_
  refine jr_iadd C0 dX10_isLeftOut_15 ?_
  refine jr_gd (fun g10 => ?_)
  refine jr_iald C0 (by decide) kd_69 kl_69 g10 (j := (146 + a2).toNat) rfl dX10_isLeftOut_16 ?_
  refine jr_gd (fun g11 => ?_)
  refine jr_if_ne C0 g11 dX10_isLeftOut_17 (tgt := 38) (by decide) ?_ ?_
  · exact B38 a0 h_a0 a1 h_a1 a2 h_a2 a3 h_a3 _
  refine jr_aload_n C0 0 dX10_isLeftOut_20 rfl rfl ?_
  refine jr_getr C0 (by decide) kd_68 (by decide) rfl wx_X10 (i := 1) (by decide) wf_X10_9 (j := 69) rfl dX10_isLeftOut_21 ?_
  refine jr_sipush C0 dX10_isLeftOut_24 rfl ?_
  refine jr_iload_n C0 3 dX10_isLeftOut_27 rfl rfl ?_
  refine jr_iadd C0 dX10_isLeftOut_28 ?_
  refine jr_gd (fun g12 => ?_)
  refine jr_iald C0 (by decide) kd_69 kl_69 g12 (j := (154 + a2).toNat) rfl dX10_isLeftOut_29 ?_
  refine jr_iload_n C0 2 dX10_isLeftOut_30 rfl rfl ?_
  refine jr_gd (fun g13 => ?_)
  refine jr_icmp_ge C0 g13 h_a1 dX10_isLeftOut_31 (tgt := 38) (by decide) ?_ ?_
  · exact B38 a0 h_a0 a1 h_a1 a2 h_a2 a3 h_a3 _
  refine jr_iconst C0 dX10_isLeftOut_34 ?_
  refine jr_goto C0 dX10_isLeftOut_35 (tgt := 39) (by decide) ?_
  exact B39 a0 h_a0 a1 h_a1 a2 h_a2 a3 h_a3 1 (⟨by decide, by decide⟩) _
