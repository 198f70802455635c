/-! what the code asks, by program: X10_fill X10_refused X10_placeOf X10_sizeOf X10_place X10_size X10_subscript X10_checks X10_refer X10_slack X10_at X10_octet X10_isDigit X10_says X10_saysPacked X10_holds X10_count -/
theorem dX10_fill_0 : decode cX10_fill 0 = .ok (.aload_n 0, 1) := by decide +kernel
theorem dX10_fill_1 : decode cX10_fill 1 = .ok (.getfield 80, 3) := by decide +kernel
theorem dX10_fill_4 : decode cX10_fill 4 = .ok (.iload_n 1, 1) := by decide +kernel
theorem dX10_fill_5 : decode cX10_fill 5 = .ok (.laload, 1) := by decide +kernel
theorem dX10_fill_6 : decode cX10_fill 6 = .ok (.l2i, 1) := by decide +kernel
theorem dX10_fill_7 : decode cX10_fill 7 = .ok (.istore_n 3, 1) := by decide +kernel
theorem dX10_fill_8 : decode cX10_fill 8 = .ok (.aload_n 0, 1) := by decide +kernel
theorem dX10_fill_9 : decode cX10_fill 9 = .ok (.getfield 41, 3) := by decide +kernel
theorem dX10_fill_12 : decode cX10_fill 12 = .ok (.iload_n 1, 1) := by decide +kernel
theorem dX10_fill_13 : decode cX10_fill 13 = .ok (.baload, 1) := by decide +kernel
theorem dX10_fill_14 : decode cX10_fill 14 = .ok (.ifCond .eq 13, 3) := by decide +kernel
theorem dX10_fill_17 : decode cX10_fill 17 = .ok (.aload_n 0, 1) := by decide +kernel
theorem dX10_fill_18 : decode cX10_fill 18 = .ok (.getfield 44, 3) := by decide +kernel
theorem dX10_fill_21 : decode cX10_fill 21 = .ok (.iload_n 1, 1) := by decide +kernel
theorem dX10_fill_22 : decode cX10_fill 22 = .ok (.iaload, 1) := by decide +kernel
theorem dX10_fill_23 : decode cX10_fill 23 = .ok (.i2l, 1) := by decide +kernel
theorem dX10_fill_24 : decode cX10_fill 24 = .ok (.goto 4, 3) := by decide +kernel
theorem dX10_fill_27 : decode cX10_fill 27 = .ok (.lconst 0, 1) := by decide +kernel
theorem dX10_fill_28 : decode cX10_fill 28 = .ok (.lstore 4, 2) := by decide +kernel
theorem dX10_fill_30 : decode cX10_fill 30 = .ok (.lload 4, 2) := by decide +kernel
theorem dX10_fill_32 : decode cX10_fill 32 = .ok (.lconst 0, 1) := by decide +kernel
theorem dX10_fill_33 : decode cX10_fill 33 = .ok (.lcmp, 1) := by decide +kernel
theorem dX10_fill_34 : decode cX10_fill 34 = .ok (.ifCond .ge 7, 3) := by decide +kernel
theorem dX10_fill_37 : decode cX10_fill 37 = .ok (.iconst 1, 1) := by decide +kernel
theorem dX10_fill_38 : decode cX10_fill 38 = .ok (.goto 4, 3) := by decide +kernel
theorem dX10_fill_41 : decode cX10_fill 41 = .ok (.iconst 0, 1) := by decide +kernel
theorem dX10_fill_42 : decode cX10_fill 42 = .ok (.istore 6, 2) := by decide +kernel
theorem dX10_fill_44 : decode cX10_fill 44 = .ok (.aload_n 0, 1) := by decide +kernel
theorem dX10_fill_45 : decode cX10_fill 45 = .ok (.getfield 13, 3) := by decide +kernel
theorem dX10_fill_48 : decode cX10_fill 48 = .ok (.iload_n 1, 1) := by decide +kernel
theorem dX10_fill_49 : decode cX10_fill 49 = .ok (.iaload, 1) := by decide +kernel
theorem dX10_fill_50 : decode cX10_fill 50 = .ok (.bipush 8, 2) := by decide +kernel
theorem dX10_fill_52 : decode cX10_fill 52 = .ok (.if_icmp .ne 40, 3) := by decide +kernel
theorem dX10_fill_55 : decode cX10_fill 55 = .ok (.iload_n 3, 1) := by decide +kernel
theorem dX10_fill_56 : decode cX10_fill 56 = .ok (.iconst 1, 1) := by decide +kernel
theorem dX10_fill_57 : decode cX10_fill 57 = .ok (.isub, 1) := by decide +kernel
theorem dX10_fill_58 : decode cX10_fill 58 = .ok (.istore 7, 2) := by decide +kernel
theorem dX10_fill_60 : decode cX10_fill 60 = .ok (.iload 7, 2) := by decide +kernel
theorem dX10_fill_62 : decode cX10_fill 62 = .ok (.ifCond .lt 29, 3) := by decide +kernel
theorem dX10_fill_65 : decode cX10_fill 65 = .ok (.aload_n 0, 1) := by decide +kernel
theorem dX10_fill_66 : decode cX10_fill 66 = .ok (.getfield 72, 3) := by decide +kernel
theorem dX10_fill_69 : decode cX10_fill 69 = .ok (.iload_n 2, 1) := by decide +kernel
theorem dX10_fill_70 : decode cX10_fill 70 = .ok (.iload 7, 2) := by decide +kernel
theorem dX10_fill_72 : decode cX10_fill 72 = .ok (.iadd, 1) := by decide +kernel
theorem dX10_fill_73 : decode cX10_fill 73 = .ok (.lload 4, 2) := by decide +kernel
theorem dX10_fill_75 : decode cX10_fill 75 = .ok (.l2i, 1) := by decide +kernel
theorem dX10_fill_76 : decode cX10_fill 76 = .ok (.i2b, 1) := by decide +kernel
theorem dX10_fill_77 : decode cX10_fill 77 = .ok (.bastore, 1) := by decide +kernel
theorem dX10_fill_78 : decode cX10_fill 78 = .ok (.lload 4, 2) := by decide +kernel
theorem dX10_fill_80 : decode cX10_fill 80 = .ok (.bipush 8, 2) := by decide +kernel
theorem dX10_fill_82 : decode cX10_fill 82 = .ok (.lshr, 1) := by decide +kernel
theorem dX10_fill_83 : decode cX10_fill 83 = .ok (.lstore 4, 2) := by decide +kernel
theorem dX10_fill_85 : decode cX10_fill 85 = .ok (.iinc 7 (-1), 3) := by decide +kernel
theorem dX10_fill_88 : decode cX10_fill 88 = .ok (.goto (-28), 3) := by decide +kernel
theorem dX10_fill_91 : decode cX10_fill 91 = .ok (.return_, 1) := by decide +kernel
theorem dX10_fill_92 : decode cX10_fill 92 = .ok (.iload 6, 2) := by decide +kernel
theorem dX10_fill_94 : decode cX10_fill 94 = .ok (.ifCond .eq 9, 3) := by decide +kernel
theorem dX10_fill_97 : decode cX10_fill 97 = .ok (.lload 4, 2) := by decide +kernel
theorem dX10_fill_99 : decode cX10_fill 99 = .ok (.lneg, 1) := by decide +kernel
theorem dX10_fill_100 : decode cX10_fill 100 = .ok (.goto 5, 3) := by decide +kernel
theorem dX10_fill_103 : decode cX10_fill 103 = .ok (.lload 4, 2) := by decide +kernel
theorem dX10_fill_105 : decode cX10_fill 105 = .ok (.lstore 4, 2) := by decide +kernel
theorem dX10_fill_107 : decode cX10_fill 107 = .ok (.aload_n 0, 1) := by decide +kernel
theorem dX10_fill_108 : decode cX10_fill 108 = .ok (.getfield 13, 3) := by decide +kernel
theorem dX10_fill_111 : decode cX10_fill 111 = .ok (.iload_n 1, 1) := by decide +kernel
theorem dX10_fill_112 : decode cX10_fill 112 = .ok (.iaload, 1) := by decide +kernel
theorem dX10_fill_113 : decode cX10_fill 113 = .ok (.iconst 3, 1) := by decide +kernel
theorem dX10_fill_114 : decode cX10_fill 114 = .ok (.if_icmp .ge 54, 3) := by decide +kernel
theorem dX10_fill_117 : decode cX10_fill 117 = .ok (.iconst 0, 1) := by decide +kernel
theorem dX10_fill_118 : decode cX10_fill 118 = .ok (.istore 7, 2) := by decide +kernel
theorem dX10_fill_120 : decode cX10_fill 120 = .ok (.iload 7, 2) := by decide +kernel
theorem dX10_fill_122 : decode cX10_fill 122 = .ok (.iload_n 3, 1) := by decide +kernel
theorem dX10_fill_123 : decode cX10_fill 123 = .ok (.if_icmp .ge 42, 3) := by decide +kernel
theorem dX10_fill_126 : decode cX10_fill 126 = .ok (.aload_n 0, 1) := by decide +kernel
theorem dX10_fill_127 : decode cX10_fill 127 = .ok (.getfield 72, 3) := by decide +kernel
theorem dX10_fill_130 : decode cX10_fill 130 = .ok (.iload_n 2, 1) := by decide +kernel
theorem dX10_fill_131 : decode cX10_fill 131 = .ok (.iload 7, 2) := by decide +kernel
theorem dX10_fill_133 : decode cX10_fill 133 = .ok (.iadd, 1) := by decide +kernel
theorem dX10_fill_134 : decode cX10_fill 134 = .ok (.aload_n 0, 1) := by decide +kernel
theorem dX10_fill_135 : decode cX10_fill 135 = .ok (.getfield 13, 3) := by decide +kernel
theorem dX10_fill_138 : decode cX10_fill 138 = .ok (.iload_n 1, 1) := by decide +kernel
theorem dX10_fill_139 : decode cX10_fill 139 = .ok (.iaload, 1) := by decide +kernel
theorem dX10_fill_140 : decode cX10_fill 140 = .ok (.iconst 2, 1) := by decide +kernel
theorem dX10_fill_141 : decode cX10_fill 141 = .ok (.if_icmp .ne 14, 3) := by decide +kernel
theorem dX10_fill_144 : decode cX10_fill 144 = .ok (.iload 7, 2) := by decide +kernel
theorem dX10_fill_146 : decode cX10_fill 146 = .ok (.iconst 2, 1) := by decide +kernel
theorem dX10_fill_147 : decode cX10_fill 147 = .ok (.irem, 1) := by decide +kernel
theorem dX10_fill_148 : decode cX10_fill 148 = .ok (.ifCond .ne 7, 3) := by decide +kernel
theorem dX10_fill_151 : decode cX10_fill 151 = .ok (.iconst 0, 1) := by decide +kernel
theorem dX10_fill_152 : decode cX10_fill 152 = .ok (.goto 5, 3) := by decide +kernel
theorem dX10_fill_155 : decode cX10_fill 155 = .ok (.bipush 32, 2) := by decide +kernel
theorem dX10_fill_157 : decode cX10_fill 157 = .ok (.i2b, 1) := by decide +kernel
theorem dX10_fill_158 : decode cX10_fill 158 = .ok (.bastore, 1) := by decide +kernel
theorem dX10_fill_159 : decode cX10_fill 159 = .ok (.iinc 7 1, 3) := by decide +kernel
theorem dX10_fill_162 : decode cX10_fill 162 = .ok (.goto (-42), 3) := by decide +kernel
theorem dX10_fill_165 : decode cX10_fill 165 = .ok (.goto 309, 3) := by decide +kernel
theorem dX10_fill_168 : decode cX10_fill 168 = .ok (.aload_n 0, 1) := by decide +kernel
theorem dX10_fill_169 : decode cX10_fill 169 = .ok (.getfield 13, 3) := by decide +kernel
theorem dX10_fill_172 : decode cX10_fill 172 = .ok (.iload_n 1, 1) := by decide +kernel
theorem dX10_fill_173 : decode cX10_fill 173 = .ok (.iaload, 1) := by decide +kernel
theorem dX10_fill_174 : decode cX10_fill 174 = .ok (.bipush 7, 2) := by decide +kernel
theorem dX10_fill_176 : decode cX10_fill 176 = .ok (.if_icmp .ne 125, 3) := by decide +kernel
theorem dX10_fill_179 : decode cX10_fill 179 = .ok (.iconst 2, 1) := by decide +kernel
theorem dX10_fill_180 : decode cX10_fill 180 = .ok (.iload_n 3, 1) := by decide +kernel
theorem dX10_fill_181 : decode cX10_fill 181 = .ok (.imul, 1) := by decide +kernel
theorem dX10_fill_182 : decode cX10_fill 182 = .ok (.iconst 1, 1) := by decide +kernel
theorem dX10_fill_183 : decode cX10_fill 183 = .ok (.isub, 1) := by decide +kernel
theorem dX10_fill_184 : decode cX10_fill 184 = .ok (.istore 7, 2) := by decide +kernel
theorem dX10_fill_186 : decode cX10_fill 186 = .ok (.iload 7, 2) := by decide +kernel
theorem dX10_fill_188 : decode cX10_fill 188 = .ok (.ifCond .lt 110, 3) := by decide +kernel
theorem dX10_fill_191 : decode cX10_fill 191 = .ok (.iload 7, 2) := by decide +kernel
theorem dX10_fill_193 : decode cX10_fill 193 = .ok (.iconst 2, 1) := by decide +kernel
theorem dX10_fill_194 : decode cX10_fill 194 = .ok (.iload_n 3, 1) := by decide +kernel
theorem dX10_fill_195 : decode cX10_fill 195 = .ok (.imul, 1) := by decide +kernel
theorem dX10_fill_196 : decode cX10_fill 196 = .ok (.iconst 1, 1) := by decide +kernel
theorem dX10_fill_197 : decode cX10_fill 197 = .ok (.isub, 1) := by decide +kernel
theorem dX10_fill_198 : decode cX10_fill 198 = .ok (.if_icmp .ne 18, 3) := by decide +kernel
theorem dX10_fill_201 : decode cX10_fill 201 = .ok (.iload 6, 2) := by decide +kernel
theorem dX10_fill_203 : decode cX10_fill 203 = .ok (.ifCond .eq 8, 3) := by decide +kernel
theorem dX10_fill_206 : decode cX10_fill 206 = .ok (.bipush 13, 2) := by decide +kernel
theorem dX10_fill_208 : decode cX10_fill 208 = .ok (.goto 15, 3) := by decide +kernel
theorem dX10_fill_211 : decode cX10_fill 211 = .ok (.bipush 12, 2) := by decide +kernel
theorem dX10_fill_213 : decode cX10_fill 213 = .ok (.goto 10, 3) := by decide +kernel
theorem dX10_fill_216 : decode cX10_fill 216 = .ok (.lload 4, 2) := by decide +kernel
theorem dX10_fill_218 : decode cX10_fill 218 = .ok (.ldc2_w 134, 3) := by decide +kernel
theorem dX10_fill_221 : decode cX10_fill 221 = .ok (.lrem, 1) := by decide +kernel
theorem dX10_fill_222 : decode cX10_fill 222 = .ok (.l2i, 1) := by decide +kernel
theorem dX10_fill_223 : decode cX10_fill 223 = .ok (.istore 8, 2) := by decide +kernel
theorem dX10_fill_225 : decode cX10_fill 225 = .ok (.iload 7, 2) := by decide +kernel
theorem dX10_fill_227 : decode cX10_fill 227 = .ok (.iconst 2, 1) := by decide +kernel
theorem dX10_fill_228 : decode cX10_fill 228 = .ok (.iload_n 3, 1) := by decide +kernel
theorem dX10_fill_229 : decode cX10_fill 229 = .ok (.imul, 1) := by decide +kernel
theorem dX10_fill_230 : decode cX10_fill 230 = .ok (.iconst 1, 1) := by decide +kernel
theorem dX10_fill_231 : decode cX10_fill 231 = .ok (.isub, 1) := by decide +kernel
theorem dX10_fill_232 : decode cX10_fill 232 = .ok (.if_icmp .ne 8, 3) := by decide +kernel
theorem dX10_fill_235 : decode cX10_fill 235 = .ok (.lload 4, 2) := by decide +kernel
theorem dX10_fill_237 : decode cX10_fill 237 = .ok (.goto 9, 3) := by decide +kernel
theorem dX10_fill_240 : decode cX10_fill 240 = .ok (.lload 4, 2) := by decide +kernel
theorem dX10_fill_242 : decode cX10_fill 242 = .ok (.ldc2_w 134, 3) := by decide +kernel
theorem dX10_fill_245 : decode cX10_fill 245 = .ok (.ldiv, 1) := by decide +kernel
theorem dX10_fill_246 : decode cX10_fill 246 = .ok (.lstore 4, 2) := by decide +kernel
theorem dX10_fill_248 : decode cX10_fill 248 = .ok (.aload_n 0, 1) := by decide +kernel
theorem dX10_fill_249 : decode cX10_fill 249 = .ok (.getfield 72, 3) := by decide +kernel
theorem dX10_fill_252 : decode cX10_fill 252 = .ok (.iload_n 2, 1) := by decide +kernel
theorem dX10_fill_253 : decode cX10_fill 253 = .ok (.iload 7, 2) := by decide +kernel
theorem dX10_fill_255 : decode cX10_fill 255 = .ok (.iconst 2, 1) := by decide +kernel
theorem dX10_fill_256 : decode cX10_fill 256 = .ok (.idiv, 1) := by decide +kernel
theorem dX10_fill_257 : decode cX10_fill 257 = .ok (.iadd, 1) := by decide +kernel
theorem dX10_fill_258 : decode cX10_fill 258 = .ok (.iload 7, 2) := by decide +kernel
theorem dX10_fill_260 : decode cX10_fill 260 = .ok (.iconst 2, 1) := by decide +kernel
theorem dX10_fill_261 : decode cX10_fill 261 = .ok (.irem, 1) := by decide +kernel
theorem dX10_fill_262 : decode cX10_fill 262 = .ok (.iconst 1, 1) := by decide +kernel
theorem dX10_fill_263 : decode cX10_fill 263 = .ok (.if_icmp .ne 8, 3) := by decide +kernel
theorem dX10_fill_266 : decode cX10_fill 266 = .ok (.iload 8, 2) := by decide +kernel
theorem dX10_fill_268 : decode cX10_fill 268 = .ok (.goto 22, 3) := by decide +kernel
theorem dX10_fill_271 : decode cX10_fill 271 = .ok (.aload_n 0, 1) := by decide +kernel
theorem dX10_fill_272 : decode cX10_fill 272 = .ok (.getfield 72, 3) := by decide +kernel
theorem dX10_fill_275 : decode cX10_fill 275 = .ok (.iload_n 2, 1) := by decide +kernel
theorem dX10_fill_276 : decode cX10_fill 276 = .ok (.iload 7, 2) := by decide +kernel
theorem dX10_fill_278 : decode cX10_fill 278 = .ok (.iconst 2, 1) := by decide +kernel
theorem dX10_fill_279 : decode cX10_fill 279 = .ok (.idiv, 1) := by decide +kernel
theorem dX10_fill_280 : decode cX10_fill 280 = .ok (.iadd, 1) := by decide +kernel
theorem dX10_fill_281 : decode cX10_fill 281 = .ok (.baload, 1) := by decide +kernel
theorem dX10_fill_282 : decode cX10_fill 282 = .ok (.bipush 15, 2) := by decide +kernel
theorem dX10_fill_284 : decode cX10_fill 284 = .ok (.iand, 1) := by decide +kernel
theorem dX10_fill_285 : decode cX10_fill 285 = .ok (.iload 8, 2) := by decide +kernel
theorem dX10_fill_287 : decode cX10_fill 287 = .ok (.iconst 4, 1) := by decide +kernel
theorem dX10_fill_288 : decode cX10_fill 288 = .ok (.ishl, 1) := by decide +kernel
theorem dX10_fill_289 : decode cX10_fill 289 = .ok (.ior, 1) := by decide +kernel
theorem dX10_fill_290 : decode cX10_fill 290 = .ok (.i2b, 1) := by decide +kernel
theorem dX10_fill_291 : decode cX10_fill 291 = .ok (.bastore, 1) := by decide +kernel
theorem dX10_fill_292 : decode cX10_fill 292 = .ok (.iinc 7 (-1), 3) := by decide +kernel
theorem dX10_fill_295 : decode cX10_fill 295 = .ok (.goto (-109), 3) := by decide +kernel
theorem dX10_fill_298 : decode cX10_fill 298 = .ok (.goto 176, 3) := by decide +kernel
theorem dX10_fill_301 : decode cX10_fill 301 = .ok (.aload_n 0, 1) := by decide +kernel
theorem dX10_fill_302 : decode cX10_fill 302 = .ok (.getfield 13, 3) := by decide +kernel
theorem dX10_fill_305 : decode cX10_fill 305 = .ok (.iload_n 1, 1) := by decide +kernel
theorem dX10_fill_306 : decode cX10_fill 306 = .ok (.iaload, 1) := by decide +kernel
theorem dX10_fill_307 : decode cX10_fill 307 = .ok (.bipush 7, 2) := by decide +kernel
theorem dX10_fill_309 : decode cX10_fill 309 = .ok (.if_icmp .ge 165, 3) := by decide +kernel
theorem dX10_fill_312 : decode cX10_fill 312 = .ok (.aload_n 0, 1) := by decide +kernel
theorem dX10_fill_313 : decode cX10_fill 313 = .ok (.getfield 13, 3) := by decide +kernel
theorem dX10_fill_316 : decode cX10_fill 316 = .ok (.iload_n 1, 1) := by decide +kernel
theorem dX10_fill_317 : decode cX10_fill 317 = .ok (.iaload, 1) := by decide +kernel
theorem dX10_fill_318 : decode cX10_fill 318 = .ok (.iconst 5, 1) := by decide +kernel
theorem dX10_fill_319 : decode cX10_fill 319 = .ok (.if_icmp .ne 7, 3) := by decide +kernel
theorem dX10_fill_322 : decode cX10_fill 322 = .ok (.iconst 1, 1) := by decide +kernel
theorem dX10_fill_323 : decode cX10_fill 323 = .ok (.goto 4, 3) := by decide +kernel
theorem dX10_fill_326 : decode cX10_fill 326 = .ok (.iconst 0, 1) := by decide +kernel
theorem dX10_fill_327 : decode cX10_fill 327 = .ok (.istore 7, 2) := by decide +kernel
theorem dX10_fill_329 : decode cX10_fill 329 = .ok (.aload_n 0, 1) := by decide +kernel
theorem dX10_fill_330 : decode cX10_fill 330 = .ok (.getfield 16, 3) := by decide +kernel
theorem dX10_fill_333 : decode cX10_fill 333 = .ok (.iload_n 1, 1) := by decide +kernel
theorem dX10_fill_334 : decode cX10_fill 334 = .ok (.iaload, 1) := by decide +kernel
theorem dX10_fill_335 : decode cX10_fill 335 = .ok (.iconst 1, 1) := by decide +kernel
theorem dX10_fill_336 : decode cX10_fill 336 = .ok (.isub, 1) := by decide +kernel
theorem dX10_fill_337 : decode cX10_fill 337 = .ok (.istore 8, 2) := by decide +kernel
theorem dX10_fill_339 : decode cX10_fill 339 = .ok (.iload 8, 2) := by decide +kernel
theorem dX10_fill_341 : decode cX10_fill 341 = .ok (.ifCond .lt 41, 3) := by decide +kernel
theorem dX10_fill_344 : decode cX10_fill 344 = .ok (.aload_n 0, 1) := by decide +kernel
theorem dX10_fill_345 : decode cX10_fill 345 = .ok (.getfield 72, 3) := by decide +kernel
theorem dX10_fill_348 : decode cX10_fill 348 = .ok (.iload_n 2, 1) := by decide +kernel
theorem dX10_fill_349 : decode cX10_fill 349 = .ok (.iload 7, 2) := by decide +kernel
theorem dX10_fill_351 : decode cX10_fill 351 = .ok (.iadd, 1) := by decide +kernel
theorem dX10_fill_352 : decode cX10_fill 352 = .ok (.iload 8, 2) := by decide +kernel
theorem dX10_fill_354 : decode cX10_fill 354 = .ok (.iadd, 1) := by decide +kernel
theorem dX10_fill_355 : decode cX10_fill 355 = .ok (.ldc2_w 213, 3) := by decide +kernel
theorem dX10_fill_358 : decode cX10_fill 358 = .ok (.lload 4, 2) := by decide +kernel
theorem dX10_fill_360 : decode cX10_fill 360 = .ok (.ldc2_w 134, 3) := by decide +kernel
theorem dX10_fill_363 : decode cX10_fill 363 = .ok (.lrem, 1) := by decide +kernel
theorem dX10_fill_364 : decode cX10_fill 364 = .ok (.ladd, 1) := by decide +kernel
theorem dX10_fill_365 : decode cX10_fill 365 = .ok (.l2i, 1) := by decide +kernel
theorem dX10_fill_366 : decode cX10_fill 366 = .ok (.i2b, 1) := by decide +kernel
theorem dX10_fill_367 : decode cX10_fill 367 = .ok (.bastore, 1) := by decide +kernel
theorem dX10_fill_368 : decode cX10_fill 368 = .ok (.lload 4, 2) := by decide +kernel
theorem dX10_fill_370 : decode cX10_fill 370 = .ok (.ldc2_w 134, 3) := by decide +kernel
theorem dX10_fill_373 : decode cX10_fill 373 = .ok (.ldiv, 1) := by decide +kernel
theorem dX10_fill_374 : decode cX10_fill 374 = .ok (.lstore 4, 2) := by decide +kernel
theorem dX10_fill_376 : decode cX10_fill 376 = .ok (.iinc 8 (-1), 3) := by decide +kernel
theorem dX10_fill_379 : decode cX10_fill 379 = .ok (.goto (-40), 3) := by decide +kernel
theorem dX10_fill_382 : decode cX10_fill 382 = .ok (.aload_n 0, 1) := by decide +kernel
theorem dX10_fill_383 : decode cX10_fill 383 = .ok (.getfield 13, 3) := by decide +kernel
theorem dX10_fill_386 : decode cX10_fill 386 = .ok (.iload_n 1, 1) := by decide +kernel
theorem dX10_fill_387 : decode cX10_fill 387 = .ok (.iaload, 1) := by decide +kernel
theorem dX10_fill_388 : decode cX10_fill 388 = .ok (.iconst 3, 1) := by decide +kernel
theorem dX10_fill_389 : decode cX10_fill 389 = .ok (.if_icmp .eq 14, 3) := by decide +kernel
theorem dX10_fill_392 : decode cX10_fill 392 = .ok (.aload_n 0, 1) := by decide +kernel
theorem dX10_fill_393 : decode cX10_fill 393 = .ok (.getfield 13, 3) := by decide +kernel
theorem dX10_fill_396 : decode cX10_fill 396 = .ok (.iload_n 1, 1) := by decide +kernel
theorem dX10_fill_397 : decode cX10_fill 397 = .ok (.iaload, 1) := by decide +kernel
theorem dX10_fill_398 : decode cX10_fill 398 = .ok (.bipush 6, 2) := by decide +kernel
theorem dX10_fill_400 : decode cX10_fill 400 = .ok (.if_icmp .ne 9, 3) := by decide +kernel
theorem dX10_fill_403 : decode cX10_fill 403 = .ok (.iload_n 3, 1) := by decide +kernel
theorem dX10_fill_404 : decode cX10_fill 404 = .ok (.iconst 1, 1) := by decide +kernel
theorem dX10_fill_405 : decode cX10_fill 405 = .ok (.isub, 1) := by decide +kernel
theorem dX10_fill_406 : decode cX10_fill 406 = .ok (.goto 4, 3) := by decide +kernel
theorem dX10_fill_409 : decode cX10_fill 409 = .ok (.iconst 0, 1) := by decide +kernel
theorem dX10_fill_410 : decode cX10_fill 410 = .ok (.istore 8, 2) := by decide +kernel
theorem dX10_fill_412 : decode cX10_fill 412 = .ok (.aload_n 0, 1) := by decide +kernel
theorem dX10_fill_413 : decode cX10_fill 413 = .ok (.getfield 13, 3) := by decide +kernel
theorem dX10_fill_416 : decode cX10_fill 416 = .ok (.iload_n 1, 1) := by decide +kernel
theorem dX10_fill_417 : decode cX10_fill 417 = .ok (.iaload, 1) := by decide +kernel
theorem dX10_fill_418 : decode cX10_fill 418 = .ok (.iconst 4, 1) := by decide +kernel
theorem dX10_fill_419 : decode cX10_fill 419 = .ok (.if_icmp .le 28, 3) := by decide +kernel
theorem dX10_fill_422 : decode cX10_fill 422 = .ok (.aload_n 0, 1) := by decide +kernel
theorem dX10_fill_423 : decode cX10_fill 423 = .ok (.getfield 72, 3) := by decide +kernel
theorem dX10_fill_426 : decode cX10_fill 426 = .ok (.iload_n 2, 1) := by decide +kernel
theorem dX10_fill_427 : decode cX10_fill 427 = .ok (.iload 8, 2) := by decide +kernel
theorem dX10_fill_429 : decode cX10_fill 429 = .ok (.iadd, 1) := by decide +kernel
theorem dX10_fill_430 : decode cX10_fill 430 = .ok (.iload 6, 2) := by decide +kernel
theorem dX10_fill_432 : decode cX10_fill 432 = .ok (.ifCond .eq 8, 3) := by decide +kernel
theorem dX10_fill_435 : decode cX10_fill 435 = .ok (.bipush 45, 2) := by decide +kernel
theorem dX10_fill_437 : decode cX10_fill 437 = .ok (.goto 5, 3) := by decide +kernel
theorem dX10_fill_440 : decode cX10_fill 440 = .ok (.bipush 43, 2) := by decide +kernel
theorem dX10_fill_442 : decode cX10_fill 442 = .ok (.i2b, 1) := by decide +kernel
theorem dX10_fill_443 : decode cX10_fill 443 = .ok (.bastore, 1) := by decide +kernel
theorem dX10_fill_444 : decode cX10_fill 444 = .ok (.goto 30, 3) := by decide +kernel
theorem dX10_fill_447 : decode cX10_fill 447 = .ok (.iload 6, 2) := by decide +kernel
theorem dX10_fill_449 : decode cX10_fill 449 = .ok (.ifCond .eq 25, 3) := by decide +kernel
theorem dX10_fill_452 : decode cX10_fill 452 = .ok (.aload_n 0, 1) := by decide +kernel
theorem dX10_fill_453 : decode cX10_fill 453 = .ok (.getfield 72, 3) := by decide +kernel
theorem dX10_fill_456 : decode cX10_fill 456 = .ok (.iload_n 2, 1) := by decide +kernel
theorem dX10_fill_457 : decode cX10_fill 457 = .ok (.iload 8, 2) := by decide +kernel
theorem dX10_fill_459 : decode cX10_fill 459 = .ok (.iadd, 1) := by decide +kernel
theorem dX10_fill_460 : decode cX10_fill 460 = .ok (.aload_n 0, 1) := by decide +kernel
theorem dX10_fill_461 : decode cX10_fill 461 = .ok (.getfield 72, 3) := by decide +kernel
theorem dX10_fill_464 : decode cX10_fill 464 = .ok (.iload_n 2, 1) := by decide +kernel
theorem dX10_fill_465 : decode cX10_fill 465 = .ok (.iload 8, 2) := by decide +kernel
theorem dX10_fill_467 : decode cX10_fill 467 = .ok (.iadd, 1) := by decide +kernel
theorem dX10_fill_468 : decode cX10_fill 468 = .ok (.baload, 1) := by decide +kernel
theorem dX10_fill_469 : decode cX10_fill 469 = .ok (.bipush 64, 2) := by decide +kernel
theorem dX10_fill_471 : decode cX10_fill 471 = .ok (.iadd, 1) := by decide +kernel
theorem dX10_fill_472 : decode cX10_fill 472 = .ok (.i2b, 1) := by decide +kernel
theorem dX10_fill_473 : decode cX10_fill 473 = .ok (.bastore, 1) := by decide +kernel
theorem dX10_fill_474 : decode cX10_fill 474 = .ok (.return_, 1) := by decide +kernel
def VX10_fill_410 (g : jg) (a0 : Nat) (x1 : Int32) (x2 : Int32) (x6 : Int32) (s0 : Int32) (h : jh) (k n : Nat) (Q : jq) : Prop := (jt h a0 = 9) ∧ (¬ (jr h 515 a0) = none) ∧ (jt h (jd (jr h 515 a0)) = 20) ∧ (vp_in (x1) (jn h (jd (jr h 515 a0)))) ∧ (((jI h (jd (jr h 515 a0)) (x1 : Int32).toNatClampNeg) ≤ (4) → (((x6) = 0 → Q (.inl none) h) ∧ (¬ (x6) = 0 → (¬ (jr h 538 a0) = none) ∧ (jt h (jd (jr h 538 a0)) = 21) ∧ (vp_in ((x2) + (s0)) (jn h (jd (jr h 538 a0)))) ∧ ∀ h10 : jh, h10 = jsI h (jd (jr h 538 a0)) ((x2) + (s0) : Int32).toNatClampNeg (((jI h (jd (jr h 538 a0)) ((x2) + (s0) : Int32).toNatClampNeg) + (64) : Int32).toInt8.toInt32 : Int32).toInt8.toInt32 → Q (.inl none) h10))) ∧ (¬ (jI h (jd (jr h 515 a0)) (x1 : Int32).toNatClampNeg) ≤ (4) → (((x6) = 0 → (¬ (jr h 538 a0) = none) ∧ (jt h (jd (jr h 538 a0)) = 21) ∧ (vp_in ((x2) + (s0)) (jn h (jd (jr h 538 a0)))) ∧ ∀ h16 : jh, h16 = jsI h (jd (jr h 538 a0)) ((x2) + (s0) : Int32).toNatClampNeg ((43 : Int32).toInt8.toInt32 : Int32).toInt8.toInt32 → Q (.inl none) h16) ∧ (¬ (x6) = 0 → (¬ (jr h 538 a0) = none) ∧ (jt h (jd (jr h 538 a0)) = 21) ∧ (vp_in ((x2) + (s0)) (jn h (jd (jr h 538 a0)))) ∧ ∀ h21 : jh, h21 = jsI h (jd (jr h 538 a0)) ((x2) + (s0) : Int32).toNatClampNeg ((45 : Int32).toInt8.toInt32 : Int32).toInt8.toInt32 → Q (.inl none) h21))))
set_option maxRecDepth 20000 in
theorem vX10_fill_410 {g : jg} {a0 : Nat} {x1 : Int32} {x2 : Int32} {x6 : Int32} {s0 : Int32} {h : jh} {k n : Nat} {Q : jq} (hv : VX10_fill_410 g a0 x1 x2 x6 s0 h k n Q) : jG g mX10_fill 410 [(0, .inr (.inr (some (a0)))), (1, .inl (x1)), (2, .inl (x2)), (6, .inl (x6))] [.inl (s0)] h k n Q := by
  unfold VX10_fill_410 at hv
  refine jg_istore (lv' := [(8, .inl (s0)), (0, .inr (.inr (some (a0)))), (1, .inl (x1)), (2, .inl (x2)), (6, .inl (x6))]) dX10_fill_410 (by decide) rfl ?_
  refine jg_aload_n dX10_fill_412 rfl (List.Mem.tail _ (List.Mem.head _)) ?_
  obtain ⟨f1, hv⟩ := hv
  refine jg_getr dX10_fill_413 fl_RX10_13 rfl jsn f1 ?_
  refine jg_iload_n dX10_fill_416 rfl (List.Mem.tail _ (List.Mem.tail _ (List.Mem.head _))) ?_
  obtain ⟨f2, hv⟩ := hv
  obtain ⟨f3, hv⟩ := hv
  obtain ⟨f4, hv⟩ := hv
  refine jg_iald dX10_fill_417 f2 f3 f4 ?_
  refine jg_iconst (v := 4) dX10_fill_418 (by decide) ?_
  refine jg_icmp_le (tgt := 447) dX10_fill_419 (by decide) (fun c5 => ?_) (fun c5 => ?_)
  · replace hv := hv.1 c5
    refine jg_iload dX10_fill_447 (List.Mem.tail _ (List.Mem.tail _ (List.Mem.tail _ (List.Mem.tail _ (List.Mem.head _))))) ?_
    refine jg_if_eq (tgt := 474) dX10_fill_449 (by decide) (fun c6 => ?_) (fun c6 => ?_)
    · replace hv := hv.1 c6
      exact jg_vret dX10_fill_474 rfl hv
    · replace hv := hv.2 c6
      refine jg_aload_n dX10_fill_452 rfl (List.Mem.tail _ (List.Mem.head _)) ?_
      refine jg_getr dX10_fill_453 fl_RX10_72 rfl jsn f1 ?_
      refine jg_iload_n dX10_fill_456 rfl (List.Mem.tail _ (List.Mem.tail _ (List.Mem.tail _ (List.Mem.head _)))) ?_
      refine jg_iload dX10_fill_457 (List.Mem.head _) ?_
      refine jg_iadd dX10_fill_459 ?_
      refine jg_aload_n dX10_fill_460 rfl (List.Mem.tail _ (List.Mem.head _)) ?_
      refine jg_getr dX10_fill_461 fl_RX10_72 rfl jsn f1 ?_
      refine jg_iload_n dX10_fill_464 rfl (List.Mem.tail _ (List.Mem.tail _ (List.Mem.tail _ (List.Mem.head _)))) ?_
      refine jg_iload dX10_fill_465 (List.Mem.head _) ?_
      refine jg_iadd dX10_fill_467 ?_
      obtain ⟨f7, hv⟩ := hv
      obtain ⟨f8, hv⟩ := hv
      obtain ⟨f9, hv⟩ := hv
      refine jg_bald dX10_fill_468 f7 f8 f9 ?_
      refine jg_bipush (v := 64) dX10_fill_469 (by decide) ?_
      refine jg_iadd dX10_fill_471 ?_
      refine jg_i2b dX10_fill_472 ?_
      obtain ⟨h10, e11⟩ : ∃ z : jh, z = jsI h (jd (jr h 538 a0)) ((x2) + (s0) : Int32).toNatClampNeg (((jI h (jd (jr h 538 a0)) ((x2) + (s0) : Int32).toNatClampNeg) + (64) : Int32).toInt8.toInt32 : Int32).toInt8.toInt32 := ⟨_, rfl⟩
      replace hv := hv h10 e11
      refine jp_bast dX10_fill_473 f7 f8 f9 e11 ?_
      exact jg_vret dX10_fill_474 rfl hv
  · replace hv := hv.2 c5
    refine jg_aload_n dX10_fill_422 rfl (List.Mem.tail _ (List.Mem.head _)) ?_
    refine jg_getr dX10_fill_423 fl_RX10_72 rfl jsn f1 ?_
    refine jg_iload_n dX10_fill_426 rfl (List.Mem.tail _ (List.Mem.tail _ (List.Mem.tail _ (List.Mem.head _)))) ?_
    refine jg_iload dX10_fill_427 (List.Mem.head _) ?_
    refine jg_iadd dX10_fill_429 ?_
    refine jg_iload dX10_fill_430 (List.Mem.tail _ (List.Mem.tail _ (List.Mem.tail _ (List.Mem.tail _ (List.Mem.head _))))) ?_
    refine jg_if_eq (tgt := 440) dX10_fill_432 (by decide) (fun c12 => ?_) (fun c12 => ?_)
    · replace hv := hv.1 c12
      refine jg_bipush (v := 43) dX10_fill_440 (by decide) ?_
      refine jg_i2b dX10_fill_442 ?_
      obtain ⟨f13, hv⟩ := hv
      obtain ⟨f14, hv⟩ := hv
      obtain ⟨f15, hv⟩ := hv
      obtain ⟨h16, e17⟩ : ∃ z : jh, z = jsI h (jd (jr h 538 a0)) ((x2) + (s0) : Int32).toNatClampNeg ((43 : Int32).toInt8.toInt32 : Int32).toInt8.toInt32 := ⟨_, rfl⟩
      replace hv := hv h16 e17
      refine jp_bast dX10_fill_443 f13 f14 f15 e17 ?_
      refine jg_goto (tgt := 474) dX10_fill_444 (by decide) ?_
      exact jg_vret dX10_fill_474 rfl hv
    · replace hv := hv.2 c12
      refine jg_bipush (v := 45) dX10_fill_435 (by decide) ?_
      refine jg_goto (tgt := 442) dX10_fill_437 (by decide) ?_
      refine jg_i2b dX10_fill_442 ?_
      obtain ⟨f18, hv⟩ := hv
      obtain ⟨f19, hv⟩ := hv
      obtain ⟨f20, hv⟩ := hv
      obtain ⟨h21, e22⟩ : ∃ z : jh, z = jsI h (jd (jr h 538 a0)) ((x2) + (s0) : Int32).toNatClampNeg ((45 : Int32).toInt8.toInt32 : Int32).toInt8.toInt32 := ⟨_, rfl⟩
      replace hv := hv h21 e22
      refine jp_bast dX10_fill_443 f18 f19 f20 e22 ?_
      refine jg_goto (tgt := 474) dX10_fill_444 (by decide) ?_
      exact jg_vret dX10_fill_474 rfl hv
def VX10_fill_339 (g : jg) (a0 : Nat) (x1 : Int32) (x2 : Int32) (x3 : Int32) (x4 : Int64) (x6 : Int32) (x7 : Int32) (x8 : Int32) (h : jh) (k n : Nat) (Q : jq) : Prop := (((x8) < 0 → (jt h a0 = 9) ∧ (¬ (jr h 515 a0) = none) ∧ (jt h (jd (jr h 515 a0)) = 20) ∧ (vp_in (x1) (jn h (jd (jr h 515 a0)))) ∧ (((jI h (jd (jr h 515 a0)) (x1 : Int32).toNatClampNeg) = (3) → VX10_fill_410 g (a0) (x1) (x2) (x6) ((x3) - (1)) h k n Q) ∧ (¬ (jI h (jd (jr h 515 a0)) (x1 : Int32).toNatClampNeg) = (3) → ((¬ (jI h (jd (jr h 515 a0)) (x1 : Int32).toNatClampNeg) = (6) → VX10_fill_410 g (a0) (x1) (x2) (x6) (0) h k n Q) ∧ ((jI h (jd (jr h 515 a0)) (x1 : Int32).toNatClampNeg) = (6) → VX10_fill_410 g (a0) (x1) (x2) (x6) ((x3) - (1)) h k n Q))))) ∧ (¬ (x8) < 0 → (jt h a0 = 9) ∧ (¬ (jr h 538 a0) = none) ∧ (jt h (jd (jr h 538 a0)) = 21) ∧ (vp_in (((x2) + (x7)) + (x8)) (jn h (jd (jr h 538 a0)))) ∧ ∀ h34 : jh, h34 = jsI h (jd (jr h 538 a0)) (((x2) + (x7)) + (x8) : Int32).toNatClampNeg ((((48) + ((x4) - (x4) / (10) * (10)) : Int64).toInt32 : Int32).toInt8.toInt32 : Int32).toInt8.toInt32 → jG g mX10_fill 339 [(0, .inr (.inr (some (a0)))), (1, .inl (x1)), (2, .inl (x2)), (3, .inl (x3)), (4, .inr (.inl ((x4) / (10)))), (6, .inl (x6)), (7, .inl (x7)), (8, .inl ((x8) + (-1)))] [] h34 k n Q))
set_option maxRecDepth 20000 in
theorem vX10_fill_339 {g : jg} {a0 : Nat} {x1 : Int32} {x2 : Int32} {x3 : Int32} {x4 : Int64} {x6 : Int32} {x7 : Int32} {x8 : Int32} {h : jh} {k n : Nat} {Q : jq} (hv : VX10_fill_339 g a0 x1 x2 x3 x4 x6 x7 x8 h k n Q) : jG g mX10_fill 339 [(0, .inr (.inr (some (a0)))), (1, .inl (x1)), (2, .inl (x2)), (3, .inl (x3)), (4, .inr (.inl (x4))), (6, .inl (x6)), (7, .inl (x7)), (8, .inl (x8))] [] h k n Q := by
  unfold VX10_fill_339 at hv
  refine jg_iload dX10_fill_339 (List.Mem.tail _ (List.Mem.tail _ (List.Mem.tail _ (List.Mem.tail _ (List.Mem.tail _ (List.Mem.tail _ (List.Mem.tail _ (List.Mem.head _)))))))) ?_
  refine jg_if_lt (tgt := 382) dX10_fill_341 (by decide) (fun c23 => ?_) (fun c23 => ?_)
  · replace hv := hv.1 c23
    refine jg_aload_n dX10_fill_382 rfl (List.Mem.head _) ?_
    obtain ⟨f24, hv⟩ := hv
    refine jg_getr dX10_fill_383 fl_RX10_13 rfl jsn f24 ?_
    refine jg_iload_n dX10_fill_386 rfl (List.Mem.tail _ (List.Mem.head _)) ?_
    obtain ⟨f25, hv⟩ := hv
    obtain ⟨f26, hv⟩ := hv
    obtain ⟨f27, hv⟩ := hv
    refine jg_iald dX10_fill_387 f25 f26 f27 ?_
    refine jg_iconst (v := 3) dX10_fill_388 (by decide) ?_
    refine jg_icmp_eq (tgt := 403) dX10_fill_389 (by decide) (fun c28 => ?_) (fun c28 => ?_)
    · replace hv := hv.1 c28
      refine jg_iload_n dX10_fill_403 rfl (List.Mem.tail _ (List.Mem.tail _ (List.Mem.tail _ (List.Mem.head _)))) ?_
      refine jg_iconst (v := 1) dX10_fill_404 (by decide) ?_
      refine jg_isub dX10_fill_405 ?_
      refine jg_goto (tgt := 410) dX10_fill_406 (by decide) ?_
      refine jG.sub (lv' := [(0, .inr (.inr (some (a0)))), (1, .inl (x1)), (2, .inl (x2)), (6, .inl (x6))]) (by simp) ?_
      exact vX10_fill_410 hv
    · replace hv := hv.2 c28
      refine jg_aload_n dX10_fill_392 rfl (List.Mem.head _) ?_
      refine jg_getr dX10_fill_393 fl_RX10_13 rfl jsn f24 ?_
      refine jg_iload_n dX10_fill_396 rfl (List.Mem.tail _ (List.Mem.head _)) ?_
      refine jg_iald dX10_fill_397 f25 f26 f27 ?_
      refine jg_bipush (v := 6) dX10_fill_398 (by decide) ?_
      refine jg_icmp_ne (tgt := 409) dX10_fill_400 (by decide) (fun c29 => ?_) (fun c29 => ?_)
      · replace hv := hv.1 c29
        refine jg_iconst (v := 0) dX10_fill_409 (by decide) ?_
        refine jG.sub (lv' := [(0, .inr (.inr (some (a0)))), (1, .inl (x1)), (2, .inl (x2)), (6, .inl (x6))]) (by simp) ?_
        exact vX10_fill_410 hv
      · replace hv := hv.2 c29
        refine jg_iload_n dX10_fill_403 rfl (List.Mem.tail _ (List.Mem.tail _ (List.Mem.tail _ (List.Mem.head _)))) ?_
        refine jg_iconst (v := 1) dX10_fill_404 (by decide) ?_
        refine jg_isub dX10_fill_405 ?_
        refine jg_goto (tgt := 410) dX10_fill_406 (by decide) ?_
        refine jG.sub (lv' := [(0, .inr (.inr (some (a0)))), (1, .inl (x1)), (2, .inl (x2)), (6, .inl (x6))]) (by simp) ?_
        exact vX10_fill_410 hv
  · replace hv := hv.2 c23
    refine jg_aload_n dX10_fill_344 rfl (List.Mem.head _) ?_
    obtain ⟨f30, hv⟩ := hv
    refine jg_getr dX10_fill_345 fl_RX10_72 rfl jsn f30 ?_
    refine jg_iload_n dX10_fill_348 rfl (List.Mem.tail _ (List.Mem.tail _ (List.Mem.head _))) ?_
    refine jg_iload dX10_fill_349 (List.Mem.tail _ (List.Mem.tail _ (List.Mem.tail _ (List.Mem.tail _ (List.Mem.tail _ (List.Mem.tail _ (List.Mem.head _))))))) ?_
    refine jg_iadd dX10_fill_351 ?_
    refine jg_iload dX10_fill_352 (List.Mem.tail _ (List.Mem.tail _ (List.Mem.tail _ (List.Mem.tail _ (List.Mem.tail _ (List.Mem.tail _ (List.Mem.tail _ (List.Mem.head _)))))))) ?_
    refine jg_iadd dX10_fill_354 ?_
    refine jg_ldc2 (v := 48) dX10_fill_355 kl_RX10_213 ?_
    refine jg_lload dX10_fill_358 (List.Mem.tail _ (List.Mem.tail _ (List.Mem.tail _ (List.Mem.tail _ (List.Mem.head _))))) ?_
    refine jg_ldc2 (v := 10) dX10_fill_360 kl_RX10_134 ?_
    refine jg_lrem dX10_fill_363 (by decide) ?_
    refine jg_ladd dX10_fill_364 ?_
    refine jg_l2i dX10_fill_365 ?_
    refine jg_i2b dX10_fill_366 ?_
    obtain ⟨f31, hv⟩ := hv
    obtain ⟨f32, hv⟩ := hv
    obtain ⟨f33, hv⟩ := hv
    obtain ⟨h34, e35⟩ : ∃ z : jh, z = jsI h (jd (jr h 538 a0)) (((x2) + (x7)) + (x8) : Int32).toNatClampNeg ((((48) + ((x4) - (x4) / (10) * (10)) : Int64).toInt32 : Int32).toInt8.toInt32 : Int32).toInt8.toInt32 := ⟨_, rfl⟩
    replace hv := hv h34 e35
    refine jp_bast dX10_fill_367 f31 f32 f33 e35 ?_
    refine jg_lload dX10_fill_368 (List.Mem.tail _ (List.Mem.tail _ (List.Mem.tail _ (List.Mem.tail _ (List.Mem.head _))))) ?_
    refine jg_ldc2 (v := 10) dX10_fill_370 kl_RX10_134 ?_
    refine jg_ldiv dX10_fill_373 (by decide) ?_
    refine jg_lstore (lv' := [(4, .inr (.inl ((x4) / (10)))), (0, .inr (.inr (some (a0)))), (1, .inl (x1)), (2, .inl (x2)), (3, .inl (x3)), (6, .inl (x6)), (7, .inl (x7)), (8, .inl (x8))]) dX10_fill_374 (by decide) rfl ?_
    refine jg_iinc (v := (x8) + (-1)) (lv' := [(8, .inl ((x8) + (-1))), (4, .inr (.inl ((x4) / (10)))), (0, .inr (.inr (some (a0)))), (1, .inl (x1)), (2, .inl (x2)), (3, .inl (x3)), (6, .inl (x6)), (7, .inl (x7))]) dX10_fill_376 (List.Mem.tail _ (List.Mem.tail _ (List.Mem.tail _ (List.Mem.tail _ (List.Mem.tail _ (List.Mem.tail _ (List.Mem.tail _ (List.Mem.head _)))))))) rfl (by decide) rfl ?_
    refine jg_goto (tgt := 339) dX10_fill_379 (by decide) ?_
    refine jG.sub (lv' := [(0, .inr (.inr (some (a0)))), (1, .inl (x1)), (2, .inl (x2)), (3, .inl (x3)), (4, .inr (.inl ((x4) / (10)))), (6, .inl (x6)), (7, .inl (x7)), (8, .inl ((x8) + (-1)))]) (by simp) ?_
    exact hv
def VX10_fill_327 (g : jg) (a0 : Nat) (x1 : Int32) (x2 : Int32) (x3 : Int32) (x4 : Int64) (x6 : Int32) (s0 : Int32) (h : jh) (k n : Nat) (Q : jq) : Prop := (jt h a0 = 9) ∧ (¬ (jr h 516 a0) = none) ∧ (jt h (jd (jr h 516 a0)) = 20) ∧ (vp_in (x1) (jn h (jd (jr h 516 a0)))) ∧ jG g mX10_fill 339 [(0, .inr (.inr (some (a0)))), (1, .inl (x1)), (2, .inl (x2)), (3, .inl (x3)), (4, .inr (.inl (x4))), (6, .inl (x6)), (7, .inl (s0)), (8, .inl ((jI h (jd (jr h 516 a0)) (x1 : Int32).toNatClampNeg) - (1)))] [] h k n Q
set_option maxRecDepth 20000 in
theorem vX10_fill_327 {g : jg} {a0 : Nat} {x1 : Int32} {x2 : Int32} {x3 : Int32} {x4 : Int64} {x6 : Int32} {s0 : Int32} {h : jh} {k n : Nat} {Q : jq} (hv : VX10_fill_327 g a0 x1 x2 x3 x4 x6 s0 h k n Q) : jG g mX10_fill 327 [(0, .inr (.inr (some (a0)))), (1, .inl (x1)), (2, .inl (x2)), (3, .inl (x3)), (4, .inr (.inl (x4))), (6, .inl (x6))] [.inl (s0)] h k n Q := by
  unfold VX10_fill_327 at hv
  refine jg_istore (lv' := [(7, .inl (s0)), (0, .inr (.inr (some (a0)))), (1, .inl (x1)), (2, .inl (x2)), (3, .inl (x3)), (4, .inr (.inl (x4))), (6, .inl (x6))]) dX10_fill_327 (by decide) rfl ?_
  refine jg_aload_n dX10_fill_329 rfl (List.Mem.tail _ (List.Mem.head _)) ?_
  obtain ⟨f36, hv⟩ := hv
  refine jg_getr dX10_fill_330 fl_RX10_16 rfl jsn f36 ?_
  refine jg_iload_n dX10_fill_333 rfl (List.Mem.tail _ (List.Mem.tail _ (List.Mem.head _))) ?_
  obtain ⟨f37, hv⟩ := hv
  obtain ⟨f38, hv⟩ := hv
  obtain ⟨f39, hv⟩ := hv
  refine jg_iald dX10_fill_334 f37 f38 f39 ?_
  refine jg_iconst (v := 1) dX10_fill_335 (by decide) ?_
  refine jg_isub dX10_fill_336 ?_
  refine jg_istore (lv' := [(8, .inl ((jI h (jd (jr h 516 a0)) (x1 : Int32).toNatClampNeg) - (1))), (7, .inl (s0)), (0, .inr (.inr (some (a0)))), (1, .inl (x1)), (2, .inl (x2)), (3, .inl (x3)), (4, .inr (.inl (x4))), (6, .inl (x6))]) dX10_fill_337 (by decide) rfl ?_
  refine jG.sub (lv' := [(0, .inr (.inr (some (a0)))), (1, .inl (x1)), (2, .inl (x2)), (3, .inl (x3)), (4, .inr (.inl (x4))), (6, .inl (x6)), (7, .inl (s0)), (8, .inl ((jI h (jd (jr h 516 a0)) (x1 : Int32).toNatClampNeg) - (1)))]) (by simp) ?_
  exact hv
def VX10_fill_246 (g : jg) (a0 : Nat) (x2 : Int32) (x3 : Int32) (x6 : Int32) (x7 : Int32) (x8 : Int32) (s0 : Int64) (h : jh) (k n : Nat) (Q : jq) : Prop := (jt h a0 = 9) ∧ ((¬ ((x7) - (x7) / (2) * (2)) = (1) → (¬ (jr h 538 a0) = none) ∧ (jt h (jd (jr h 538 a0)) = 21) ∧ (vp_in ((x2) + ((x7) / (2))) (jn h (jd (jr h 538 a0)))) ∧ ∀ h45 : jh, h45 = jsI h (jd (jr h 538 a0)) ((x2) + ((x7) / (2)) : Int32).toNatClampNeg ((((jI h (jd (jr h 538 a0)) ((x2) + ((x7) / (2)) : Int32).toNatClampNeg) &&& (15)) ||| ((x8) <<< ((4 : Int32) &&& 31)) : Int32).toInt8.toInt32 : Int32).toInt8.toInt32 → jG g mX10_fill 186 [(0, .inr (.inr (some (a0)))), (2, .inl (x2)), (3, .inl (x3)), (4, .inr (.inl (s0))), (6, .inl (x6)), (7, .inl ((x7) + (-1)))] [] h45 k n Q) ∧ (((x7) - (x7) / (2) * (2)) = (1) → (¬ (jr h 538 a0) = none) ∧ (jt h (jd (jr h 538 a0)) = 21) ∧ (vp_in ((x2) + ((x7) / (2))) (jn h (jd (jr h 538 a0)))) ∧ ∀ h50 : jh, h50 = jsI h (jd (jr h 538 a0)) ((x2) + ((x7) / (2)) : Int32).toNatClampNeg ((x8 : Int32).toInt8.toInt32 : Int32).toInt8.toInt32 → jG g mX10_fill 186 [(0, .inr (.inr (some (a0)))), (2, .inl (x2)), (3, .inl (x3)), (4, .inr (.inl (s0))), (6, .inl (x6)), (7, .inl ((x7) + (-1)))] [] h50 k n Q))
set_option maxRecDepth 20000 in
theorem vX10_fill_246 {g : jg} {a0 : Nat} {x2 : Int32} {x3 : Int32} {x6 : Int32} {x7 : Int32} {x8 : Int32} {s0 : Int64} {h : jh} {k n : Nat} {Q : jq} (hv : VX10_fill_246 g a0 x2 x3 x6 x7 x8 s0 h k n Q) : jG g mX10_fill 246 [(0, .inr (.inr (some (a0)))), (2, .inl (x2)), (3, .inl (x3)), (6, .inl (x6)), (7, .inl (x7)), (8, .inl (x8))] [.inr (.inl (s0))] h k n Q := by
  unfold VX10_fill_246 at hv
  refine jg_lstore (lv' := [(4, .inr (.inl (s0))), (0, .inr (.inr (some (a0)))), (2, .inl (x2)), (3, .inl (x3)), (6, .inl (x6)), (7, .inl (x7)), (8, .inl (x8))]) dX10_fill_246 (by decide) rfl ?_
  refine jg_aload_n dX10_fill_248 rfl (List.Mem.tail _ (List.Mem.head _)) ?_
  obtain ⟨f40, hv⟩ := hv
  refine jg_getr dX10_fill_249 fl_RX10_72 rfl jsn f40 ?_
  refine jg_iload_n dX10_fill_252 rfl (List.Mem.tail _ (List.Mem.tail _ (List.Mem.head _))) ?_
  refine jg_iload dX10_fill_253 (List.Mem.tail _ (List.Mem.tail _ (List.Mem.tail _ (List.Mem.tail _ (List.Mem.tail _ (List.Mem.head _)))))) ?_
  refine jg_iconst (v := 2) dX10_fill_255 (by decide) ?_
  refine jg_idiv dX10_fill_256 (by decide) ?_
  refine jg_iadd dX10_fill_257 ?_
  refine jg_iload dX10_fill_258 (List.Mem.tail _ (List.Mem.tail _ (List.Mem.tail _ (List.Mem.tail _ (List.Mem.tail _ (List.Mem.head _)))))) ?_
  refine jg_iconst (v := 2) dX10_fill_260 (by decide) ?_
  refine jg_irem dX10_fill_261 (by decide) ?_
  refine jg_iconst (v := 1) dX10_fill_262 (by decide) ?_
  refine jg_icmp_ne (tgt := 271) dX10_fill_263 (by decide) (fun c41 => ?_) (fun c41 => ?_)
  · replace hv := hv.1 c41
    refine jg_aload_n dX10_fill_271 rfl (List.Mem.tail _ (List.Mem.head _)) ?_
    refine jg_getr dX10_fill_272 fl_RX10_72 rfl jsn f40 ?_
    refine jg_iload_n dX10_fill_275 rfl (List.Mem.tail _ (List.Mem.tail _ (List.Mem.head _))) ?_
    refine jg_iload dX10_fill_276 (List.Mem.tail _ (List.Mem.tail _ (List.Mem.tail _ (List.Mem.tail _ (List.Mem.tail _ (List.Mem.head _)))))) ?_
    refine jg_iconst (v := 2) dX10_fill_278 (by decide) ?_
    refine jg_idiv dX10_fill_279 (by decide) ?_
    refine jg_iadd dX10_fill_280 ?_
    obtain ⟨f42, hv⟩ := hv
    obtain ⟨f43, hv⟩ := hv
    obtain ⟨f44, hv⟩ := hv
    refine jg_bald dX10_fill_281 f42 f43 f44 ?_
    refine jg_bipush (v := 15) dX10_fill_282 (by decide) ?_
    refine jg_iand dX10_fill_284 ?_
    refine jg_iload dX10_fill_285 (List.Mem.tail _ (List.Mem.tail _ (List.Mem.tail _ (List.Mem.tail _ (List.Mem.tail _ (List.Mem.tail _ (List.Mem.head _))))))) ?_
    refine jg_iconst (v := 4) dX10_fill_287 (by decide) ?_
    refine jg_ishl dX10_fill_288 ?_
    refine jg_ior dX10_fill_289 ?_
    refine jg_i2b dX10_fill_290 ?_
    obtain ⟨h45, e46⟩ : ∃ z : jh, z = jsI h (jd (jr h 538 a0)) ((x2) + ((x7) / (2)) : Int32).toNatClampNeg ((((jI h (jd (jr h 538 a0)) ((x2) + ((x7) / (2)) : Int32).toNatClampNeg) &&& (15)) ||| ((x8) <<< ((4 : Int32) &&& 31)) : Int32).toInt8.toInt32 : Int32).toInt8.toInt32 := ⟨_, rfl⟩
    replace hv := hv h45 e46
    refine jp_bast dX10_fill_291 f42 f43 f44 e46 ?_
    refine jg_iinc (v := (x7) + (-1)) (lv' := [(7, .inl ((x7) + (-1))), (4, .inr (.inl (s0))), (0, .inr (.inr (some (a0)))), (2, .inl (x2)), (3, .inl (x3)), (6, .inl (x6)), (8, .inl (x8))]) dX10_fill_292 (List.Mem.tail _ (List.Mem.tail _ (List.Mem.tail _ (List.Mem.tail _ (List.Mem.tail _ (List.Mem.head _)))))) rfl (by decide) rfl ?_
    refine jg_goto (tgt := 186) dX10_fill_295 (by decide) ?_
    refine jG.sub (lv' := [(0, .inr (.inr (some (a0)))), (2, .inl (x2)), (3, .inl (x3)), (4, .inr (.inl (s0))), (6, .inl (x6)), (7, .inl ((x7) + (-1)))]) (by simp) ?_
    exact hv
  · replace hv := hv.2 c41
    refine jg_iload dX10_fill_266 (List.Mem.tail _ (List.Mem.tail _ (List.Mem.tail _ (List.Mem.tail _ (List.Mem.tail _ (List.Mem.tail _ (List.Mem.head _))))))) ?_
    refine jg_goto (tgt := 290) dX10_fill_268 (by decide) ?_
    refine jg_i2b dX10_fill_290 ?_
    obtain ⟨f47, hv⟩ := hv
    obtain ⟨f48, hv⟩ := hv
    obtain ⟨f49, hv⟩ := hv
    obtain ⟨h50, e51⟩ : ∃ z : jh, z = jsI h (jd (jr h 538 a0)) ((x2) + ((x7) / (2)) : Int32).toNatClampNeg ((x8 : Int32).toInt8.toInt32 : Int32).toInt8.toInt32 := ⟨_, rfl⟩
    replace hv := hv h50 e51
    refine jp_bast dX10_fill_291 f47 f48 f49 e51 ?_
    refine jg_iinc (v := (x7) + (-1)) (lv' := [(7, .inl ((x7) + (-1))), (4, .inr (.inl (s0))), (0, .inr (.inr (some (a0)))), (2, .inl (x2)), (3, .inl (x3)), (6, .inl (x6)), (8, .inl (x8))]) dX10_fill_292 (List.Mem.tail _ (List.Mem.tail _ (List.Mem.tail _ (List.Mem.tail _ (List.Mem.tail _ (List.Mem.head _)))))) rfl (by decide) rfl ?_
    refine jg_goto (tgt := 186) dX10_fill_295 (by decide) ?_
    refine jG.sub (lv' := [(0, .inr (.inr (some (a0)))), (2, .inl (x2)), (3, .inl (x3)), (4, .inr (.inl (s0))), (6, .inl (x6)), (7, .inl ((x7) + (-1)))]) (by simp) ?_
    exact hv
def VX10_fill_223 (g : jg) (a0 : Nat) (x2 : Int32) (x3 : Int32) (x4 : Int64) (x6 : Int32) (x7 : Int32) (s0 : Int32) (h : jh) (k n : Nat) (Q : jq) : Prop := ((¬ (x7) = (((2) * (x3)) - (1)) → VX10_fill_246 g (a0) (x2) (x3) (x6) (x7) (s0) ((x4) / (10)) h k n Q) ∧ ((x7) = (((2) * (x3)) - (1)) → VX10_fill_246 g (a0) (x2) (x3) (x6) (x7) (s0) (x4) h k n Q))
set_option maxRecDepth 20000 in
theorem vX10_fill_223 {g : jg} {a0 : Nat} {x2 : Int32} {x3 : Int32} {x4 : Int64} {x6 : Int32} {x7 : Int32} {s0 : Int32} {h : jh} {k n : Nat} {Q : jq} (hv : VX10_fill_223 g a0 x2 x3 x4 x6 x7 s0 h k n Q) : jG g mX10_fill 223 [(0, .inr (.inr (some (a0)))), (2, .inl (x2)), (3, .inl (x3)), (4, .inr (.inl (x4))), (6, .inl (x6)), (7, .inl (x7))] [.inl (s0)] h k n Q := by
  unfold VX10_fill_223 at hv
  refine jg_istore (lv' := [(8, .inl (s0)), (0, .inr (.inr (some (a0)))), (2, .inl (x2)), (3, .inl (x3)), (4, .inr (.inl (x4))), (6, .inl (x6)), (7, .inl (x7))]) dX10_fill_223 (by decide) rfl ?_
  refine jg_iload dX10_fill_225 (List.Mem.tail _ (List.Mem.tail _ (List.Mem.tail _ (List.Mem.tail _ (List.Mem.tail _ (List.Mem.tail _ (List.Mem.head _))))))) ?_
  refine jg_iconst (v := 2) dX10_fill_227 (by decide) ?_
  refine jg_iload_n dX10_fill_228 rfl (List.Mem.tail _ (List.Mem.tail _ (List.Mem.tail _ (List.Mem.head _)))) ?_
  refine jg_imul dX10_fill_229 ?_
  refine jg_iconst (v := 1) dX10_fill_230 (by decide) ?_
  refine jg_isub dX10_fill_231 ?_
  refine jg_icmp_ne (tgt := 240) dX10_fill_232 (by decide) (fun c52 => ?_) (fun c52 => ?_)
  · replace hv := hv.1 c52
    refine jg_lload dX10_fill_240 (List.Mem.tail _ (List.Mem.tail _ (List.Mem.tail _ (List.Mem.tail _ (List.Mem.head _))))) ?_
    refine jg_ldc2 (v := 10) dX10_fill_242 kl_RX10_134 ?_
    refine jg_ldiv dX10_fill_245 (by decide) ?_
    refine jG.sub (lv' := [(0, .inr (.inr (some (a0)))), (2, .inl (x2)), (3, .inl (x3)), (6, .inl (x6)), (7, .inl (x7)), (8, .inl (s0))]) (by simp) ?_
    exact vX10_fill_246 hv
  · replace hv := hv.2 c52
    refine jg_lload dX10_fill_235 (List.Mem.tail _ (List.Mem.tail _ (List.Mem.tail _ (List.Mem.tail _ (List.Mem.head _))))) ?_
    refine jg_goto (tgt := 246) dX10_fill_237 (by decide) ?_
    refine jG.sub (lv' := [(0, .inr (.inr (some (a0)))), (2, .inl (x2)), (3, .inl (x3)), (6, .inl (x6)), (7, .inl (x7)), (8, .inl (s0))]) (by simp) ?_
    exact vX10_fill_246 hv
def VX10_fill_186 (g : jg) (a0 : Nat) (x2 : Int32) (x3 : Int32) (x4 : Int64) (x6 : Int32) (x7 : Int32) (h : jh) (k n : Nat) (Q : jq) : Prop := (((x7) < 0 → Q (.inl none) h) ∧ (¬ (x7) < 0 → ((¬ (x7) = (((2) * (x3)) - (1)) → VX10_fill_223 g (a0) (x2) (x3) (x4) (x6) (x7) (((x4) - (x4) / (10) * (10) : Int64).toInt32) h k n Q) ∧ ((x7) = (((2) * (x3)) - (1)) → (((x6) = 0 → VX10_fill_223 g (a0) (x2) (x3) (x4) (x6) (x7) (12) h k n Q) ∧ (¬ (x6) = 0 → VX10_fill_223 g (a0) (x2) (x3) (x4) (x6) (x7) (13) h k n Q))))))
set_option maxRecDepth 20000 in
theorem vX10_fill_186 {g : jg} {a0 : Nat} {x2 : Int32} {x3 : Int32} {x4 : Int64} {x6 : Int32} {x7 : Int32} {h : jh} {k n : Nat} {Q : jq} (hv : VX10_fill_186 g a0 x2 x3 x4 x6 x7 h k n Q) : jG g mX10_fill 186 [(0, .inr (.inr (some (a0)))), (2, .inl (x2)), (3, .inl (x3)), (4, .inr (.inl (x4))), (6, .inl (x6)), (7, .inl (x7))] [] h k n Q := by
  unfold VX10_fill_186 at hv
  refine jg_iload dX10_fill_186 (List.Mem.tail _ (List.Mem.tail _ (List.Mem.tail _ (List.Mem.tail _ (List.Mem.tail _ (List.Mem.head _)))))) ?_
  refine jg_if_lt (tgt := 298) dX10_fill_188 (by decide) (fun c53 => ?_) (fun c53 => ?_)
  · replace hv := hv.1 c53
    refine jg_goto (tgt := 474) dX10_fill_298 (by decide) ?_
    exact jg_vret dX10_fill_474 rfl hv
  · replace hv := hv.2 c53
    refine jg_iload dX10_fill_191 (List.Mem.tail _ (List.Mem.tail _ (List.Mem.tail _ (List.Mem.tail _ (List.Mem.tail _ (List.Mem.head _)))))) ?_
    refine jg_iconst (v := 2) dX10_fill_193 (by decide) ?_
    refine jg_iload_n dX10_fill_194 rfl (List.Mem.tail _ (List.Mem.tail _ (List.Mem.head _))) ?_
    refine jg_imul dX10_fill_195 ?_
    refine jg_iconst (v := 1) dX10_fill_196 (by decide) ?_
    refine jg_isub dX10_fill_197 ?_
    refine jg_icmp_ne (tgt := 216) dX10_fill_198 (by decide) (fun c54 => ?_) (fun c54 => ?_)
    · replace hv := hv.1 c54
      refine jg_lload dX10_fill_216 (List.Mem.tail _ (List.Mem.tail _ (List.Mem.tail _ (List.Mem.head _)))) ?_
      refine jg_ldc2 (v := 10) dX10_fill_218 kl_RX10_134 ?_
      refine jg_lrem dX10_fill_221 (by decide) ?_
      refine jg_l2i dX10_fill_222 ?_
      exact vX10_fill_223 hv
    · replace hv := hv.2 c54
      refine jg_iload dX10_fill_201 (List.Mem.tail _ (List.Mem.tail _ (List.Mem.tail _ (List.Mem.tail _ (List.Mem.head _))))) ?_
      refine jg_if_eq (tgt := 211) dX10_fill_203 (by decide) (fun c55 => ?_) (fun c55 => ?_)
      · replace hv := hv.1 c55
        refine jg_bipush (v := 12) dX10_fill_211 (by decide) ?_
        refine jg_goto (tgt := 223) dX10_fill_213 (by decide) ?_
        exact vX10_fill_223 hv
      · replace hv := hv.2 c55
        refine jg_bipush (v := 13) dX10_fill_206 (by decide) ?_
        refine jg_goto (tgt := 223) dX10_fill_208 (by decide) ?_
        exact vX10_fill_223 hv
def VX10_fill_120 (g : jg) (a0 : Nat) (x1 : Int32) (x2 : Int32) (x3 : Int32) (x7 : Int32) (h : jh) (k n : Nat) (Q : jq) : Prop := (((x3) ≤ (x7) → Q (.inl none) h) ∧ (¬ (x3) ≤ (x7) → (jt h a0 = 9) ∧ (¬ (jr h 515 a0) = none) ∧ (jt h (jd (jr h 515 a0)) = 20) ∧ (vp_in (x1) (jn h (jd (jr h 515 a0)))) ∧ ((¬ (jI h (jd (jr h 515 a0)) (x1 : Int32).toNatClampNeg) = (2) → (¬ (jr h 538 a0) = none) ∧ (jt h (jd (jr h 538 a0)) = 21) ∧ (vp_in ((x2) + (x7)) (jn h (jd (jr h 538 a0)))) ∧ ∀ h65 : jh, h65 = jsI h (jd (jr h 538 a0)) ((x2) + (x7) : Int32).toNatClampNeg ((32 : Int32).toInt8.toInt32 : Int32).toInt8.toInt32 → jG g mX10_fill 120 [(0, .inr (.inr (some (a0)))), (1, .inl (x1)), (2, .inl (x2)), (3, .inl (x3)), (7, .inl ((x7) + 1))] [] h65 k n Q) ∧ ((jI h (jd (jr h 515 a0)) (x1 : Int32).toNatClampNeg) = (2) → ((¬ ((x7) - (x7) / (2) * (2)) = 0 → (¬ (jr h 538 a0) = none) ∧ (jt h (jd (jr h 538 a0)) = 21) ∧ (vp_in ((x2) + (x7)) (jn h (jd (jr h 538 a0)))) ∧ ∀ h71 : jh, h71 = jsI h (jd (jr h 538 a0)) ((x2) + (x7) : Int32).toNatClampNeg ((32 : Int32).toInt8.toInt32 : Int32).toInt8.toInt32 → jG g mX10_fill 120 [(0, .inr (.inr (some (a0)))), (1, .inl (x1)), (2, .inl (x2)), (3, .inl (x3)), (7, .inl ((x7) + 1))] [] h71 k n Q) ∧ (((x7) - (x7) / (2) * (2)) = 0 → (¬ (jr h 538 a0) = none) ∧ (jt h (jd (jr h 538 a0)) = 21) ∧ (vp_in ((x2) + (x7)) (jn h (jd (jr h 538 a0)))) ∧ ∀ h76 : jh, h76 = jsI h (jd (jr h 538 a0)) ((x2) + (x7) : Int32).toNatClampNeg ((0 : Int32).toInt8.toInt32 : Int32).toInt8.toInt32 → jG g mX10_fill 120 [(0, .inr (.inr (some (a0)))), (1, .inl (x1)), (2, .inl (x2)), (3, .inl (x3)), (7, .inl ((x7) + 1))] [] h76 k n Q))))))
set_option maxRecDepth 20000 in
theorem vX10_fill_120 {g : jg} {a0 : Nat} {x1 : Int32} {x2 : Int32} {x3 : Int32} {x7 : Int32} {h : jh} {k n : Nat} {Q : jq} (hv : VX10_fill_120 g a0 x1 x2 x3 x7 h k n Q) : jG g mX10_fill 120 [(0, .inr (.inr (some (a0)))), (1, .inl (x1)), (2, .inl (x2)), (3, .inl (x3)), (7, .inl (x7))] [] h k n Q := by
  unfold VX10_fill_120 at hv
  refine jg_iload dX10_fill_120 (List.Mem.tail _ (List.Mem.tail _ (List.Mem.tail _ (List.Mem.tail _ (List.Mem.head _))))) ?_
  refine jg_iload_n dX10_fill_122 rfl (List.Mem.tail _ (List.Mem.tail _ (List.Mem.tail _ (List.Mem.head _)))) ?_
  refine jg_icmp_ge (tgt := 165) dX10_fill_123 (by decide) (fun c56 => ?_) (fun c56 => ?_)
  · replace hv := hv.1 c56
    refine jg_goto (tgt := 474) dX10_fill_165 (by decide) ?_
    exact jg_vret dX10_fill_474 rfl hv
  · replace hv := hv.2 c56
    refine jg_aload_n dX10_fill_126 rfl (List.Mem.head _) ?_
    obtain ⟨f57, hv⟩ := hv
    refine jg_getr dX10_fill_127 fl_RX10_72 rfl jsn f57 ?_
    refine jg_iload_n dX10_fill_130 rfl (List.Mem.tail _ (List.Mem.tail _ (List.Mem.head _))) ?_
    refine jg_iload dX10_fill_131 (List.Mem.tail _ (List.Mem.tail _ (List.Mem.tail _ (List.Mem.tail _ (List.Mem.head _))))) ?_
    refine jg_iadd dX10_fill_133 ?_
    refine jg_aload_n dX10_fill_134 rfl (List.Mem.head _) ?_
    refine jg_getr dX10_fill_135 fl_RX10_13 rfl jsn f57 ?_
    refine jg_iload_n dX10_fill_138 rfl (List.Mem.tail _ (List.Mem.head _)) ?_
    obtain ⟨f58, hv⟩ := hv
    obtain ⟨f59, hv⟩ := hv
    obtain ⟨f60, hv⟩ := hv
    refine jg_iald dX10_fill_139 f58 f59 f60 ?_
    refine jg_iconst (v := 2) dX10_fill_140 (by decide) ?_
    refine jg_icmp_ne (tgt := 155) dX10_fill_141 (by decide) (fun c61 => ?_) (fun c61 => ?_)
    · replace hv := hv.1 c61
      refine jg_bipush (v := 32) dX10_fill_155 (by decide) ?_
      refine jg_i2b dX10_fill_157 ?_
      obtain ⟨f62, hv⟩ := hv
      obtain ⟨f63, hv⟩ := hv
      obtain ⟨f64, hv⟩ := hv
      obtain ⟨h65, e66⟩ : ∃ z : jh, z = jsI h (jd (jr h 538 a0)) ((x2) + (x7) : Int32).toNatClampNeg ((32 : Int32).toInt8.toInt32 : Int32).toInt8.toInt32 := ⟨_, rfl⟩
      replace hv := hv h65 e66
      refine jp_bast dX10_fill_158 f62 f63 f64 e66 ?_
      refine jg_iinc (v := (x7) + 1) (lv' := [(7, .inl ((x7) + 1)), (0, .inr (.inr (some (a0)))), (1, .inl (x1)), (2, .inl (x2)), (3, .inl (x3))]) dX10_fill_159 (List.Mem.tail _ (List.Mem.tail _ (List.Mem.tail _ (List.Mem.tail _ (List.Mem.head _))))) rfl (by decide) rfl ?_
      refine jg_goto (tgt := 120) dX10_fill_162 (by decide) ?_
      refine jG.sub (lv' := [(0, .inr (.inr (some (a0)))), (1, .inl (x1)), (2, .inl (x2)), (3, .inl (x3)), (7, .inl ((x7) + 1))]) (by simp) ?_
      exact hv
    · replace hv := hv.2 c61
      refine jg_iload dX10_fill_144 (List.Mem.tail _ (List.Mem.tail _ (List.Mem.tail _ (List.Mem.tail _ (List.Mem.head _))))) ?_
      refine jg_iconst (v := 2) dX10_fill_146 (by decide) ?_
      refine jg_irem dX10_fill_147 (by decide) ?_
      refine jg_if_ne (tgt := 155) dX10_fill_148 (by decide) (fun c67 => ?_) (fun c67 => ?_)
      · replace hv := hv.1 c67
        refine jg_bipush (v := 32) dX10_fill_155 (by decide) ?_
        refine jg_i2b dX10_fill_157 ?_
        obtain ⟨f68, hv⟩ := hv
        obtain ⟨f69, hv⟩ := hv
        obtain ⟨f70, hv⟩ := hv
        obtain ⟨h71, e72⟩ : ∃ z : jh, z = jsI h (jd (jr h 538 a0)) ((x2) + (x7) : Int32).toNatClampNeg ((32 : Int32).toInt8.toInt32 : Int32).toInt8.toInt32 := ⟨_, rfl⟩
        replace hv := hv h71 e72
        refine jp_bast dX10_fill_158 f68 f69 f70 e72 ?_
        refine jg_iinc (v := (x7) + 1) (lv' := [(7, .inl ((x7) + 1)), (0, .inr (.inr (some (a0)))), (1, .inl (x1)), (2, .inl (x2)), (3, .inl (x3))]) dX10_fill_159 (List.Mem.tail _ (List.Mem.tail _ (List.Mem.tail _ (List.Mem.tail _ (List.Mem.head _))))) rfl (by decide) rfl ?_
        refine jg_goto (tgt := 120) dX10_fill_162 (by decide) ?_
        refine jG.sub (lv' := [(0, .inr (.inr (some (a0)))), (1, .inl (x1)), (2, .inl (x2)), (3, .inl (x3)), (7, .inl ((x7) + 1))]) (by simp) ?_
        exact hv
      · replace hv := hv.2 c67
        refine jg_iconst (v := 0) dX10_fill_151 (by decide) ?_
        refine jg_goto (tgt := 157) dX10_fill_152 (by decide) ?_
        refine jg_i2b dX10_fill_157 ?_
        obtain ⟨f73, hv⟩ := hv
        obtain ⟨f74, hv⟩ := hv
        obtain ⟨f75, hv⟩ := hv
        obtain ⟨h76, e77⟩ : ∃ z : jh, z = jsI h (jd (jr h 538 a0)) ((x2) + (x7) : Int32).toNatClampNeg ((0 : Int32).toInt8.toInt32 : Int32).toInt8.toInt32 := ⟨_, rfl⟩
        replace hv := hv h76 e77
        refine jp_bast dX10_fill_158 f73 f74 f75 e77 ?_
        refine jg_iinc (v := (x7) + 1) (lv' := [(7, .inl ((x7) + 1)), (0, .inr (.inr (some (a0)))), (1, .inl (x1)), (2, .inl (x2)), (3, .inl (x3))]) dX10_fill_159 (List.Mem.tail _ (List.Mem.tail _ (List.Mem.tail _ (List.Mem.tail _ (List.Mem.head _))))) rfl (by decide) rfl ?_
        refine jg_goto (tgt := 120) dX10_fill_162 (by decide) ?_
        refine jG.sub (lv' := [(0, .inr (.inr (some (a0)))), (1, .inl (x1)), (2, .inl (x2)), (3, .inl (x3)), (7, .inl ((x7) + 1))]) (by simp) ?_
        exact hv
def VX10_fill_105 (g : jg) (a0 : Nat) (x1 : Int32) (x2 : Int32) (x3 : Int32) (x6 : Int32) (s0 : Int64) (h : jh) (k n : Nat) (Q : jq) : Prop := (jt h a0 = 9) ∧ (¬ (jr h 515 a0) = none) ∧ (jt h (jd (jr h 515 a0)) = 20) ∧ (vp_in (x1) (jn h (jd (jr h 515 a0)))) ∧ (((3 : Int32) ≤ (jI h (jd (jr h 515 a0)) (x1 : Int32).toNatClampNeg) → ((¬ (jI h (jd (jr h 515 a0)) (x1 : Int32).toNatClampNeg) = (7) → (((7 : Int32) ≤ (jI h (jd (jr h 515 a0)) (x1 : Int32).toNatClampNeg) → Q (.inl none) h) ∧ (¬ (7 : Int32) ≤ (jI h (jd (jr h 515 a0)) (x1 : Int32).toNatClampNeg) → ((¬ (jI h (jd (jr h 515 a0)) (x1 : Int32).toNatClampNeg) = (5) → VX10_fill_327 g (a0) (x1) (x2) (x3) (s0) (x6) (0) h k n Q) ∧ ((jI h (jd (jr h 515 a0)) (x1 : Int32).toNatClampNeg) = (5) → VX10_fill_327 g (a0) (x1) (x2) (x3) (s0) (x6) (1) h k n Q))))) ∧ ((jI h (jd (jr h 515 a0)) (x1 : Int32).toNatClampNeg) = (7) → jG g mX10_fill 186 [(0, .inr (.inr (some (a0)))), (2, .inl (x2)), (3, .inl (x3)), (4, .inr (.inl (s0))), (6, .inl (x6)), (7, .inl (((2) * (x3)) - (1)))] [] h k n Q))) ∧ (¬ (3 : Int32) ≤ (jI h (jd (jr h 515 a0)) (x1 : Int32).toNatClampNeg) → jG g mX10_fill 120 [(0, .inr (.inr (some (a0)))), (1, .inl (x1)), (2, .inl (x2)), (3, .inl (x3)), (7, .inl (0))] [] h k n Q))
set_option maxRecDepth 20000 in
theorem vX10_fill_105 {g : jg} {a0 : Nat} {x1 : Int32} {x2 : Int32} {x3 : Int32} {x6 : Int32} {s0 : Int64} {h : jh} {k n : Nat} {Q : jq} (hv : VX10_fill_105 g a0 x1 x2 x3 x6 s0 h k n Q) : jG g mX10_fill 105 [(0, .inr (.inr (some (a0)))), (1, .inl (x1)), (2, .inl (x2)), (3, .inl (x3)), (6, .inl (x6))] [.inr (.inl (s0))] h k n Q := by
  unfold VX10_fill_105 at hv
  refine jg_lstore (lv' := [(4, .inr (.inl (s0))), (0, .inr (.inr (some (a0)))), (1, .inl (x1)), (2, .inl (x2)), (3, .inl (x3)), (6, .inl (x6))]) dX10_fill_105 (by decide) rfl ?_
  refine jg_aload_n dX10_fill_107 rfl (List.Mem.tail _ (List.Mem.head _)) ?_
  obtain ⟨f78, hv⟩ := hv
  refine jg_getr dX10_fill_108 fl_RX10_13 rfl jsn f78 ?_
  refine jg_iload_n dX10_fill_111 rfl (List.Mem.tail _ (List.Mem.tail _ (List.Mem.head _))) ?_
  obtain ⟨f79, hv⟩ := hv
  obtain ⟨f80, hv⟩ := hv
  obtain ⟨f81, hv⟩ := hv
  refine jg_iald dX10_fill_112 f79 f80 f81 ?_
  refine jg_iconst (v := 3) dX10_fill_113 (by decide) ?_
  refine jg_icmp_ge (tgt := 168) dX10_fill_114 (by decide) (fun c82 => ?_) (fun c82 => ?_)
  · replace hv := hv.1 c82
    refine jg_aload_n dX10_fill_168 rfl (List.Mem.tail _ (List.Mem.head _)) ?_
    refine jg_getr dX10_fill_169 fl_RX10_13 rfl jsn f78 ?_
    refine jg_iload_n dX10_fill_172 rfl (List.Mem.tail _ (List.Mem.tail _ (List.Mem.head _))) ?_
    refine jg_iald dX10_fill_173 f79 f80 f81 ?_
    refine jg_bipush (v := 7) dX10_fill_174 (by decide) ?_
    refine jg_icmp_ne (tgt := 301) dX10_fill_176 (by decide) (fun c83 => ?_) (fun c83 => ?_)
    · replace hv := hv.1 c83
      refine jg_aload_n dX10_fill_301 rfl (List.Mem.tail _ (List.Mem.head _)) ?_
      refine jg_getr dX10_fill_302 fl_RX10_13 rfl jsn f78 ?_
      refine jg_iload_n dX10_fill_305 rfl (List.Mem.tail _ (List.Mem.tail _ (List.Mem.head _))) ?_
      refine jg_iald dX10_fill_306 f79 f80 f81 ?_
      refine jg_bipush (v := 7) dX10_fill_307 (by decide) ?_
      refine jg_icmp_ge (tgt := 474) dX10_fill_309 (by decide) (fun c84 => ?_) (fun c84 => ?_)
      · replace hv := hv.1 c84
        exact jg_vret dX10_fill_474 rfl hv
      · replace hv := hv.2 c84
        refine jg_aload_n dX10_fill_312 rfl (List.Mem.tail _ (List.Mem.head _)) ?_
        refine jg_getr dX10_fill_313 fl_RX10_13 rfl jsn f78 ?_
        refine jg_iload_n dX10_fill_316 rfl (List.Mem.tail _ (List.Mem.tail _ (List.Mem.head _))) ?_
        refine jg_iald dX10_fill_317 f79 f80 f81 ?_
        refine jg_iconst (v := 5) dX10_fill_318 (by decide) ?_
        refine jg_icmp_ne (tgt := 326) dX10_fill_319 (by decide) (fun c85 => ?_) (fun c85 => ?_)
        · replace hv := hv.1 c85
          refine jg_iconst (v := 0) dX10_fill_326 (by decide) ?_
          refine jG.sub (lv' := [(0, .inr (.inr (some (a0)))), (1, .inl (x1)), (2, .inl (x2)), (3, .inl (x3)), (4, .inr (.inl (s0))), (6, .inl (x6))]) (by simp) ?_
          exact vX10_fill_327 hv
        · replace hv := hv.2 c85
          refine jg_iconst (v := 1) dX10_fill_322 (by decide) ?_
          refine jg_goto (tgt := 327) dX10_fill_323 (by decide) ?_
          refine jG.sub (lv' := [(0, .inr (.inr (some (a0)))), (1, .inl (x1)), (2, .inl (x2)), (3, .inl (x3)), (4, .inr (.inl (s0))), (6, .inl (x6))]) (by simp) ?_
          exact vX10_fill_327 hv
    · replace hv := hv.2 c83
      refine jg_iconst (v := 2) dX10_fill_179 (by decide) ?_
      refine jg_iload_n dX10_fill_180 rfl (List.Mem.tail _ (List.Mem.tail _ (List.Mem.tail _ (List.Mem.tail _ (List.Mem.head _))))) ?_
      refine jg_imul dX10_fill_181 ?_
      refine jg_iconst (v := 1) dX10_fill_182 (by decide) ?_
      refine jg_isub dX10_fill_183 ?_
      refine jg_istore (lv' := [(7, .inl (((2) * (x3)) - (1))), (4, .inr (.inl (s0))), (0, .inr (.inr (some (a0)))), (1, .inl (x1)), (2, .inl (x2)), (3, .inl (x3)), (6, .inl (x6))]) dX10_fill_184 (by decide) rfl ?_
      refine jG.sub (lv' := [(0, .inr (.inr (some (a0)))), (2, .inl (x2)), (3, .inl (x3)), (4, .inr (.inl (s0))), (6, .inl (x6)), (7, .inl (((2) * (x3)) - (1)))]) (by simp) ?_
      exact hv
  · replace hv := hv.2 c82
    refine jg_iconst (v := 0) dX10_fill_117 (by decide) ?_
    refine jg_istore (lv' := [(7, .inl (0)), (4, .inr (.inl (s0))), (0, .inr (.inr (some (a0)))), (1, .inl (x1)), (2, .inl (x2)), (3, .inl (x3)), (6, .inl (x6))]) dX10_fill_118 (by decide) rfl ?_
    refine jG.sub (lv' := [(0, .inr (.inr (some (a0)))), (1, .inl (x1)), (2, .inl (x2)), (3, .inl (x3)), (7, .inl (0))]) (by simp) ?_
    exact hv
def VX10_fill_60 (g : jg) (a0 : Nat) (x2 : Int32) (x4 : Int64) (x7 : Int32) (h : jh) (k n : Nat) (Q : jq) : Prop := (((x7) < 0 → Q (.inl none) h) ∧ (¬ (x7) < 0 → (jt h a0 = 9) ∧ (¬ (jr h 538 a0) = none) ∧ (jt h (jd (jr h 538 a0)) = 21) ∧ (vp_in ((x2) + (x7)) (jn h (jd (jr h 538 a0)))) ∧ ∀ h91 : jh, h91 = jsI h (jd (jr h 538 a0)) ((x2) + (x7) : Int32).toNatClampNeg (((x4 : Int64).toInt32 : Int32).toInt8.toInt32 : Int32).toInt8.toInt32 → jG g mX10_fill 60 [(0, .inr (.inr (some (a0)))), (2, .inl (x2)), (4, .inr (.inl ((x4) >>> ((8 : Int32).toInt64 &&& 63)))), (7, .inl ((x7) + (-1)))] [] h91 k n Q))
set_option maxRecDepth 20000 in
theorem vX10_fill_60 {g : jg} {a0 : Nat} {x2 : Int32} {x4 : Int64} {x7 : Int32} {h : jh} {k n : Nat} {Q : jq} (hv : VX10_fill_60 g a0 x2 x4 x7 h k n Q) : jG g mX10_fill 60 [(0, .inr (.inr (some (a0)))), (2, .inl (x2)), (4, .inr (.inl (x4))), (7, .inl (x7))] [] h k n Q := by
  unfold VX10_fill_60 at hv
  refine jg_iload dX10_fill_60 (List.Mem.tail _ (List.Mem.tail _ (List.Mem.tail _ (List.Mem.head _)))) ?_
  refine jg_if_lt (tgt := 91) dX10_fill_62 (by decide) (fun c86 => ?_) (fun c86 => ?_)
  · replace hv := hv.1 c86
    exact jg_vret dX10_fill_91 rfl hv
  · replace hv := hv.2 c86
    refine jg_aload_n dX10_fill_65 rfl (List.Mem.head _) ?_
    obtain ⟨f87, hv⟩ := hv
    refine jg_getr dX10_fill_66 fl_RX10_72 rfl jsn f87 ?_
    refine jg_iload_n dX10_fill_69 rfl (List.Mem.tail _ (List.Mem.head _)) ?_
    refine jg_iload dX10_fill_70 (List.Mem.tail _ (List.Mem.tail _ (List.Mem.tail _ (List.Mem.head _)))) ?_
    refine jg_iadd dX10_fill_72 ?_
    refine jg_lload dX10_fill_73 (List.Mem.tail _ (List.Mem.tail _ (List.Mem.head _))) ?_
    refine jg_l2i dX10_fill_75 ?_
    refine jg_i2b dX10_fill_76 ?_
    obtain ⟨f88, hv⟩ := hv
    obtain ⟨f89, hv⟩ := hv
    obtain ⟨f90, hv⟩ := hv
    obtain ⟨h91, e92⟩ : ∃ z : jh, z = jsI h (jd (jr h 538 a0)) ((x2) + (x7) : Int32).toNatClampNeg (((x4 : Int64).toInt32 : Int32).toInt8.toInt32 : Int32).toInt8.toInt32 := ⟨_, rfl⟩
    replace hv := hv h91 e92
    refine jp_bast dX10_fill_77 f88 f89 f90 e92 ?_
    refine jg_lload dX10_fill_78 (List.Mem.tail _ (List.Mem.tail _ (List.Mem.head _))) ?_
    refine jg_bipush (v := 8) dX10_fill_80 (by decide) ?_
    refine jg_lshr dX10_fill_82 ?_
    refine jg_lstore (lv' := [(4, .inr (.inl ((x4) >>> ((8 : Int32).toInt64 &&& 63)))), (0, .inr (.inr (some (a0)))), (2, .inl (x2)), (7, .inl (x7))]) dX10_fill_83 (by decide) rfl ?_
    refine jg_iinc (v := (x7) + (-1)) (lv' := [(7, .inl ((x7) + (-1))), (4, .inr (.inl ((x4) >>> ((8 : Int32).toInt64 &&& 63)))), (0, .inr (.inr (some (a0)))), (2, .inl (x2))]) dX10_fill_85 (List.Mem.tail _ (List.Mem.tail _ (List.Mem.tail _ (List.Mem.head _)))) rfl (by decide) rfl ?_
    refine jg_goto (tgt := 60) dX10_fill_88 (by decide) ?_
    refine jG.sub (lv' := [(0, .inr (.inr (some (a0)))), (2, .inl (x2)), (4, .inr (.inl ((x4) >>> ((8 : Int32).toInt64 &&& 63)))), (7, .inl ((x7) + (-1)))]) (by simp) ?_
    exact hv
def VX10_fill_42 (g : jg) (a0 : Nat) (x1 : Int32) (x2 : Int32) (x3 : Int32) (x4 : Int64) (s0 : Int32) (h : jh) (k n : Nat) (Q : jq) : Prop := (jt h a0 = 9) ∧ (¬ (jr h 515 a0) = none) ∧ (jt h (jd (jr h 515 a0)) = 20) ∧ (vp_in (x1) (jn h (jd (jr h 515 a0)))) ∧ ((¬ (jI h (jd (jr h 515 a0)) (x1 : Int32).toNatClampNeg) = (8) → (((s0) = 0 → VX10_fill_105 g (a0) (x1) (x2) (x3) (s0) (x4) h k n Q) ∧ (¬ (s0) = 0 → VX10_fill_105 g (a0) (x1) (x2) (x3) (s0) (-(x4)) h k n Q))) ∧ ((jI h (jd (jr h 515 a0)) (x1 : Int32).toNatClampNeg) = (8) → jG g mX10_fill 60 [(0, .inr (.inr (some (a0)))), (2, .inl (x2)), (4, .inr (.inl (x4))), (7, .inl ((x3) - (1)))] [] h k n Q))
set_option maxRecDepth 20000 in
theorem vX10_fill_42 {g : jg} {a0 : Nat} {x1 : Int32} {x2 : Int32} {x3 : Int32} {x4 : Int64} {s0 : Int32} {h : jh} {k n : Nat} {Q : jq} (hv : VX10_fill_42 g a0 x1 x2 x3 x4 s0 h k n Q) : jG g mX10_fill 42 [(0, .inr (.inr (some (a0)))), (1, .inl (x1)), (2, .inl (x2)), (3, .inl (x3)), (4, .inr (.inl (x4)))] [.inl (s0)] h k n Q := by
  unfold VX10_fill_42 at hv
  refine jg_istore (lv' := [(6, .inl (s0)), (0, .inr (.inr (some (a0)))), (1, .inl (x1)), (2, .inl (x2)), (3, .inl (x3)), (4, .inr (.inl (x4)))]) dX10_fill_42 (by decide) rfl ?_
  refine jg_aload_n dX10_fill_44 rfl (List.Mem.tail _ (List.Mem.head _)) ?_
  obtain ⟨f93, hv⟩ := hv
  refine jg_getr dX10_fill_45 fl_RX10_13 rfl jsn f93 ?_
  refine jg_iload_n dX10_fill_48 rfl (List.Mem.tail _ (List.Mem.tail _ (List.Mem.head _))) ?_
  obtain ⟨f94, hv⟩ := hv
  obtain ⟨f95, hv⟩ := hv
  obtain ⟨f96, hv⟩ := hv
  refine jg_iald dX10_fill_49 f94 f95 f96 ?_
  refine jg_bipush (v := 8) dX10_fill_50 (by decide) ?_
  refine jg_icmp_ne (tgt := 92) dX10_fill_52 (by decide) (fun c97 => ?_) (fun c97 => ?_)
  · replace hv := hv.1 c97
    refine jg_iload dX10_fill_92 (List.Mem.head _) ?_
    refine jg_if_eq (tgt := 103) dX10_fill_94 (by decide) (fun c98 => ?_) (fun c98 => ?_)
    · replace hv := hv.1 c98
      refine jg_lload dX10_fill_103 (List.Mem.tail _ (List.Mem.tail _ (List.Mem.tail _ (List.Mem.tail _ (List.Mem.tail _ (List.Mem.head _)))))) ?_
      refine jG.sub (lv' := [(0, .inr (.inr (some (a0)))), (1, .inl (x1)), (2, .inl (x2)), (3, .inl (x3)), (6, .inl (s0))]) (by simp) ?_
      exact vX10_fill_105 hv
    · replace hv := hv.2 c98
      refine jg_lload dX10_fill_97 (List.Mem.tail _ (List.Mem.tail _ (List.Mem.tail _ (List.Mem.tail _ (List.Mem.tail _ (List.Mem.head _)))))) ?_
      refine jg_lneg dX10_fill_99 ?_
      refine jg_goto (tgt := 105) dX10_fill_100 (by decide) ?_
      refine jG.sub (lv' := [(0, .inr (.inr (some (a0)))), (1, .inl (x1)), (2, .inl (x2)), (3, .inl (x3)), (6, .inl (s0))]) (by simp) ?_
      exact vX10_fill_105 hv
  · replace hv := hv.2 c97
    refine jg_iload_n dX10_fill_55 rfl (List.Mem.tail _ (List.Mem.tail _ (List.Mem.tail _ (List.Mem.tail _ (List.Mem.head _))))) ?_
    refine jg_iconst (v := 1) dX10_fill_56 (by decide) ?_
    refine jg_isub dX10_fill_57 ?_
    refine jg_istore (lv' := [(7, .inl ((x3) - (1))), (6, .inl (s0)), (0, .inr (.inr (some (a0)))), (1, .inl (x1)), (2, .inl (x2)), (3, .inl (x3)), (4, .inr (.inl (x4)))]) dX10_fill_58 (by decide) rfl ?_
    refine jG.sub (lv' := [(0, .inr (.inr (some (a0)))), (2, .inl (x2)), (4, .inr (.inl (x4))), (7, .inl ((x3) - (1)))]) (by simp) ?_
    exact hv
def VX10_fill_28 (g : jg) (a0 : Nat) (x1 : Int32) (x2 : Int32) (x3 : Int32) (s0 : Int64) (h : jh) (k n : Nat) (Q : jq) : Prop := (((0 : Int64) ≤ (s0) → VX10_fill_42 g (a0) (x1) (x2) (x3) (s0) (0) h k n Q) ∧ (¬ (0 : Int64) ≤ (s0) → VX10_fill_42 g (a0) (x1) (x2) (x3) (s0) (1) h k n Q))
set_option maxRecDepth 20000 in
theorem vX10_fill_28 {g : jg} {a0 : Nat} {x1 : Int32} {x2 : Int32} {x3 : Int32} {s0 : Int64} {h : jh} {k n : Nat} {Q : jq} (hv : VX10_fill_28 g a0 x1 x2 x3 s0 h k n Q) : jG g mX10_fill 28 [(0, .inr (.inr (some (a0)))), (1, .inl (x1)), (2, .inl (x2)), (3, .inl (x3))] [.inr (.inl (s0))] h k n Q := by
  unfold VX10_fill_28 at hv
  refine jg_lstore (lv' := [(4, .inr (.inl (s0))), (0, .inr (.inr (some (a0)))), (1, .inl (x1)), (2, .inl (x2)), (3, .inl (x3))]) dX10_fill_28 (by decide) rfl ?_
  refine jg_lload dX10_fill_30 (List.Mem.head _) ?_
  refine jg_lconst (v := 0) dX10_fill_32 (by decide) ?_
  refine jg_lcmp_ge (tgt := 41) dX10_fill_33 dX10_fill_34 (by decide) (fun c99 => ?_) (fun c99 => ?_)
  · replace hv := hv.1 c99
    refine jg_iconst (v := 0) dX10_fill_41 (by decide) ?_
    refine jG.sub (lv' := [(0, .inr (.inr (some (a0)))), (1, .inl (x1)), (2, .inl (x2)), (3, .inl (x3)), (4, .inr (.inl (s0)))]) (by simp) ?_
    exact vX10_fill_42 hv
  · replace hv := hv.2 c99
    refine jg_iconst (v := 1) dX10_fill_37 (by decide) ?_
    refine jg_goto (tgt := 42) dX10_fill_38 (by decide) ?_
    refine jG.sub (lv' := [(0, .inr (.inr (some (a0)))), (1, .inl (x1)), (2, .inl (x2)), (3, .inl (x3)), (4, .inr (.inl (s0)))]) (by simp) ?_
    exact vX10_fill_42 hv
def VX10_fill_0 (g : jg) (a0 : Nat) (x1 : Int32) (x2 : Int32) (h : jh) (k n : Nat) (Q : jq) : Prop := (jt h a0 = 9) ∧ (¬ (jr h 540 a0) = none) ∧ (jt h (jd (jr h 540 a0)) = 22) ∧ (vp_in (x1) (jn h (jd (jr h 540 a0)))) ∧ (¬ (jr h 524 a0) = none) ∧ (jt h (jd (jr h 524 a0)) = 24) ∧ (vp_in (x1) (jn h (jd (jr h 524 a0)))) ∧ (((jI h (jd (jr h 524 a0)) (x1 : Int32).toNatClampNeg) = 0 → VX10_fill_28 g (a0) (x1) (x2) ((jL h (jd (jr h 540 a0)) (x1 : Int32).toNatClampNeg : Int64).toInt32) (0) h k n Q) ∧ (¬ (jI h (jd (jr h 524 a0)) (x1 : Int32).toNatClampNeg) = 0 → (¬ (jr h 525 a0) = none) ∧ (jt h (jd (jr h 525 a0)) = 20) ∧ (vp_in (x1) (jn h (jd (jr h 525 a0)))) ∧ VX10_fill_28 g (a0) (x1) (x2) ((jL h (jd (jr h 540 a0)) (x1 : Int32).toNatClampNeg : Int64).toInt32) ((jI h (jd (jr h 525 a0)) (x1 : Int32).toNatClampNeg : Int32).toInt64) h k n Q))
set_option maxRecDepth 20000 in
theorem vX10_fill_0 {g : jg} {a0 : Nat} {x1 : Int32} {x2 : Int32} {h : jh} {k n : Nat} {Q : jq} (hv : VX10_fill_0 g a0 x1 x2 h k n Q) : jG g mX10_fill 0 [(0, .inr (.inr (some (a0)))), (1, .inl (x1)), (2, .inl (x2))] [] h k n Q := by
  unfold VX10_fill_0 at hv
  refine jg_aload_n dX10_fill_0 rfl (List.Mem.head _) ?_
  obtain ⟨f100, hv⟩ := hv
  refine jg_getr dX10_fill_1 fl_RX10_80 rfl jsn f100 ?_
  refine jg_iload_n dX10_fill_4 rfl (List.Mem.tail _ (List.Mem.head _)) ?_
  obtain ⟨f101, hv⟩ := hv
  obtain ⟨f102, hv⟩ := hv
  obtain ⟨f103, hv⟩ := hv
  refine jg_lald dX10_fill_5 f101 f102 f103 ?_
  refine jg_l2i dX10_fill_6 ?_
  refine jg_istore_n (lv' := [(3, .inl ((jL h (jd (jr h 540 a0)) (x1 : Int32).toNatClampNeg : Int64).toInt32)), (0, .inr (.inr (some (a0)))), (1, .inl (x1)), (2, .inl (x2))]) dX10_fill_7 rfl (by decide) rfl ?_
  refine jg_aload_n dX10_fill_8 rfl (List.Mem.tail _ (List.Mem.head _)) ?_
  refine jg_getr dX10_fill_9 fl_RX10_41 rfl jsn f100 ?_
  refine jg_iload_n dX10_fill_12 rfl (List.Mem.tail _ (List.Mem.tail _ (List.Mem.head _))) ?_
  obtain ⟨f104, hv⟩ := hv
  obtain ⟨f105, hv⟩ := hv
  obtain ⟨f106, hv⟩ := hv
  refine jg_zald dX10_fill_13 f104 f105 f106 ?_
  refine jg_if_eq (tgt := 27) dX10_fill_14 (by decide) (fun c107 => ?_) (fun c107 => ?_)
  · replace hv := hv.1 c107
    refine jg_lconst (v := 0) dX10_fill_27 (by decide) ?_
    refine jG.sub (lv' := [(0, .inr (.inr (some (a0)))), (1, .inl (x1)), (2, .inl (x2)), (3, .inl ((jL h (jd (jr h 540 a0)) (x1 : Int32).toNatClampNeg : Int64).toInt32))]) (by simp) ?_
    exact vX10_fill_28 hv
  · replace hv := hv.2 c107
    refine jg_aload_n dX10_fill_17 rfl (List.Mem.tail _ (List.Mem.head _)) ?_
    refine jg_getr dX10_fill_18 fl_RX10_44 rfl jsn f100 ?_
    refine jg_iload_n dX10_fill_21 rfl (List.Mem.tail _ (List.Mem.tail _ (List.Mem.head _))) ?_
    obtain ⟨f108, hv⟩ := hv
    obtain ⟨f109, hv⟩ := hv
    obtain ⟨f110, hv⟩ := hv
    refine jg_iald dX10_fill_22 f108 f109 f110 ?_
    refine jg_i2l dX10_fill_23 ?_
    refine jg_goto (tgt := 28) dX10_fill_24 (by decide) ?_
    refine jG.sub (lv' := [(0, .inr (.inr (some (a0)))), (1, .inl (x1)), (2, .inl (x2)), (3, .inl ((jL h (jd (jr h 540 a0)) (x1 : Int32).toNatClampNeg : Int64).toInt32))]) (by simp) ?_
    exact vX10_fill_28 hv
theorem eX10_fill {g : jg} {a0 : Nat} {x1 : Int32} {x2 : Int32} {h : jh} {mc ms : Nat} {Q : jq} (hv : VX10_fill_0 g a0 x1 x2 h mc ms Q) : jM g mX10_fill [.inr (.inr (some (a0))), .inl (x1), .inl (x2)] h mc ms Q := jM.of (by decide) (Nat.le_of_ble_eq_true rfl) (lv := [(0, .inr (.inr (some (a0)))), (1, .inl (x1)), (2, .inl (x2))]) rfl (vX10_fill_0 hv)
theorem dX10_refused_0 : decode cX10_refused 0 = .ok (.aload_n 0, 1) := by decide +kernel
theorem dX10_refused_1 : decode cX10_refused 1 = .ok (.iload_n 1, 1) := by decide +kernel
theorem dX10_refused_2 : decode cX10_refused 2 = .ok (.invokevirtual 136, 3) := by decide +kernel
theorem dX10_refused_5 : decode cX10_refused 5 = .ok (.ifCond .ne 6, 3) := by decide +kernel
theorem dX10_refused_8 : decode cX10_refused 8 = .ok (.bipush (-2), 2) := by decide +kernel
theorem dX10_refused_10 : decode cX10_refused 10 = .ok (.ireturn, 1) := by decide +kernel
theorem dX10_refused_11 : decode cX10_refused 11 = .ok (.aload_n 0, 1) := by decide +kernel
theorem dX10_refused_12 : decode cX10_refused 12 = .ok (.getfield 7, 3) := by decide +kernel
theorem dX10_refused_15 : decode cX10_refused 15 = .ok (.iload_n 1, 1) := by decide +kernel
theorem dX10_refused_16 : decode cX10_refused 16 = .ok (.iaload, 1) := by decide +kernel
theorem dX10_refused_17 : decode cX10_refused 17 = .ok (.bipush 88, 2) := by decide +kernel
theorem dX10_refused_19 : decode cX10_refused 19 = .ok (.if_icmp .eq 18, 3) := by decide +kernel
theorem dX10_refused_22 : decode cX10_refused 22 = .ok (.iload_n 2, 1) := by decide +kernel
theorem dX10_refused_23 : decode cX10_refused 23 = .ok (.ifCond .eq 17, 3) := by decide +kernel
theorem dX10_refused_26 : decode cX10_refused 26 = .ok (.aload_n 0, 1) := by decide +kernel
theorem dX10_refused_27 : decode cX10_refused 27 = .ok (.getfield 7, 3) := by decide +kernel
theorem dX10_refused_30 : decode cX10_refused 30 = .ok (.iload_n 1, 1) := by decide +kernel
theorem dX10_refused_31 : decode cX10_refused 31 = .ok (.iaload, 1) := by decide +kernel
theorem dX10_refused_32 : decode cX10_refused 32 = .ok (.bipush 66, 2) := by decide +kernel
theorem dX10_refused_34 : decode cX10_refused 34 = .ok (.if_icmp .ne 6, 3) := by decide +kernel
theorem dX10_refused_37 : decode cX10_refused 37 = .ok (.bipush (-4), 2) := by decide +kernel
theorem dX10_refused_39 : decode cX10_refused 39 = .ok (.ireturn, 1) := by decide +kernel
theorem dX10_refused_40 : decode cX10_refused 40 = .ok (.aload_n 0, 1) := by decide +kernel
theorem dX10_refused_41 : decode cX10_refused 41 = .ok (.getfield 121, 3) := by decide +kernel
theorem dX10_refused_44 : decode cX10_refused 44 = .ok (.ifCond .eq 7, 3) := by decide +kernel
theorem dX10_refused_47 : decode cX10_refused 47 = .ok (.iconst 1, 1) := by decide +kernel
theorem dX10_refused_48 : decode cX10_refused 48 = .ok (.goto 5, 3) := by decide +kernel
theorem dX10_refused_51 : decode cX10_refused 51 = .ok (.bipush (-5), 2) := by decide +kernel
theorem dX10_refused_53 : decode cX10_refused 53 = .ok (.ireturn, 1) := by decide +kernel
def VX10_refused_0 (g : jg) (a0 : Nat) (x1 : Int32) (x2 : Int32) (h : jh) (k n : Nat) (Q : jq) : Prop := (jt h a0 = 9) ∧ jM g mX10_is [.inr (.inr (some a0)), .inl (x1)] h 0 0 (jki (fun (r2 : Int32) (h3 : jh) => ((¬ (r2) = 0 → (jt h3 a0 = 9) ∧ (¬ (jr h3 514 a0) = none) ∧ (jt h3 (jd (jr h3 514 a0)) = 20) ∧ (vp_in (x1) (jn h3 (jd (jr h3 514 a0)))) ∧ (((jI h3 (jd (jr h3 514 a0)) (x1 : Int32).toNatClampNeg) = (88) → Q (.inl (some (.inl ((-4))))) h3) ∧ (¬ (jI h3 (jd (jr h3 514 a0)) (x1 : Int32).toNatClampNeg) = (88) → (((x2) = 0 → (((ji h3 533 a0) = 0 → Q (.inl (some (.inl ((-5))))) h3) ∧ (¬ (ji h3 533 a0) = 0 → Q (.inl (some (.inl (1)))) h3))) ∧ (¬ (x2) = 0 → ((¬ (jI h3 (jd (jr h3 514 a0)) (x1 : Int32).toNatClampNeg) = (66) → (((ji h3 533 a0) = 0 → Q (.inl (some (.inl ((-5))))) h3) ∧ (¬ (ji h3 533 a0) = 0 → Q (.inl (some (.inl (1)))) h3))) ∧ ((jI h3 (jd (jr h3 514 a0)) (x1 : Int32).toNatClampNeg) = (66) → Q (.inl (some (.inl ((-4))))) h3))))))) ∧ ((r2) = 0 → Q (.inl (some (.inl ((-2))))) h3))) (fun e h9 => Q (.inr e) h9))
set_option maxRecDepth 20000 in
theorem vX10_refused_0 {g : jg} {a0 : Nat} {x1 : Int32} {x2 : Int32} {h : jh} {k n : Nat} {Q : jq} (hv : VX10_refused_0 g a0 x1 x2 h k n Q) : jG g mX10_refused 0 [(0, .inr (.inr (some (a0)))), (1, .inl (x1)), (2, .inl (x2))] [] h k n Q := by
  unfold VX10_refused_0 at hv
  refine jg_aload_n dX10_refused_0 rfl (List.Mem.head _) ?_
  refine jg_iload_n dX10_refused_1 rfl (List.Mem.tail _ (List.Mem.head _)) ?_
  obtain ⟨f1, hv⟩ := hv
  refine jp_callV mX10_is [.inl (x1)] [] dX10_refused_2 rfl cl_RX10_136 ⟨⟨by decide, by decide⟩, by decide⟩ jsn f1 (Nat.zero_le _) (Nat.zero_le _) (jM.mono (jki_k (fun r2 h3 hv => ?_)) hv)
  refine jg_if_ne (tgt := 11) dX10_refused_5 (by decide) (fun c4 => ?_) (fun c4 => ?_)
  · replace hv := hv.1 c4
    refine jg_aload_n dX10_refused_11 rfl (List.Mem.head _) ?_
    obtain ⟨f5, hv⟩ := hv
    refine jg_getr dX10_refused_12 fl_RX10_7 rfl jsn f5 ?_
    refine jg_iload_n dX10_refused_15 rfl (List.Mem.tail _ (List.Mem.head _)) ?_
    obtain ⟨f6, hv⟩ := hv
    obtain ⟨f7, hv⟩ := hv
    obtain ⟨f8, hv⟩ := hv
    refine jg_iald dX10_refused_16 f6 f7 f8 ?_
    refine jg_bipush (v := 88) dX10_refused_17 (by decide) ?_
    refine jg_icmp_eq (tgt := 37) dX10_refused_19 (by decide) (fun c9 => ?_) (fun c9 => ?_)
    · replace hv := hv.1 c9
      refine jg_bipush (v := (-4)) dX10_refused_37 (by decide) ?_
      exact jg_iret dX10_refused_39 rfl hv
    · replace hv := hv.2 c9
      refine jg_iload_n dX10_refused_22 rfl (List.Mem.tail _ (List.Mem.tail _ (List.Mem.head _))) ?_
      refine jg_if_eq (tgt := 40) dX10_refused_23 (by decide) (fun c10 => ?_) (fun c10 => ?_)
      · replace hv := hv.1 c10
        refine jg_aload_n dX10_refused_40 rfl (List.Mem.head _) ?_
        refine jg_geti dX10_refused_41 fl_RX10_121 rfl jsn f5 ?_
        refine jg_if_eq (tgt := 51) dX10_refused_44 (by decide) (fun c11 => ?_) (fun c11 => ?_)
        · replace hv := hv.1 c11
          refine jg_bipush (v := (-5)) dX10_refused_51 (by decide) ?_
          exact jg_iret dX10_refused_53 rfl hv
        · replace hv := hv.2 c11
          refine jg_iconst (v := 1) dX10_refused_47 (by decide) ?_
          refine jg_goto (tgt := 53) dX10_refused_48 (by decide) ?_
          exact jg_iret dX10_refused_53 rfl hv
      · replace hv := hv.2 c10
        refine jg_aload_n dX10_refused_26 rfl (List.Mem.head _) ?_
        refine jg_getr dX10_refused_27 fl_RX10_7 rfl jsn f5 ?_
        refine jg_iload_n dX10_refused_30 rfl (List.Mem.tail _ (List.Mem.head _)) ?_
        refine jg_iald dX10_refused_31 f6 f7 f8 ?_
        refine jg_bipush (v := 66) dX10_refused_32 (by decide) ?_
        refine jg_icmp_ne (tgt := 40) dX10_refused_34 (by decide) (fun c12 => ?_) (fun c12 => ?_)
        · replace hv := hv.1 c12
          refine jg_aload_n dX10_refused_40 rfl (List.Mem.head _) ?_
          refine jg_geti dX10_refused_41 fl_RX10_121 rfl jsn f5 ?_
          refine jg_if_eq (tgt := 51) dX10_refused_44 (by decide) (fun c13 => ?_) (fun c13 => ?_)
          · replace hv := hv.1 c13
            refine jg_bipush (v := (-5)) dX10_refused_51 (by decide) ?_
            exact jg_iret dX10_refused_53 rfl hv
          · replace hv := hv.2 c13
            refine jg_iconst (v := 1) dX10_refused_47 (by decide) ?_
            refine jg_goto (tgt := 53) dX10_refused_48 (by decide) ?_
            exact jg_iret dX10_refused_53 rfl hv
        · replace hv := hv.2 c12
          refine jg_bipush (v := (-4)) dX10_refused_37 (by decide) ?_
          exact jg_iret dX10_refused_39 rfl hv
  · replace hv := hv.2 c4
    refine jg_bipush (v := (-2)) dX10_refused_8 (by decide) ?_
    exact jg_iret dX10_refused_10 rfl hv
theorem eX10_refused {g : jg} {a0 : Nat} {x1 : Int32} {x2 : Int32} {h : jh} {mc ms : Nat} {Q : jq} (hv : VX10_refused_0 g a0 x1 x2 h mc ms Q) : jM g mX10_refused [.inr (.inr (some (a0))), .inl (x1), .inl (x2)] h mc ms Q := jM.of (by decide) (Nat.le_of_ble_eq_true rfl) (lv := [(0, .inr (.inr (some (a0)))), (1, .inl (x1)), (2, .inl (x2))]) rfl (vX10_refused_0 hv)
theorem dX10_placeOf_0 : decode cX10_placeOf 0 = .ok (.aload_n 0, 1) := by decide +kernel
theorem dX10_placeOf_1 : decode cX10_placeOf 1 = .ok (.getfield 7, 3) := by decide +kernel
theorem dX10_placeOf_4 : decode cX10_placeOf 4 = .ok (.iload_n 1, 1) := by decide +kernel
theorem dX10_placeOf_5 : decode cX10_placeOf 5 = .ok (.iaload, 1) := by decide +kernel
theorem dX10_placeOf_6 : decode cX10_placeOf 6 = .ok (.bipush 66, 2) := by decide +kernel
theorem dX10_placeOf_8 : decode cX10_placeOf 8 = .ok (.if_icmp .ne 17, 3) := by decide +kernel
theorem dX10_placeOf_11 : decode cX10_placeOf 11 = .ok (.aload_n 0, 1) := by decide +kernel
theorem dX10_placeOf_12 : decode cX10_placeOf 12 = .ok (.getfield 76, 3) := by decide +kernel
theorem dX10_placeOf_15 : decode cX10_placeOf 15 = .ok (.aload_n 0, 1) := by decide +kernel
theorem dX10_placeOf_16 : decode cX10_placeOf 16 = .ok (.getfield 50, 3) := by decide +kernel
theorem dX10_placeOf_19 : decode cX10_placeOf 19 = .ok (.iload_n 1, 1) := by decide +kernel
theorem dX10_placeOf_20 : decode cX10_placeOf 20 = .ok (.iaload, 1) := by decide +kernel
theorem dX10_placeOf_21 : decode cX10_placeOf 21 = .ok (.laload, 1) := by decide +kernel
theorem dX10_placeOf_22 : decode cX10_placeOf 22 = .ok (.goto 9, 3) := by decide +kernel
theorem dX10_placeOf_25 : decode cX10_placeOf 25 = .ok (.aload_n 0, 1) := by decide +kernel
theorem dX10_placeOf_26 : decode cX10_placeOf 26 = .ok (.getfield 76, 3) := by decide +kernel
theorem dX10_placeOf_29 : decode cX10_placeOf 29 = .ok (.iload_n 1, 1) := by decide +kernel
theorem dX10_placeOf_30 : decode cX10_placeOf 30 = .ok (.laload, 1) := by decide +kernel
theorem dX10_placeOf_31 : decode cX10_placeOf 31 = .ok (.lreturn, 1) := by decide +kernel
def VX10_placeOf_0 (g : jg) (a0 : Nat) (x1 : Int32) (h : jh) (k n : Nat) (Q : jq) : Prop := (jt h a0 = 9) ∧ (¬ (jr h 514 a0) = none) ∧ (jt h (jd (jr h 514 a0)) = 20) ∧ (vp_in (x1) (jn h (jd (jr h 514 a0)))) ∧ ((¬ (jI h (jd (jr h 514 a0)) (x1 : Int32).toNatClampNeg) = (66) → (¬ (jr h 539 a0) = none) ∧ (jt h (jd (jr h 539 a0)) = 22) ∧ (vp_in (x1) (jn h (jd (jr h 539 a0)))) ∧ Q (.inl (some (.inr (.inl (jL h (jd (jr h 539 a0)) (x1 : Int32).toNatClampNeg))))) h) ∧ ((jI h (jd (jr h 514 a0)) (x1 : Int32).toNatClampNeg) = (66) → (¬ (jr h 527 a0) = none) ∧ (jt h (jd (jr h 527 a0)) = 20) ∧ (vp_in (x1) (jn h (jd (jr h 527 a0)))) ∧ (¬ (jr h 539 a0) = none) ∧ (jt h (jd (jr h 539 a0)) = 22) ∧ (vp_in (jI h (jd (jr h 527 a0)) (x1 : Int32).toNatClampNeg) (jn h (jd (jr h 539 a0)))) ∧ Q (.inl (some (.inr (.inl (jL h (jd (jr h 539 a0)) (jI h (jd (jr h 527 a0)) (x1 : Int32).toNatClampNeg : Int32).toNatClampNeg))))) h))
set_option maxRecDepth 20000 in
theorem vX10_placeOf_0 {g : jg} {a0 : Nat} {x1 : Int32} {h : jh} {k n : Nat} {Q : jq} (hv : VX10_placeOf_0 g a0 x1 h k n Q) : jG g mX10_placeOf 0 [(0, .inr (.inr (some (a0)))), (1, .inl (x1))] [] h k n Q := by
  unfold VX10_placeOf_0 at hv
  refine jg_aload_n dX10_placeOf_0 rfl (List.Mem.head _) ?_
  obtain ⟨f1, hv⟩ := hv
  refine jg_getr dX10_placeOf_1 fl_RX10_7 rfl jsn f1 ?_
  refine jg_iload_n dX10_placeOf_4 rfl (List.Mem.tail _ (List.Mem.head _)) ?_
  obtain ⟨f2, hv⟩ := hv
  obtain ⟨f3, hv⟩ := hv
  obtain ⟨f4, hv⟩ := hv
  refine jg_iald dX10_placeOf_5 f2 f3 f4 ?_
  refine jg_bipush (v := 66) dX10_placeOf_6 (by decide) ?_
  refine jg_icmp_ne (tgt := 25) dX10_placeOf_8 (by decide) (fun c5 => ?_) (fun c5 => ?_)
  · replace hv := hv.1 c5
    refine jg_aload_n dX10_placeOf_25 rfl (List.Mem.head _) ?_
    refine jg_getr dX10_placeOf_26 fl_RX10_76 rfl jsn f1 ?_
    refine jg_iload_n dX10_placeOf_29 rfl (List.Mem.tail _ (List.Mem.head _)) ?_
    obtain ⟨f6, hv⟩ := hv
    obtain ⟨f7, hv⟩ := hv
    obtain ⟨f8, hv⟩ := hv
    refine jg_lald dX10_placeOf_30 f6 f7 f8 ?_
    exact jg_lret dX10_placeOf_31 rfl hv
  · replace hv := hv.2 c5
    refine jg_aload_n dX10_placeOf_11 rfl (List.Mem.head _) ?_
    refine jg_getr dX10_placeOf_12 fl_RX10_76 rfl jsn f1 ?_
    refine jg_aload_n dX10_placeOf_15 rfl (List.Mem.head _) ?_
    refine jg_getr dX10_placeOf_16 fl_RX10_50 rfl jsn f1 ?_
    refine jg_iload_n dX10_placeOf_19 rfl (List.Mem.tail _ (List.Mem.head _)) ?_
    obtain ⟨f9, hv⟩ := hv
    obtain ⟨f10, hv⟩ := hv
    obtain ⟨f11, hv⟩ := hv
    refine jg_iald dX10_placeOf_20 f9 f10 f11 ?_
    obtain ⟨f12, hv⟩ := hv
    obtain ⟨f13, hv⟩ := hv
    obtain ⟨f14, hv⟩ := hv
    refine jg_lald dX10_placeOf_21 f12 f13 f14 ?_
    refine jg_goto (tgt := 31) dX10_placeOf_22 (by decide) ?_
    exact jg_lret dX10_placeOf_31 rfl hv
theorem eX10_placeOf {g : jg} {a0 : Nat} {x1 : Int32} {h : jh} {mc ms : Nat} {Q : jq} (hv : VX10_placeOf_0 g a0 x1 h mc ms Q) : jM g mX10_placeOf [.inr (.inr (some (a0))), .inl (x1)] h mc ms Q := jM.of (by decide) (Nat.le_of_ble_eq_true rfl) (lv := [(0, .inr (.inr (some (a0)))), (1, .inl (x1))]) rfl (vX10_placeOf_0 hv)
theorem dX10_sizeOf_0 : decode cX10_sizeOf 0 = .ok (.aload_n 0, 1) := by decide +kernel
theorem dX10_sizeOf_1 : decode cX10_sizeOf 1 = .ok (.getfield 7, 3) := by decide +kernel
theorem dX10_sizeOf_4 : decode cX10_sizeOf 4 = .ok (.iload_n 1, 1) := by decide +kernel
theorem dX10_sizeOf_5 : decode cX10_sizeOf 5 = .ok (.iaload, 1) := by decide +kernel
theorem dX10_sizeOf_6 : decode cX10_sizeOf 6 = .ok (.bipush 66, 2) := by decide +kernel
theorem dX10_sizeOf_8 : decode cX10_sizeOf 8 = .ok (.if_icmp .ne 39, 3) := by decide +kernel
theorem dX10_sizeOf_11 : decode cX10_sizeOf 11 = .ok (.aload_n 0, 1) := by decide +kernel
theorem dX10_sizeOf_12 : decode cX10_sizeOf 12 = .ok (.getfield 76, 3) := by decide +kernel
theorem dX10_sizeOf_15 : decode cX10_sizeOf 15 = .ok (.aload_n 0, 1) := by decide +kernel
theorem dX10_sizeOf_16 : decode cX10_sizeOf 16 = .ok (.getfield 53, 3) := by decide +kernel
theorem dX10_sizeOf_19 : decode cX10_sizeOf 19 = .ok (.iload_n 1, 1) := by decide +kernel
theorem dX10_sizeOf_20 : decode cX10_sizeOf 20 = .ok (.iaload, 1) := by decide +kernel
theorem dX10_sizeOf_21 : decode cX10_sizeOf 21 = .ok (.laload, 1) := by decide +kernel
theorem dX10_sizeOf_22 : decode cX10_sizeOf 22 = .ok (.aload_n 0, 1) := by decide +kernel
theorem dX10_sizeOf_23 : decode cX10_sizeOf 23 = .ok (.getfield 80, 3) := by decide +kernel
theorem dX10_sizeOf_26 : decode cX10_sizeOf 26 = .ok (.aload_n 0, 1) := by decide +kernel
theorem dX10_sizeOf_27 : decode cX10_sizeOf 27 = .ok (.getfield 53, 3) := by decide +kernel
theorem dX10_sizeOf_30 : decode cX10_sizeOf 30 = .ok (.iload_n 1, 1) := by decide +kernel
theorem dX10_sizeOf_31 : decode cX10_sizeOf 31 = .ok (.iaload, 1) := by decide +kernel
theorem dX10_sizeOf_32 : decode cX10_sizeOf 32 = .ok (.laload, 1) := by decide +kernel
theorem dX10_sizeOf_33 : decode cX10_sizeOf 33 = .ok (.ladd, 1) := by decide +kernel
theorem dX10_sizeOf_34 : decode cX10_sizeOf 34 = .ok (.aload_n 0, 1) := by decide +kernel
theorem dX10_sizeOf_35 : decode cX10_sizeOf 35 = .ok (.getfield 76, 3) := by decide +kernel
theorem dX10_sizeOf_38 : decode cX10_sizeOf 38 = .ok (.aload_n 0, 1) := by decide +kernel
theorem dX10_sizeOf_39 : decode cX10_sizeOf 39 = .ok (.getfield 50, 3) := by decide +kernel
theorem dX10_sizeOf_42 : decode cX10_sizeOf 42 = .ok (.iload_n 1, 1) := by decide +kernel
theorem dX10_sizeOf_43 : decode cX10_sizeOf 43 = .ok (.iaload, 1) := by decide +kernel
theorem dX10_sizeOf_44 : decode cX10_sizeOf 44 = .ok (.laload, 1) := by decide +kernel
theorem dX10_sizeOf_45 : decode cX10_sizeOf 45 = .ok (.lsub, 1) := by decide +kernel
theorem dX10_sizeOf_46 : decode cX10_sizeOf 46 = .ok (.lreturn, 1) := by decide +kernel
theorem dX10_sizeOf_47 : decode cX10_sizeOf 47 = .ok (.iload_n 1, 1) := by decide +kernel
theorem dX10_sizeOf_48 : decode cX10_sizeOf 48 = .ok (.iconst 1, 1) := by decide +kernel
theorem dX10_sizeOf_49 : decode cX10_sizeOf 49 = .ok (.iadd, 1) := by decide +kernel
theorem dX10_sizeOf_50 : decode cX10_sizeOf 50 = .ok (.istore_n 2, 1) := by decide +kernel
theorem dX10_sizeOf_51 : decode cX10_sizeOf 51 = .ok (.iload_n 2, 1) := by decide +kernel
theorem dX10_sizeOf_52 : decode cX10_sizeOf 52 = .ok (.aload_n 0, 1) := by decide +kernel
theorem dX10_sizeOf_53 : decode cX10_sizeOf 53 = .ok (.getfield 102, 3) := by decide +kernel
theorem dX10_sizeOf_56 : decode cX10_sizeOf 56 = .ok (.if_icmp .gt 99, 3) := by decide +kernel
theorem dX10_sizeOf_59 : decode cX10_sizeOf 59 = .ok (.aload_n 0, 1) := by decide +kernel
theorem dX10_sizeOf_60 : decode cX10_sizeOf 60 = .ok (.iload_n 2, 1) := by decide +kernel
theorem dX10_sizeOf_61 : decode cX10_sizeOf 61 = .ok (.invokevirtual 105, 3) := by decide +kernel
theorem dX10_sizeOf_64 : decode cX10_sizeOf 64 = .ok (.ifCond .eq 85, 3) := by decide +kernel
theorem dX10_sizeOf_67 : decode cX10_sizeOf 67 = .ok (.aload_n 0, 1) := by decide +kernel
theorem dX10_sizeOf_68 : decode cX10_sizeOf 68 = .ok (.getfield 25, 3) := by decide +kernel
theorem dX10_sizeOf_71 : decode cX10_sizeOf 71 = .ok (.iload_n 2, 1) := by decide +kernel
theorem dX10_sizeOf_72 : decode cX10_sizeOf 72 = .ok (.iaload, 1) := by decide +kernel
theorem dX10_sizeOf_73 : decode cX10_sizeOf 73 = .ok (.iconst 2, 1) := by decide +kernel
theorem dX10_sizeOf_74 : decode cX10_sizeOf 74 = .ok (.if_icmp .ne 75, 3) := by decide +kernel
theorem dX10_sizeOf_77 : decode cX10_sizeOf 77 = .ok (.aload_n 0, 1) := by decide +kernel
theorem dX10_sizeOf_78 : decode cX10_sizeOf 78 = .ok (.iload_n 2, 1) := by decide +kernel
theorem dX10_sizeOf_79 : decode cX10_sizeOf 79 = .ok (.iload_n 1, 1) := by decide +kernel
theorem dX10_sizeOf_80 : decode cX10_sizeOf 80 = .ok (.invokevirtual 131, 3) := by decide +kernel
theorem dX10_sizeOf_83 : decode cX10_sizeOf 83 = .ok (.ifCond .ne 6, 3) := by decide +kernel
theorem dX10_sizeOf_86 : decode cX10_sizeOf 86 = .ok (.goto 63, 3) := by decide +kernel
theorem dX10_sizeOf_89 : decode cX10_sizeOf 89 = .ok (.iload_n 2, 1) := by decide +kernel
theorem dX10_sizeOf_90 : decode cX10_sizeOf 90 = .ok (.istore_n 3, 1) := by decide +kernel
theorem dX10_sizeOf_91 : decode cX10_sizeOf 91 = .ok (.iload_n 3, 1) := by decide +kernel
theorem dX10_sizeOf_92 : decode cX10_sizeOf 92 = .ok (.iload_n 1, 1) := by decide +kernel
theorem dX10_sizeOf_93 : decode cX10_sizeOf 93 = .ok (.if_icmp .eq 22, 3) := by decide +kernel
theorem dX10_sizeOf_96 : decode cX10_sizeOf 96 = .ok (.aload_n 0, 1) := by decide +kernel
theorem dX10_sizeOf_97 : decode cX10_sizeOf 97 = .ok (.getfield 56, 3) := by decide +kernel
theorem dX10_sizeOf_100 : decode cX10_sizeOf 100 = .ok (.iload_n 3, 1) := by decide +kernel
theorem dX10_sizeOf_101 : decode cX10_sizeOf 101 = .ok (.iaload, 1) := by decide +kernel
theorem dX10_sizeOf_102 : decode cX10_sizeOf 102 = .ok (.ifCond .ne 13, 3) := by decide +kernel
theorem dX10_sizeOf_105 : decode cX10_sizeOf 105 = .ok (.aload_n 0, 1) := by decide +kernel
theorem dX10_sizeOf_106 : decode cX10_sizeOf 106 = .ok (.getfield 19, 3) := by decide +kernel
theorem dX10_sizeOf_109 : decode cX10_sizeOf 109 = .ok (.iload_n 3, 1) := by decide +kernel
theorem dX10_sizeOf_110 : decode cX10_sizeOf 110 = .ok (.iaload, 1) := by decide +kernel
theorem dX10_sizeOf_111 : decode cX10_sizeOf 111 = .ok (.istore_n 3, 1) := by decide +kernel
theorem dX10_sizeOf_112 : decode cX10_sizeOf 112 = .ok (.goto (-21), 3) := by decide +kernel
theorem dX10_sizeOf_115 : decode cX10_sizeOf 115 = .ok (.iload_n 3, 1) := by decide +kernel
theorem dX10_sizeOf_116 : decode cX10_sizeOf 116 = .ok (.iload_n 1, 1) := by decide +kernel
theorem dX10_sizeOf_117 : decode cX10_sizeOf 117 = .ok (.if_icmp .ne 32, 3) := by decide +kernel
theorem dX10_sizeOf_120 : decode cX10_sizeOf 120 = .ok (.aload_n 0, 1) := by decide +kernel
theorem dX10_sizeOf_121 : decode cX10_sizeOf 121 = .ok (.getfield 76, 3) := by decide +kernel
theorem dX10_sizeOf_124 : decode cX10_sizeOf 124 = .ok (.iload_n 2, 1) := by decide +kernel
theorem dX10_sizeOf_125 : decode cX10_sizeOf 125 = .ok (.laload, 1) := by decide +kernel
theorem dX10_sizeOf_126 : decode cX10_sizeOf 126 = .ok (.aload_n 0, 1) := by decide +kernel
theorem dX10_sizeOf_127 : decode cX10_sizeOf 127 = .ok (.getfield 34, 3) := by decide +kernel
theorem dX10_sizeOf_130 : decode cX10_sizeOf 130 = .ok (.iload_n 2, 1) := by decide +kernel
theorem dX10_sizeOf_131 : decode cX10_sizeOf 131 = .ok (.iaload, 1) := by decide +kernel
theorem dX10_sizeOf_132 : decode cX10_sizeOf 132 = .ok (.i2l, 1) := by decide +kernel
theorem dX10_sizeOf_133 : decode cX10_sizeOf 133 = .ok (.aload_n 0, 1) := by decide +kernel
theorem dX10_sizeOf_134 : decode cX10_sizeOf 134 = .ok (.getfield 83, 3) := by decide +kernel
theorem dX10_sizeOf_137 : decode cX10_sizeOf 137 = .ok (.iload_n 2, 1) := by decide +kernel
theorem dX10_sizeOf_138 : decode cX10_sizeOf 138 = .ok (.laload, 1) := by decide +kernel
theorem dX10_sizeOf_139 : decode cX10_sizeOf 139 = .ok (.lmul, 1) := by decide +kernel
theorem dX10_sizeOf_140 : decode cX10_sizeOf 140 = .ok (.ladd, 1) := by decide +kernel
theorem dX10_sizeOf_141 : decode cX10_sizeOf 141 = .ok (.aload_n 0, 1) := by decide +kernel
theorem dX10_sizeOf_142 : decode cX10_sizeOf 142 = .ok (.getfield 76, 3) := by decide +kernel
theorem dX10_sizeOf_145 : decode cX10_sizeOf 145 = .ok (.iload_n 1, 1) := by decide +kernel
theorem dX10_sizeOf_146 : decode cX10_sizeOf 146 = .ok (.laload, 1) := by decide +kernel
theorem dX10_sizeOf_147 : decode cX10_sizeOf 147 = .ok (.lsub, 1) := by decide +kernel
theorem dX10_sizeOf_148 : decode cX10_sizeOf 148 = .ok (.lreturn, 1) := by decide +kernel
theorem dX10_sizeOf_149 : decode cX10_sizeOf 149 = .ok (.iinc 2 1, 3) := by decide +kernel
theorem dX10_sizeOf_152 : decode cX10_sizeOf 152 = .ok (.goto (-101), 3) := by decide +kernel
theorem dX10_sizeOf_155 : decode cX10_sizeOf 155 = .ok (.aload_n 0, 1) := by decide +kernel
theorem dX10_sizeOf_156 : decode cX10_sizeOf 156 = .ok (.getfield 80, 3) := by decide +kernel
theorem dX10_sizeOf_159 : decode cX10_sizeOf 159 = .ok (.iload_n 1, 1) := by decide +kernel
theorem dX10_sizeOf_160 : decode cX10_sizeOf 160 = .ok (.laload, 1) := by decide +kernel
theorem dX10_sizeOf_161 : decode cX10_sizeOf 161 = .ok (.lreturn, 1) := by decide +kernel
def VX10_sizeOf_115 (g : jg) (a0 : Nat) (x1 : Int32) (x2 : Int32) (x3 : Int32) (h : jh) (k n : Nat) (Q : jq) : Prop := ((¬ (x3) = (x1) → jG g mX10_sizeOf 51 [(0, .inr (.inr (some (a0)))), (1, .inl (x1)), (2, .inl ((x2) + 1))] [] h k n Q) ∧ ((x3) = (x1) → (jt h a0 = 9) ∧ (¬ (jr h 539 a0) = none) ∧ (jt h (jd (jr h 539 a0)) = 22) ∧ (vp_in (x2) (jn h (jd (jr h 539 a0)))) ∧ (¬ (jr h 522 a0) = none) ∧ (jt h (jd (jr h 522 a0)) = 20) ∧ (vp_in (x2) (jn h (jd (jr h 522 a0)))) ∧ (¬ (jr h 541 a0) = none) ∧ (jt h (jd (jr h 541 a0)) = 22) ∧ (vp_in (x2) (jn h (jd (jr h 541 a0)))) ∧ (vp_in (x1) (jn h (jd (jr h 539 a0)))) ∧ Q (.inl (some (.inr (.inl (((jL h (jd (jr h 539 a0)) (x2 : Int32).toNatClampNeg) + (((jI h (jd (jr h 522 a0)) (x2 : Int32).toNatClampNeg : Int32).toInt64) * (jL h (jd (jr h 541 a0)) (x2 : Int32).toNatClampNeg))) - (jL h (jd (jr h 539 a0)) (x1 : Int32).toNatClampNeg)))))) h))
set_option maxRecDepth 20000 in
theorem vX10_sizeOf_115 {g : jg} {a0 : Nat} {x1 : Int32} {x2 : Int32} {x3 : Int32} {h : jh} {k n : Nat} {Q : jq} (hv : VX10_sizeOf_115 g a0 x1 x2 x3 h k n Q) : jG g mX10_sizeOf 115 [(0, .inr (.inr (some (a0)))), (1, .inl (x1)), (2, .inl (x2)), (3, .inl (x3))] [] h k n Q := by
  unfold VX10_sizeOf_115 at hv
  refine jg_iload_n dX10_sizeOf_115 rfl (List.Mem.tail _ (List.Mem.tail _ (List.Mem.tail _ (List.Mem.head _)))) ?_
  refine jg_iload_n dX10_sizeOf_116 rfl (List.Mem.tail _ (List.Mem.head _)) ?_
  refine jg_icmp_ne (tgt := 149) dX10_sizeOf_117 (by decide) (fun c1 => ?_) (fun c1 => ?_)
  · replace hv := hv.1 c1
    refine jg_iinc (v := (x2) + 1) (lv' := [(2, .inl ((x2) + 1)), (0, .inr (.inr (some (a0)))), (1, .inl (x1)), (3, .inl (x3))]) dX10_sizeOf_149 (List.Mem.tail _ (List.Mem.tail _ (List.Mem.head _))) rfl (by decide) rfl ?_
    refine jg_goto (tgt := 51) dX10_sizeOf_152 (by decide) ?_
    refine jG.sub (lv' := [(0, .inr (.inr (some (a0)))), (1, .inl (x1)), (2, .inl ((x2) + 1))]) (by simp) ?_
    exact hv
  · replace hv := hv.2 c1
    refine jg_aload_n dX10_sizeOf_120 rfl (List.Mem.head _) ?_
    obtain ⟨f2, hv⟩ := hv
    refine jg_getr dX10_sizeOf_121 fl_RX10_76 rfl jsn f2 ?_
    refine jg_iload_n dX10_sizeOf_124 rfl (List.Mem.tail _ (List.Mem.tail _ (List.Mem.head _))) ?_
    obtain ⟨f3, hv⟩ := hv
    obtain ⟨f4, hv⟩ := hv
    obtain ⟨f5, hv⟩ := hv
    refine jg_lald dX10_sizeOf_125 f3 f4 f5 ?_
    refine jg_aload_n dX10_sizeOf_126 rfl (List.Mem.head _) ?_
    refine jg_getr dX10_sizeOf_127 fl_RX10_34 rfl jsn f2 ?_
    refine jg_iload_n dX10_sizeOf_130 rfl (List.Mem.tail _ (List.Mem.tail _ (List.Mem.head _))) ?_
    obtain ⟨f6, hv⟩ := hv
    obtain ⟨f7, hv⟩ := hv
    obtain ⟨f8, hv⟩ := hv
    refine jg_iald dX10_sizeOf_131 f6 f7 f8 ?_
    refine jg_i2l dX10_sizeOf_132 ?_
    refine jg_aload_n dX10_sizeOf_133 rfl (List.Mem.head _) ?_
    refine jg_getr dX10_sizeOf_134 fl_RX10_83 rfl jsn f2 ?_
    refine jg_iload_n dX10_sizeOf_137 rfl (List.Mem.tail _ (List.Mem.tail _ (List.Mem.head _))) ?_
    obtain ⟨f9, hv⟩ := hv
    obtain ⟨f10, hv⟩ := hv
    obtain ⟨f11, hv⟩ := hv
    refine jg_lald dX10_sizeOf_138 f9 f10 f11 ?_
    refine jg_lmul dX10_sizeOf_139 ?_
    refine jg_ladd dX10_sizeOf_140 ?_
    refine jg_aload_n dX10_sizeOf_141 rfl (List.Mem.head _) ?_
    refine jg_getr dX10_sizeOf_142 fl_RX10_76 rfl jsn f2 ?_
    refine jg_iload_n dX10_sizeOf_145 rfl (List.Mem.tail _ (List.Mem.head _)) ?_
    obtain ⟨f12, hv⟩ := hv
    refine jg_lald dX10_sizeOf_146 f3 f4 f12 ?_
    refine jg_lsub dX10_sizeOf_147 ?_
    exact jg_lret dX10_sizeOf_148 rfl hv
def VX10_sizeOf_91 (g : jg) (a0 : Nat) (x1 : Int32) (x2 : Int32) (x3 : Int32) (h : jh) (k n : Nat) (Q : jq) : Prop := (((x3) = (x1) → VX10_sizeOf_115 g (a0) (x1) (x2) (x3) h k n Q) ∧ (¬ (x3) = (x1) → (jt h a0 = 9) ∧ (¬ (jr h 529 a0) = none) ∧ (jt h (jd (jr h 529 a0)) = 20) ∧ (vp_in (x3) (jn h (jd (jr h 529 a0)))) ∧ ((¬ (jI h (jd (jr h 529 a0)) (x3 : Int32).toNatClampNeg) = 0 → VX10_sizeOf_115 g (a0) (x1) (x2) (x3) h k n Q) ∧ ((jI h (jd (jr h 529 a0)) (x3 : Int32).toNatClampNeg) = 0 → (¬ (jr h 517 a0) = none) ∧ (jt h (jd (jr h 517 a0)) = 20) ∧ (vp_in (x3) (jn h (jd (jr h 517 a0)))) ∧ jG g mX10_sizeOf 91 [(0, .inr (.inr (some (a0)))), (1, .inl (x1)), (2, .inl (x2)), (3, .inl (jI h (jd (jr h 517 a0)) (x3 : Int32).toNatClampNeg))] [] h k n Q))))
set_option maxRecDepth 20000 in
theorem vX10_sizeOf_91 {g : jg} {a0 : Nat} {x1 : Int32} {x2 : Int32} {x3 : Int32} {h : jh} {k n : Nat} {Q : jq} (hv : VX10_sizeOf_91 g a0 x1 x2 x3 h k n Q) : jG g mX10_sizeOf 91 [(0, .inr (.inr (some (a0)))), (1, .inl (x1)), (2, .inl (x2)), (3, .inl (x3))] [] h k n Q := by
  unfold VX10_sizeOf_91 at hv
  refine jg_iload_n dX10_sizeOf_91 rfl (List.Mem.tail _ (List.Mem.tail _ (List.Mem.tail _ (List.Mem.head _)))) ?_
  refine jg_iload_n dX10_sizeOf_92 rfl (List.Mem.tail _ (List.Mem.head _)) ?_
  refine jg_icmp_eq (tgt := 115) dX10_sizeOf_93 (by decide) (fun c13 => ?_) (fun c13 => ?_)
  · replace hv := hv.1 c13
    exact vX10_sizeOf_115 hv
  · replace hv := hv.2 c13
    refine jg_aload_n dX10_sizeOf_96 rfl (List.Mem.head _) ?_
    obtain ⟨f14, hv⟩ := hv
    refine jg_getr dX10_sizeOf_97 fl_RX10_56 rfl jsn f14 ?_
    refine jg_iload_n dX10_sizeOf_100 rfl (List.Mem.tail _ (List.Mem.tail _ (List.Mem.tail _ (List.Mem.head _)))) ?_
    obtain ⟨f15, hv⟩ := hv
    obtain ⟨f16, hv⟩ := hv
    obtain ⟨f17, hv⟩ := hv
    refine jg_iald dX10_sizeOf_101 f15 f16 f17 ?_
    refine jg_if_ne (tgt := 115) dX10_sizeOf_102 (by decide) (fun c18 => ?_) (fun c18 => ?_)
    · replace hv := hv.1 c18
      exact vX10_sizeOf_115 hv
    · replace hv := hv.2 c18
      refine jg_aload_n dX10_sizeOf_105 rfl (List.Mem.head _) ?_
      refine jg_getr dX10_sizeOf_106 fl_RX10_19 rfl jsn f14 ?_
      refine jg_iload_n dX10_sizeOf_109 rfl (List.Mem.tail _ (List.Mem.tail _ (List.Mem.tail _ (List.Mem.head _)))) ?_
      obtain ⟨f19, hv⟩ := hv
      obtain ⟨f20, hv⟩ := hv
      obtain ⟨f21, hv⟩ := hv
      refine jg_iald dX10_sizeOf_110 f19 f20 f21 ?_
      refine jg_istore_n (lv' := [(3, .inl (jI h (jd (jr h 517 a0)) (x3 : Int32).toNatClampNeg)), (0, .inr (.inr (some (a0)))), (1, .inl (x1)), (2, .inl (x2))]) dX10_sizeOf_111 rfl (by decide) rfl ?_
      refine jg_goto (tgt := 91) dX10_sizeOf_112 (by decide) ?_
      refine jG.sub (lv' := [(0, .inr (.inr (some (a0)))), (1, .inl (x1)), (2, .inl (x2)), (3, .inl (jI h (jd (jr h 517 a0)) (x3 : Int32).toNatClampNeg))]) (by simp) ?_
      exact hv
def VX10_sizeOf_51 (g : jg) (a0 : Nat) (x1 : Int32) (x2 : Int32) (h : jh) (k n : Nat) (Q : jq) : Prop := (jt h a0 = 9) ∧ (((ji h 513 a0) < (x2) → (¬ (jr h 540 a0) = none) ∧ (jt h (jd (jr h 540 a0)) = 22) ∧ (vp_in (x1) (jn h (jd (jr h 540 a0)))) ∧ Q (.inl (some (.inr (.inl (jL h (jd (jr h 540 a0)) (x1 : Int32).toNatClampNeg))))) h) ∧ (¬ (ji h 513 a0) < (x2) → jM g mX10_lies [.inr (.inr (some a0)), .inl (x2)] h 0 0 (jki (fun (r27 : Int32) (h28 : jh) => (((r27) = 0 → jG g mX10_sizeOf 51 [(0, .inr (.inr (some (a0)))), (1, .inl (x1)), (2, .inl ((x2) + 1))] [] h28 k n Q) ∧ (¬ (r27) = 0 → (jt h28 a0 = 9) ∧ (¬ (jr h28 519 a0) = none) ∧ (jt h28 (jd (jr h28 519 a0)) = 20) ∧ (vp_in (x2) (jn h28 (jd (jr h28 519 a0)))) ∧ ((¬ (jI h28 (jd (jr h28 519 a0)) (x2 : Int32).toNatClampNeg) = (2) → jG g mX10_sizeOf 51 [(0, .inr (.inr (some (a0)))), (1, .inl (x1)), (2, .inl ((x2) + 1))] [] h28 k n Q) ∧ ((jI h28 (jd (jr h28 519 a0)) (x2 : Int32).toNatClampNeg) = (2) → jM g mX10_isBelow [.inr (.inr (some a0)), .inl (x2), .inl (x1)] h28 0 0 (jki (fun (r35 : Int32) (h36 : jh) => ((¬ (r35) = 0 → jG g mX10_sizeOf 91 [(0, .inr (.inr (some (a0)))), (1, .inl (x1)), (2, .inl (x2)), (3, .inl (x2))] [] h36 k n Q) ∧ ((r35) = 0 → jG g mX10_sizeOf 51 [(0, .inr (.inr (some (a0)))), (1, .inl (x1)), (2, .inl ((x2) + 1))] [] h36 k n Q))) (fun e h9 => Q (.inr e) h9))))))) (fun e h9 => Q (.inr e) h9))))
set_option maxRecDepth 20000 in
theorem vX10_sizeOf_51 {g : jg} {a0 : Nat} {x1 : Int32} {x2 : Int32} {h : jh} {k n : Nat} {Q : jq} (hv : VX10_sizeOf_51 g a0 x1 x2 h k n Q) : jG g mX10_sizeOf 51 [(0, .inr (.inr (some (a0)))), (1, .inl (x1)), (2, .inl (x2))] [] h k n Q := by
  unfold VX10_sizeOf_51 at hv
  refine jg_iload_n dX10_sizeOf_51 rfl (List.Mem.tail _ (List.Mem.tail _ (List.Mem.head _))) ?_
  refine jg_aload_n dX10_sizeOf_52 rfl (List.Mem.head _) ?_
  obtain ⟨f22, hv⟩ := hv
  refine jg_geti dX10_sizeOf_53 fl_RX10_102 rfl jsn f22 ?_
  refine jg_icmp_gt (tgt := 155) dX10_sizeOf_56 (by decide) (fun c23 => ?_) (fun c23 => ?_)
  · replace hv := hv.1 c23
    refine jg_aload_n dX10_sizeOf_155 rfl (List.Mem.head _) ?_
    refine jg_getr dX10_sizeOf_156 fl_RX10_80 rfl jsn f22 ?_
    refine jg_iload_n dX10_sizeOf_159 rfl (List.Mem.tail _ (List.Mem.head _)) ?_
    obtain ⟨f24, hv⟩ := hv
    obtain ⟨f25, hv⟩ := hv
    obtain ⟨f26, hv⟩ := hv
    refine jg_lald dX10_sizeOf_160 f24 f25 f26 ?_
    exact jg_lret dX10_sizeOf_161 rfl hv
  · replace hv := hv.2 c23
    refine jg_aload_n dX10_sizeOf_59 rfl (List.Mem.head _) ?_
    refine jg_iload_n dX10_sizeOf_60 rfl (List.Mem.tail _ (List.Mem.tail _ (List.Mem.head _))) ?_
    refine jp_callV mX10_lies [.inl (x2)] [] dX10_sizeOf_61 rfl cl_RX10_105 ⟨⟨by decide, by decide⟩, by decide⟩ jsn f22 (Nat.zero_le _) (Nat.zero_le _) (jM.mono (jki_k (fun r27 h28 hv => ?_)) hv)
    refine jg_if_eq (tgt := 149) dX10_sizeOf_64 (by decide) (fun c29 => ?_) (fun c29 => ?_)
    · replace hv := hv.1 c29
      refine jg_iinc (v := (x2) + 1) (lv' := [(2, .inl ((x2) + 1)), (0, .inr (.inr (some (a0)))), (1, .inl (x1))]) dX10_sizeOf_149 (List.Mem.tail _ (List.Mem.tail _ (List.Mem.head _))) rfl (by decide) rfl ?_
      refine jg_goto (tgt := 51) dX10_sizeOf_152 (by decide) ?_
      refine jG.sub (lv' := [(0, .inr (.inr (some (a0)))), (1, .inl (x1)), (2, .inl ((x2) + 1))]) (by simp) ?_
      exact hv
    · replace hv := hv.2 c29
      refine jg_aload_n dX10_sizeOf_67 rfl (List.Mem.head _) ?_
      obtain ⟨f30, hv⟩ := hv
      refine jg_getr dX10_sizeOf_68 fl_RX10_25 rfl jsn f30 ?_
      refine jg_iload_n dX10_sizeOf_71 rfl (List.Mem.tail _ (List.Mem.tail _ (List.Mem.head _))) ?_
      obtain ⟨f31, hv⟩ := hv
      obtain ⟨f32, hv⟩ := hv
      obtain ⟨f33, hv⟩ := hv
      refine jg_iald dX10_sizeOf_72 f31 f32 f33 ?_
      refine jg_iconst (v := 2) dX10_sizeOf_73 (by decide) ?_
      refine jg_icmp_ne (tgt := 149) dX10_sizeOf_74 (by decide) (fun c34 => ?_) (fun c34 => ?_)
      · replace hv := hv.1 c34
        refine jg_iinc (v := (x2) + 1) (lv' := [(2, .inl ((x2) + 1)), (0, .inr (.inr (some (a0)))), (1, .inl (x1))]) dX10_sizeOf_149 (List.Mem.tail _ (List.Mem.tail _ (List.Mem.head _))) rfl (by decide) rfl ?_
        refine jg_goto (tgt := 51) dX10_sizeOf_152 (by decide) ?_
        refine jG.sub (lv' := [(0, .inr (.inr (some (a0)))), (1, .inl (x1)), (2, .inl ((x2) + 1))]) (by simp) ?_
        exact hv
      · replace hv := hv.2 c34
        refine jg_aload_n dX10_sizeOf_77 rfl (List.Mem.head _) ?_
        refine jg_iload_n dX10_sizeOf_78 rfl (List.Mem.tail _ (List.Mem.tail _ (List.Mem.head _))) ?_
        refine jg_iload_n dX10_sizeOf_79 rfl (List.Mem.tail _ (List.Mem.head _)) ?_
        refine jp_callV mX10_isBelow [.inl (x2), .inl (x1)] [] dX10_sizeOf_80 rfl cl_RX10_131 ⟨⟨by decide, by decide⟩, by decide⟩ jsn f30 (Nat.zero_le _) (Nat.zero_le _) (jM.mono (jki_k (fun r35 h36 hv => ?_)) hv)
        refine jg_if_ne (tgt := 89) dX10_sizeOf_83 (by decide) (fun c37 => ?_) (fun c37 => ?_)
        · replace hv := hv.1 c37
          refine jg_iload_n dX10_sizeOf_89 rfl (List.Mem.tail _ (List.Mem.tail _ (List.Mem.head _))) ?_
          refine jg_istore_n (lv' := [(3, .inl (x2)), (0, .inr (.inr (some (a0)))), (1, .inl (x1)), (2, .inl (x2))]) dX10_sizeOf_90 rfl (by decide) rfl ?_
          refine jG.sub (lv' := [(0, .inr (.inr (some (a0)))), (1, .inl (x1)), (2, .inl (x2)), (3, .inl (x2))]) (by simp) ?_
          exact hv
        · replace hv := hv.2 c37
          refine jg_goto (tgt := 149) dX10_sizeOf_86 (by decide) ?_
          refine jg_iinc (v := (x2) + 1) (lv' := [(2, .inl ((x2) + 1)), (0, .inr (.inr (some (a0)))), (1, .inl (x1))]) dX10_sizeOf_149 (List.Mem.tail _ (List.Mem.tail _ (List.Mem.head _))) rfl (by decide) rfl ?_
          refine jg_goto (tgt := 51) dX10_sizeOf_152 (by decide) ?_
          refine jG.sub (lv' := [(0, .inr (.inr (some (a0)))), (1, .inl (x1)), (2, .inl ((x2) + 1))]) (by simp) ?_
          exact hv
def VX10_sizeOf_0 (g : jg) (a0 : Nat) (x1 : Int32) (h : jh) (k n : Nat) (Q : jq) : Prop := (jt h a0 = 9) ∧ (¬ (jr h 514 a0) = none) ∧ (jt h (jd (jr h 514 a0)) = 20) ∧ (vp_in (x1) (jn h (jd (jr h 514 a0)))) ∧ ((¬ (jI h (jd (jr h 514 a0)) (x1 : Int32).toNatClampNeg) = (66) → jG g mX10_sizeOf 51 [(0, .inr (.inr (some (a0)))), (1, .inl (x1)), (2, .inl ((x1) + (1)))] [] h k n Q) ∧ ((jI h (jd (jr h 514 a0)) (x1 : Int32).toNatClampNeg) = (66) → (¬ (jr h 528 a0) = none) ∧ (jt h (jd (jr h 528 a0)) = 20) ∧ (vp_in (x1) (jn h (jd (jr h 528 a0)))) ∧ (¬ (jr h 539 a0) = none) ∧ (jt h (jd (jr h 539 a0)) = 22) ∧ (vp_in (jI h (jd (jr h 528 a0)) (x1 : Int32).toNatClampNeg) (jn h (jd (jr h 539 a0)))) ∧ (¬ (jr h 540 a0) = none) ∧ (jt h (jd (jr h 540 a0)) = 22) ∧ (vp_in (jI h (jd (jr h 528 a0)) (x1 : Int32).toNatClampNeg) (jn h (jd (jr h 540 a0)))) ∧ (¬ (jr h 527 a0) = none) ∧ (jt h (jd (jr h 527 a0)) = 20) ∧ (vp_in (x1) (jn h (jd (jr h 527 a0)))) ∧ (vp_in (jI h (jd (jr h 527 a0)) (x1 : Int32).toNatClampNeg) (jn h (jd (jr h 539 a0)))) ∧ Q (.inl (some (.inr (.inl (((jL h (jd (jr h 539 a0)) (jI h (jd (jr h 528 a0)) (x1 : Int32).toNatClampNeg : Int32).toNatClampNeg) + (jL h (jd (jr h 540 a0)) (jI h (jd (jr h 528 a0)) (x1 : Int32).toNatClampNeg : Int32).toNatClampNeg)) - (jL h (jd (jr h 539 a0)) (jI h (jd (jr h 527 a0)) (x1 : Int32).toNatClampNeg : Int32).toNatClampNeg)))))) h))
set_option maxRecDepth 20000 in
theorem vX10_sizeOf_0 {g : jg} {a0 : Nat} {x1 : Int32} {h : jh} {k n : Nat} {Q : jq} (hv : VX10_sizeOf_0 g a0 x1 h k n Q) : jG g mX10_sizeOf 0 [(0, .inr (.inr (some (a0)))), (1, .inl (x1))] [] h k n Q := by
  unfold VX10_sizeOf_0 at hv
  refine jg_aload_n dX10_sizeOf_0 rfl (List.Mem.head _) ?_
  obtain ⟨f38, hv⟩ := hv
  refine jg_getr dX10_sizeOf_1 fl_RX10_7 rfl jsn f38 ?_
  refine jg_iload_n dX10_sizeOf_4 rfl (List.Mem.tail _ (List.Mem.head _)) ?_
  obtain ⟨f39, hv⟩ := hv
  obtain ⟨f40, hv⟩ := hv
  obtain ⟨f41, hv⟩ := hv
  refine jg_iald dX10_sizeOf_5 f39 f40 f41 ?_
  refine jg_bipush (v := 66) dX10_sizeOf_6 (by decide) ?_
  refine jg_icmp_ne (tgt := 47) dX10_sizeOf_8 (by decide) (fun c42 => ?_) (fun c42 => ?_)
  · replace hv := hv.1 c42
    refine jg_iload_n dX10_sizeOf_47 rfl (List.Mem.tail _ (List.Mem.head _)) ?_
    refine jg_iconst (v := 1) dX10_sizeOf_48 (by decide) ?_
    refine jg_iadd dX10_sizeOf_49 ?_
    refine jg_istore_n (lv' := [(2, .inl ((x1) + (1))), (0, .inr (.inr (some (a0)))), (1, .inl (x1))]) dX10_sizeOf_50 rfl (by decide) rfl ?_
    refine jG.sub (lv' := [(0, .inr (.inr (some (a0)))), (1, .inl (x1)), (2, .inl ((x1) + (1)))]) (by simp) ?_
    exact hv
  · replace hv := hv.2 c42
    refine jg_aload_n dX10_sizeOf_11 rfl (List.Mem.head _) ?_
    refine jg_getr dX10_sizeOf_12 fl_RX10_76 rfl jsn f38 ?_
    refine jg_aload_n dX10_sizeOf_15 rfl (List.Mem.head _) ?_
    refine jg_getr dX10_sizeOf_16 fl_RX10_53 rfl jsn f38 ?_
    refine jg_iload_n dX10_sizeOf_19 rfl (List.Mem.tail _ (List.Mem.head _)) ?_
    obtain ⟨f43, hv⟩ := hv
    obtain ⟨f44, hv⟩ := hv
    obtain ⟨f45, hv⟩ := hv
    refine jg_iald dX10_sizeOf_20 f43 f44 f45 ?_
    obtain ⟨f46, hv⟩ := hv
    obtain ⟨f47, hv⟩ := hv
    obtain ⟨f48, hv⟩ := hv
    refine jg_lald dX10_sizeOf_21 f46 f47 f48 ?_
    refine jg_aload_n dX10_sizeOf_22 rfl (List.Mem.head _) ?_
    refine jg_getr dX10_sizeOf_23 fl_RX10_80 rfl jsn f38 ?_
    refine jg_aload_n dX10_sizeOf_26 rfl (List.Mem.head _) ?_
    refine jg_getr dX10_sizeOf_27 fl_RX10_53 rfl jsn f38 ?_
    refine jg_iload_n dX10_sizeOf_30 rfl (List.Mem.tail _ (List.Mem.head _)) ?_
    refine jg_iald dX10_sizeOf_31 f43 f44 f45 ?_
    obtain ⟨f49, hv⟩ := hv
    obtain ⟨f50, hv⟩ := hv
    obtain ⟨f51, hv⟩ := hv
    refine jg_lald dX10_sizeOf_32 f49 f50 f51 ?_
    refine jg_ladd dX10_sizeOf_33 ?_
    refine jg_aload_n dX10_sizeOf_34 rfl (List.Mem.head _) ?_
    refine jg_getr dX10_sizeOf_35 fl_RX10_76 rfl jsn f38 ?_
    refine jg_aload_n dX10_sizeOf_38 rfl (List.Mem.head _) ?_
    refine jg_getr dX10_sizeOf_39 fl_RX10_50 rfl jsn f38 ?_
    refine jg_iload_n dX10_sizeOf_42 rfl (List.Mem.tail _ (List.Mem.head _)) ?_
    obtain ⟨f52, hv⟩ := hv
    obtain ⟨f53, hv⟩ := hv
    obtain ⟨f54, hv⟩ := hv
    refine jg_iald dX10_sizeOf_43 f52 f53 f54 ?_
    obtain ⟨f55, hv⟩ := hv
    refine jg_lald dX10_sizeOf_44 f46 f47 f55 ?_
    refine jg_lsub dX10_sizeOf_45 ?_
    exact jg_lret dX10_sizeOf_46 rfl hv
theorem eX10_sizeOf {g : jg} {a0 : Nat} {x1 : Int32} {h : jh} {mc ms : Nat} {Q : jq} (hv : VX10_sizeOf_0 g a0 x1 h mc ms Q) : jM g mX10_sizeOf [.inr (.inr (some (a0))), .inl (x1)] h mc ms Q := jM.of (by decide) (Nat.le_of_ble_eq_true rfl) (lv := [(0, .inr (.inr (some (a0)))), (1, .inl (x1))]) rfl (vX10_sizeOf_0 hv)
theorem dX10_place_0 : decode cX10_place 0 = .ok (.aload_n 0, 1) := by decide +kernel
theorem dX10_place_1 : decode cX10_place 1 = .ok (.iconst 0, 1) := by decide +kernel
theorem dX10_place_2 : decode cX10_place 2 = .ok (.putfield 98, 3) := by decide +kernel
theorem dX10_place_5 : decode cX10_place 5 = .ok (.aload_n 0, 1) := by decide +kernel
theorem dX10_place_6 : decode cX10_place 6 = .ok (.iload_n 1, 1) := by decide +kernel
theorem dX10_place_7 : decode cX10_place 7 = .ok (.iconst 0, 1) := by decide +kernel
theorem dX10_place_8 : decode cX10_place 8 = .ok (.invokevirtual 215, 3) := by decide +kernel
theorem dX10_place_11 : decode cX10_place 11 = .ok (.istore_n 2, 1) := by decide +kernel
theorem dX10_place_12 : decode cX10_place 12 = .ok (.iload_n 2, 1) := by decide +kernel
theorem dX10_place_13 : decode cX10_place 13 = .ok (.ifCond .ge 7, 3) := by decide +kernel
theorem dX10_place_16 : decode cX10_place 16 = .ok (.iload_n 2, 1) := by decide +kernel
theorem dX10_place_17 : decode cX10_place 17 = .ok (.goto 9, 3) := by decide +kernel
theorem dX10_place_20 : decode cX10_place 20 = .ok (.aload_n 0, 1) := by decide +kernel
theorem dX10_place_21 : decode cX10_place 21 = .ok (.iload_n 1, 1) := by decide +kernel
theorem dX10_place_22 : decode cX10_place 22 = .ok (.invokevirtual 219, 3) := by decide +kernel
theorem dX10_place_25 : decode cX10_place 25 = .ok (.l2i, 1) := by decide +kernel
theorem dX10_place_26 : decode cX10_place 26 = .ok (.ireturn, 1) := by decide +kernel
def VX10_place_0 (g : jg) (a0 : Nat) (x1 : Int32) (h : jh) (k n : Nat) (Q : jq) : Prop := (jt h a0 = 9) ∧ ∀ h2 : jh, h2 = jsi h 512 a0 (0) → jM g mX10_refused [.inr (.inr (some a0)), .inl (x1), .inl (0)] h2 0 0 (jki (fun (r4 : Int32) (h5 : jh) => ((0 ≤ (r4) → (jt h5 a0 = 9) ∧ jM g mX10_placeOf [.inr (.inr (some a0)), .inl (x1)] h5 0 0 (jkl (fun (r8 : Int64) (h9 : jh) => Q (.inl (some (.inl ((r8 : Int64).toInt32)))) h9) (fun e h9 => Q (.inr e) h9))) ∧ (¬ 0 ≤ (r4) → Q (.inl (some (.inl (r4)))) h5))) (fun e h9 => Q (.inr e) h9))
set_option maxRecDepth 20000 in
theorem vX10_place_0 {g : jg} {a0 : Nat} {x1 : Int32} {h : jh} {k n : Nat} {Q : jq} (hv : VX10_place_0 g a0 x1 h k n Q) : jG g mX10_place 0 [(0, .inr (.inr (some (a0)))), (1, .inl (x1))] [] h k n Q := by
  unfold VX10_place_0 at hv
  refine jg_aload_n dX10_place_0 rfl (List.Mem.head _) ?_
  refine jg_iconst (v := 0) dX10_place_1 (by decide) ?_
  obtain ⟨f1, hv⟩ := hv
  obtain ⟨h2, e3⟩ : ∃ z : jh, z = jsi h 512 a0 (0) := ⟨_, rfl⟩
  replace hv := hv h2 e3
  refine jp_puti dX10_place_2 (jfp.nf fl_RX10_98 (fun q hq => by cases hq; rfl)) rfl jsn f1 e3 ?_
  refine jg_aload_n dX10_place_5 rfl (List.Mem.head _) ?_
  refine jg_iload_n dX10_place_6 rfl (List.Mem.tail _ (List.Mem.head _)) ?_
  refine jg_iconst (v := 0) dX10_place_7 (by decide) ?_
  refine jp_callV mX10_refused [.inl (x1), .inl (0)] [] dX10_place_8 rfl cl_RX10_215 ⟨⟨by decide, by decide⟩, by decide⟩ jsn ((congrArg (fun z => jt z a0) e3).trans f1) (Nat.zero_le _) (Nat.zero_le _) (jM.mono (jki_k (fun r4 h5 hv => ?_)) hv)
  refine jg_istore_n (lv' := [(2, .inl (r4)), (0, .inr (.inr (some (a0)))), (1, .inl (x1))]) dX10_place_11 rfl (by decide) rfl ?_
  refine jg_iload_n dX10_place_12 rfl (List.Mem.head _) ?_
  refine jg_if_ge (tgt := 20) dX10_place_13 (by decide) (fun c6 => ?_) (fun c6 => ?_)
  · replace hv := hv.1 c6
    refine jg_aload_n dX10_place_20 rfl (List.Mem.tail _ (List.Mem.head _)) ?_
    refine jg_iload_n dX10_place_21 rfl (List.Mem.tail _ (List.Mem.tail _ (List.Mem.head _))) ?_
    obtain ⟨f7, hv⟩ := hv
    refine jp_callV mX10_placeOf [.inl (x1)] [] dX10_place_22 rfl cl_RX10_219 ⟨⟨by decide, by decide⟩, by decide⟩ jsn f7 (Nat.zero_le _) (Nat.zero_le _) (jM.mono (jkl_k (fun r8 h9 hv => ?_)) hv)
    refine jg_l2i dX10_place_25 ?_
    exact jg_iret dX10_place_26 rfl hv
  · replace hv := hv.2 c6
    refine jg_iload_n dX10_place_16 rfl (List.Mem.head _) ?_
    refine jg_goto (tgt := 26) dX10_place_17 (by decide) ?_
    exact jg_iret dX10_place_26 rfl hv
theorem eX10_place {g : jg} {a0 : Nat} {x1 : Int32} {h : jh} {mc ms : Nat} {Q : jq} (hv : VX10_place_0 g a0 x1 h mc ms Q) : jM g mX10_place [.inr (.inr (some (a0))), .inl (x1)] h mc ms Q := jM.of (by decide) (Nat.le_of_ble_eq_true rfl) (lv := [(0, .inr (.inr (some (a0)))), (1, .inl (x1))]) rfl (vX10_place_0 hv)
theorem dX10_size_0 : decode cX10_size 0 = .ok (.aload_n 0, 1) := by decide +kernel
theorem dX10_size_1 : decode cX10_size 1 = .ok (.iconst 0, 1) := by decide +kernel
theorem dX10_size_2 : decode cX10_size 2 = .ok (.putfield 98, 3) := by decide +kernel
theorem dX10_size_5 : decode cX10_size 5 = .ok (.aload_n 0, 1) := by decide +kernel
theorem dX10_size_6 : decode cX10_size 6 = .ok (.iload_n 1, 1) := by decide +kernel
theorem dX10_size_7 : decode cX10_size 7 = .ok (.iconst 0, 1) := by decide +kernel
theorem dX10_size_8 : decode cX10_size 8 = .ok (.invokevirtual 215, 3) := by decide +kernel
theorem dX10_size_11 : decode cX10_size 11 = .ok (.istore_n 2, 1) := by decide +kernel
theorem dX10_size_12 : decode cX10_size 12 = .ok (.iload_n 2, 1) := by decide +kernel
theorem dX10_size_13 : decode cX10_size 13 = .ok (.ifCond .ge 7, 3) := by decide +kernel
theorem dX10_size_16 : decode cX10_size 16 = .ok (.iload_n 2, 1) := by decide +kernel
theorem dX10_size_17 : decode cX10_size 17 = .ok (.goto 9, 3) := by decide +kernel
theorem dX10_size_20 : decode cX10_size 20 = .ok (.aload_n 0, 1) := by decide +kernel
theorem dX10_size_21 : decode cX10_size 21 = .ok (.iload_n 1, 1) := by decide +kernel
theorem dX10_size_22 : decode cX10_size 22 = .ok (.invokevirtual 223, 3) := by decide +kernel
theorem dX10_size_25 : decode cX10_size 25 = .ok (.l2i, 1) := by decide +kernel
theorem dX10_size_26 : decode cX10_size 26 = .ok (.ireturn, 1) := by decide +kernel
def VX10_size_0 (g : jg) (a0 : Nat) (x1 : Int32) (h : jh) (k n : Nat) (Q : jq) : Prop := (jt h a0 = 9) ∧ ∀ h2 : jh, h2 = jsi h 512 a0 (0) → jM g mX10_refused [.inr (.inr (some a0)), .inl (x1), .inl (0)] h2 0 0 (jki (fun (r4 : Int32) (h5 : jh) => ((0 ≤ (r4) → (jt h5 a0 = 9) ∧ jM g mX10_sizeOf [.inr (.inr (some a0)), .inl (x1)] h5 0 0 (jkl (fun (r8 : Int64) (h9 : jh) => Q (.inl (some (.inl ((r8 : Int64).toInt32)))) h9) (fun e h9 => Q (.inr e) h9))) ∧ (¬ 0 ≤ (r4) → Q (.inl (some (.inl (r4)))) h5))) (fun e h9 => Q (.inr e) h9))
set_option maxRecDepth 20000 in
theorem vX10_size_0 {g : jg} {a0 : Nat} {x1 : Int32} {h : jh} {k n : Nat} {Q : jq} (hv : VX10_size_0 g a0 x1 h k n Q) : jG g mX10_size 0 [(0, .inr (.inr (some (a0)))), (1, .inl (x1))] [] h k n Q := by
  unfold VX10_size_0 at hv
  refine jg_aload_n dX10_size_0 rfl (List.Mem.head _) ?_
  refine jg_iconst (v := 0) dX10_size_1 (by decide) ?_
  obtain ⟨f1, hv⟩ := hv
  obtain ⟨h2, e3⟩ : ∃ z : jh, z = jsi h 512 a0 (0) := ⟨_, rfl⟩
  replace hv := hv h2 e3
  refine jp_puti dX10_size_2 (jfp.nf fl_RX10_98 (fun q hq => by cases hq; rfl)) rfl jsn f1 e3 ?_
  refine jg_aload_n dX10_size_5 rfl (List.Mem.head _) ?_
  refine jg_iload_n dX10_size_6 rfl (List.Mem.tail _ (List.Mem.head _)) ?_
  refine jg_iconst (v := 0) dX10_size_7 (by decide) ?_
  refine jp_callV mX10_refused [.inl (x1), .inl (0)] [] dX10_size_8 rfl cl_RX10_215 ⟨⟨by decide, by decide⟩, by decide⟩ jsn ((congrArg (fun z => jt z a0) e3).trans f1) (Nat.zero_le _) (Nat.zero_le _) (jM.mono (jki_k (fun r4 h5 hv => ?_)) hv)
  refine jg_istore_n (lv' := [(2, .inl (r4)), (0, .inr (.inr (some (a0)))), (1, .inl (x1))]) dX10_size_11 rfl (by decide) rfl ?_
  refine jg_iload_n dX10_size_12 rfl (List.Mem.head _) ?_
  refine jg_if_ge (tgt := 20) dX10_size_13 (by decide) (fun c6 => ?_) (fun c6 => ?_)
  · replace hv := hv.1 c6
    refine jg_aload_n dX10_size_20 rfl (List.Mem.tail _ (List.Mem.head _)) ?_
    refine jg_iload_n dX10_size_21 rfl (List.Mem.tail _ (List.Mem.tail _ (List.Mem.head _))) ?_
    obtain ⟨f7, hv⟩ := hv
    refine jp_callV mX10_sizeOf [.inl (x1)] [] dX10_size_22 rfl cl_RX10_223 ⟨⟨by decide, by decide⟩, by decide⟩ jsn f7 (Nat.zero_le _) (Nat.zero_le _) (jM.mono (jkl_k (fun r8 h9 hv => ?_)) hv)
    refine jg_l2i dX10_size_25 ?_
    exact jg_iret dX10_size_26 rfl hv
  · replace hv := hv.2 c6
    refine jg_iload_n dX10_size_16 rfl (List.Mem.head _) ?_
    refine jg_goto (tgt := 26) dX10_size_17 (by decide) ?_
    exact jg_iret dX10_size_26 rfl hv
theorem eX10_size {g : jg} {a0 : Nat} {x1 : Int32} {h : jh} {mc ms : Nat} {Q : jq} (hv : VX10_size_0 g a0 x1 h mc ms Q) : jM g mX10_size [.inr (.inr (some (a0))), .inl (x1)] h mc ms Q := jM.of (by decide) (Nat.le_of_ble_eq_true rfl) (lv := [(0, .inr (.inr (some (a0)))), (1, .inl (x1))]) rfl (vX10_size_0 hv)
theorem dX10_subscript_0 : decode cX10_subscript 0 = .ok (.aload_n 0, 1) := by decide +kernel
theorem dX10_subscript_1 : decode cX10_subscript 1 = .ok (.iconst 0, 1) := by decide +kernel
theorem dX10_subscript_2 : decode cX10_subscript 2 = .ok (.putfield 98, 3) := by decide +kernel
theorem dX10_subscript_5 : decode cX10_subscript 5 = .ok (.aload_n 0, 1) := by decide +kernel
theorem dX10_subscript_6 : decode cX10_subscript 6 = .ok (.iload_n 1, 1) := by decide +kernel
theorem dX10_subscript_7 : decode cX10_subscript 7 = .ok (.iconst 1, 1) := by decide +kernel
theorem dX10_subscript_8 : decode cX10_subscript 8 = .ok (.invokevirtual 215, 3) := by decide +kernel
theorem dX10_subscript_11 : decode cX10_subscript 11 = .ok (.istore 5, 2) := by decide +kernel
theorem dX10_subscript_13 : decode cX10_subscript 13 = .ok (.iload 5, 2) := by decide +kernel
theorem dX10_subscript_15 : decode cX10_subscript 15 = .ok (.ifCond .ge 6, 3) := by decide +kernel
theorem dX10_subscript_18 : decode cX10_subscript 18 = .ok (.iload 5, 2) := by decide +kernel
theorem dX10_subscript_20 : decode cX10_subscript 20 = .ok (.ireturn, 1) := by decide +kernel
theorem dX10_subscript_21 : decode cX10_subscript 21 = .ok (.aload_n 0, 1) := by decide +kernel
theorem dX10_subscript_22 : decode cX10_subscript 22 = .ok (.iload_n 1, 1) := by decide +kernel
theorem dX10_subscript_23 : decode cX10_subscript 23 = .ok (.invokevirtual 206, 3) := by decide +kernel
theorem dX10_subscript_26 : decode cX10_subscript 26 = .ok (.aload_n 0, 1) := by decide +kernel
theorem dX10_subscript_27 : decode cX10_subscript 27 = .ok (.getfield 76, 3) := by decide +kernel
theorem dX10_subscript_30 : decode cX10_subscript 30 = .ok (.iload_n 1, 1) := by decide +kernel
theorem dX10_subscript_31 : decode cX10_subscript 31 = .ok (.laload, 1) := by decide +kernel
theorem dX10_subscript_32 : decode cX10_subscript 32 = .ok (.lstore 6, 2) := by decide +kernel
theorem dX10_subscript_34 : decode cX10_subscript 34 = .ok (.iconst 0, 1) := by decide +kernel
theorem dX10_subscript_35 : decode cX10_subscript 35 = .ok (.istore 8, 2) := by decide +kernel
theorem dX10_subscript_37 : decode cX10_subscript 37 = .ok (.iload 8, 2) := by decide +kernel
theorem dX10_subscript_39 : decode cX10_subscript 39 = .ok (.aload_n 0, 1) := by decide +kernel
theorem dX10_subscript_40 : decode cX10_subscript 40 = .ok (.getfield 203, 3) := by decide +kernel
theorem dX10_subscript_43 : decode cX10_subscript 43 = .ok (.if_icmp .ge 109, 3) := by decide +kernel
theorem dX10_subscript_46 : decode cX10_subscript 46 = .ok (.iload 8, 2) := by decide +kernel
theorem dX10_subscript_48 : decode cX10_subscript 48 = .ok (.ifCond .ne 7, 3) := by decide +kernel
theorem dX10_subscript_51 : decode cX10_subscript 51 = .ok (.iload_n 2, 1) := by decide +kernel
theorem dX10_subscript_52 : decode cX10_subscript 52 = .ok (.goto 15, 3) := by decide +kernel
theorem dX10_subscript_55 : decode cX10_subscript 55 = .ok (.iload 8, 2) := by decide +kernel
theorem dX10_subscript_57 : decode cX10_subscript 57 = .ok (.iconst 1, 1) := by decide +kernel
theorem dX10_subscript_58 : decode cX10_subscript 58 = .ok (.if_icmp .ne 7, 3) := by decide +kernel
theorem dX10_subscript_61 : decode cX10_subscript 61 = .ok (.iload_n 3, 1) := by decide +kernel
theorem dX10_subscript_62 : decode cX10_subscript 62 = .ok (.goto 5, 3) := by decide +kernel
theorem dX10_subscript_65 : decode cX10_subscript 65 = .ok (.iload 4, 2) := by decide +kernel
theorem dX10_subscript_67 : decode cX10_subscript 67 = .ok (.istore 9, 2) := by decide +kernel
theorem dX10_subscript_69 : decode cX10_subscript 69 = .ok (.aload_n 0, 1) := by decide +kernel
theorem dX10_subscript_70 : decode cX10_subscript 70 = .ok (.dup, 1) := by decide +kernel
theorem dX10_subscript_71 : decode cX10_subscript 71 = .ok (.getfield 226, 3) := by decide +kernel
theorem dX10_subscript_74 : decode cX10_subscript 74 = .ok (.aload_n 0, 1) := by decide +kernel
theorem dX10_subscript_75 : decode cX10_subscript 75 = .ok (.getfield 68, 3) := by decide +kernel
theorem dX10_subscript_78 : decode cX10_subscript 78 = .ok (.ifCond .eq 7, 3) := by decide +kernel
theorem dX10_subscript_81 : decode cX10_subscript 81 = .ok (.iconst 1, 1) := by decide +kernel
theorem dX10_subscript_82 : decode cX10_subscript 82 = .ok (.goto 4, 3) := by decide +kernel
theorem dX10_subscript_85 : decode cX10_subscript 85 = .ok (.iconst 0, 1) := by decide +kernel
theorem dX10_subscript_86 : decode cX10_subscript 86 = .ok (.iadd, 1) := by decide +kernel
theorem dX10_subscript_87 : decode cX10_subscript 87 = .ok (.putfield 226, 3) := by decide +kernel
theorem dX10_subscript_90 : decode cX10_subscript 90 = .ok (.aload_n 0, 1) := by decide +kernel
theorem dX10_subscript_91 : decode cX10_subscript 91 = .ok (.getfield 68, 3) := by decide +kernel
theorem dX10_subscript_94 : decode cX10_subscript 94 = .ok (.ifCond .eq 29, 3) := by decide +kernel
theorem dX10_subscript_97 : decode cX10_subscript 97 = .ok (.iload 9, 2) := by decide +kernel
theorem dX10_subscript_99 : decode cX10_subscript 99 = .ok (.iconst 1, 1) := by decide +kernel
theorem dX10_subscript_100 : decode cX10_subscript 100 = .ok (.if_icmp .lt 20, 3) := by decide +kernel
theorem dX10_subscript_103 : decode cX10_subscript 103 = .ok (.iload 9, 2) := by decide +kernel
theorem dX10_subscript_105 : decode cX10_subscript 105 = .ok (.aload_n 0, 1) := by decide +kernel
theorem dX10_subscript_106 : decode cX10_subscript 106 = .ok (.getfield 34, 3) := by decide +kernel
theorem dX10_subscript_109 : decode cX10_subscript 109 = .ok (.aload_n 0, 1) := by decide +kernel
theorem dX10_subscript_110 : decode cX10_subscript 110 = .ok (.getfield 95, 3) := by decide +kernel
theorem dX10_subscript_113 : decode cX10_subscript 113 = .ok (.iload 8, 2) := by decide +kernel
theorem dX10_subscript_115 : decode cX10_subscript 115 = .ok (.iaload, 1) := by decide +kernel
theorem dX10_subscript_116 : decode cX10_subscript 116 = .ok (.iaload, 1) := by decide +kernel
theorem dX10_subscript_117 : decode cX10_subscript 117 = .ok (.if_icmp .le 6, 3) := by decide +kernel
theorem dX10_subscript_120 : decode cX10_subscript 120 = .ok (.bipush (-6), 2) := by decide +kernel
theorem dX10_subscript_122 : decode cX10_subscript 122 = .ok (.ireturn, 1) := by decide +kernel
theorem dX10_subscript_123 : decode cX10_subscript 123 = .ok (.lload 6, 2) := by decide +kernel
theorem dX10_subscript_125 : decode cX10_subscript 125 = .ok (.iload 9, 2) := by decide +kernel
theorem dX10_subscript_127 : decode cX10_subscript 127 = .ok (.i2l, 1) := by decide +kernel
theorem dX10_subscript_128 : decode cX10_subscript 128 = .ok (.lconst 1, 1) := by decide +kernel
theorem dX10_subscript_129 : decode cX10_subscript 129 = .ok (.lsub, 1) := by decide +kernel
theorem dX10_subscript_130 : decode cX10_subscript 130 = .ok (.aload_n 0, 1) := by decide +kernel
theorem dX10_subscript_131 : decode cX10_subscript 131 = .ok (.getfield 83, 3) := by decide +kernel
theorem dX10_subscript_134 : decode cX10_subscript 134 = .ok (.aload_n 0, 1) := by decide +kernel
theorem dX10_subscript_135 : decode cX10_subscript 135 = .ok (.getfield 95, 3) := by decide +kernel
theorem dX10_subscript_138 : decode cX10_subscript 138 = .ok (.iload 8, 2) := by decide +kernel
theorem dX10_subscript_140 : decode cX10_subscript 140 = .ok (.iaload, 1) := by decide +kernel
theorem dX10_subscript_141 : decode cX10_subscript 141 = .ok (.laload, 1) := by decide +kernel
theorem dX10_subscript_142 : decode cX10_subscript 142 = .ok (.lmul, 1) := by decide +kernel
theorem dX10_subscript_143 : decode cX10_subscript 143 = .ok (.ladd, 1) := by decide +kernel
theorem dX10_subscript_144 : decode cX10_subscript 144 = .ok (.lstore 6, 2) := by decide +kernel
theorem dX10_subscript_146 : decode cX10_subscript 146 = .ok (.iinc 8 1, 3) := by decide +kernel
theorem dX10_subscript_149 : decode cX10_subscript 149 = .ok (.goto (-112), 3) := by decide +kernel
theorem dX10_subscript_152 : decode cX10_subscript 152 = .ok (.aload_n 0, 1) := by decide +kernel
theorem dX10_subscript_153 : decode cX10_subscript 153 = .ok (.getfield 68, 3) := by decide +kernel
theorem dX10_subscript_156 : decode cX10_subscript 156 = .ok (.ifCond .ne 35, 3) := by decide +kernel
theorem dX10_subscript_159 : decode cX10_subscript 159 = .ok (.lload 6, 2) := by decide +kernel
theorem dX10_subscript_161 : decode cX10_subscript 161 = .ok (.lconst 0, 1) := by decide +kernel
theorem dX10_subscript_162 : decode cX10_subscript 162 = .ok (.lcmp, 1) := by decide +kernel
theorem dX10_subscript_163 : decode cX10_subscript 163 = .ok (.ifCond .lt 21, 3) := by decide +kernel
theorem dX10_subscript_166 : decode cX10_subscript 166 = .ok (.lload 6, 2) := by decide +kernel
theorem dX10_subscript_168 : decode cX10_subscript 168 = .ok (.aload_n 0, 1) := by decide +kernel
theorem dX10_subscript_169 : decode cX10_subscript 169 = .ok (.getfield 80, 3) := by decide +kernel
theorem dX10_subscript_172 : decode cX10_subscript 172 = .ok (.iload_n 1, 1) := by decide +kernel
theorem dX10_subscript_173 : decode cX10_subscript 173 = .ok (.laload, 1) := by decide +kernel
theorem dX10_subscript_174 : decode cX10_subscript 174 = .ok (.ladd, 1) := by decide +kernel
theorem dX10_subscript_175 : decode cX10_subscript 175 = .ok (.aload_n 0, 1) := by decide +kernel
theorem dX10_subscript_176 : decode cX10_subscript 176 = .ok (.getfield 194, 3) := by decide +kernel
theorem dX10_subscript_179 : decode cX10_subscript 179 = .ok (.i2l, 1) := by decide +kernel
theorem dX10_subscript_180 : decode cX10_subscript 180 = .ok (.lcmp, 1) := by decide +kernel
theorem dX10_subscript_181 : decode cX10_subscript 181 = .ok (.ifCond .le 10, 3) := by decide +kernel
theorem dX10_subscript_184 : decode cX10_subscript 184 = .ok (.aload_n 0, 1) := by decide +kernel
theorem dX10_subscript_185 : decode cX10_subscript 185 = .ok (.iconst 1, 1) := by decide +kernel
theorem dX10_subscript_186 : decode cX10_subscript 186 = .ok (.putfield 98, 3) := by decide +kernel
theorem dX10_subscript_189 : decode cX10_subscript 189 = .ok (.iconst 0, 1) := by decide +kernel
theorem dX10_subscript_190 : decode cX10_subscript 190 = .ok (.ireturn, 1) := by decide +kernel
theorem dX10_subscript_191 : decode cX10_subscript 191 = .ok (.lload 6, 2) := by decide +kernel
theorem dX10_subscript_193 : decode cX10_subscript 193 = .ok (.l2i, 1) := by decide +kernel
theorem dX10_subscript_194 : decode cX10_subscript 194 = .ok (.ireturn, 1) := by decide +kernel
def VX10_subscript_123 (g : jg) (a0 : Nat) (x1 : Int32) (x2 : Int32) (x3 : Int32) (x4 : Int32) (x6 : Int64) (x8 : Int32) (x9 : Int32) (h : jh) (k n : Nat) (Q : jq) : Prop := (jt h a0 = 9) ∧ (¬ (jr h 545 a0) = none) ∧ (jt h (jd (jr h 545 a0)) = 20) ∧ (vp_in (x8) (jn h (jd (jr h 545 a0)))) ∧ (¬ (jr h 541 a0) = none) ∧ (jt h (jd (jr h 541 a0)) = 22) ∧ (vp_in (jI h (jd (jr h 545 a0)) (x8 : Int32).toNatClampNeg) (jn h (jd (jr h 541 a0)))) ∧ jG g mX10_subscript 37 [(0, .inr (.inr (some (a0)))), (1, .inl (x1)), (2, .inl (x2)), (3, .inl (x3)), (4, .inl (x4)), (6, .inr (.inl ((x6) + ((((x9 : Int32).toInt64) - (1)) * (jL h (jd (jr h 541 a0)) (jI h (jd (jr h 545 a0)) (x8 : Int32).toNatClampNeg : Int32).toNatClampNeg))))), (8, .inl ((x8) + 1))] [] h k n Q
set_option maxRecDepth 20000 in
theorem vX10_subscript_123 {g : jg} {a0 : Nat} {x1 : Int32} {x2 : Int32} {x3 : Int32} {x4 : Int32} {x6 : Int64} {x8 : Int32} {x9 : Int32} {h : jh} {k n : Nat} {Q : jq} (hv : VX10_subscript_123 g a0 x1 x2 x3 x4 x6 x8 x9 h k n Q) : jG g mX10_subscript 123 [(0, .inr (.inr (some (a0)))), (1, .inl (x1)), (2, .inl (x2)), (3, .inl (x3)), (4, .inl (x4)), (6, .inr (.inl (x6))), (8, .inl (x8)), (9, .inl (x9))] [] h k n Q := by
  unfold VX10_subscript_123 at hv
  refine jg_lload dX10_subscript_123 (List.Mem.tail _ (List.Mem.tail _ (List.Mem.tail _ (List.Mem.tail _ (List.Mem.tail _ (List.Mem.head _)))))) ?_
  refine jg_iload dX10_subscript_125 (List.Mem.tail _ (List.Mem.tail _ (List.Mem.tail _ (List.Mem.tail _ (List.Mem.tail _ (List.Mem.tail _ (List.Mem.tail _ (List.Mem.head _)))))))) ?_
  refine jg_i2l dX10_subscript_127 ?_
  refine jg_lconst (v := 1) dX10_subscript_128 (by decide) ?_
  refine jg_lsub dX10_subscript_129 ?_
  refine jg_aload_n dX10_subscript_130 rfl (List.Mem.head _) ?_
  obtain ⟨f1, hv⟩ := hv
  refine jg_getr dX10_subscript_131 fl_RX10_83 rfl jsn f1 ?_
  refine jg_aload_n dX10_subscript_134 rfl (List.Mem.head _) ?_
  refine jg_getr dX10_subscript_135 fl_RX10_95 rfl jsn f1 ?_
  refine jg_iload dX10_subscript_138 (List.Mem.tail _ (List.Mem.tail _ (List.Mem.tail _ (List.Mem.tail _ (List.Mem.tail _ (List.Mem.tail _ (List.Mem.head _))))))) ?_
  obtain ⟨f2, hv⟩ := hv
  obtain ⟨f3, hv⟩ := hv
  obtain ⟨f4, hv⟩ := hv
  refine jg_iald dX10_subscript_140 f2 f3 f4 ?_
  obtain ⟨f5, hv⟩ := hv
  obtain ⟨f6, hv⟩ := hv
  obtain ⟨f7, hv⟩ := hv
  refine jg_lald dX10_subscript_141 f5 f6 f7 ?_
  refine jg_lmul dX10_subscript_142 ?_
  refine jg_ladd dX10_subscript_143 ?_
  refine jg_lstore (lv' := [(6, .inr (.inl ((x6) + ((((x9 : Int32).toInt64) - (1)) * (jL h (jd (jr h 541 a0)) (jI h (jd (jr h 545 a0)) (x8 : Int32).toNatClampNeg : Int32).toNatClampNeg))))), (0, .inr (.inr (some (a0)))), (1, .inl (x1)), (2, .inl (x2)), (3, .inl (x3)), (4, .inl (x4)), (8, .inl (x8)), (9, .inl (x9))]) dX10_subscript_144 (by decide) rfl ?_
  refine jg_iinc (v := (x8) + 1) (lv' := [(8, .inl ((x8) + 1)), (6, .inr (.inl ((x6) + ((((x9 : Int32).toInt64) - (1)) * (jL h (jd (jr h 541 a0)) (jI h (jd (jr h 545 a0)) (x8 : Int32).toNatClampNeg : Int32).toNatClampNeg))))), (0, .inr (.inr (some (a0)))), (1, .inl (x1)), (2, .inl (x2)), (3, .inl (x3)), (4, .inl (x4)), (9, .inl (x9))]) dX10_subscript_146 (List.Mem.tail _ (List.Mem.tail _ (List.Mem.tail _ (List.Mem.tail _ (List.Mem.tail _ (List.Mem.tail _ (List.Mem.head _))))))) rfl (by decide) rfl ?_
  refine jg_goto (tgt := 37) dX10_subscript_149 (by decide) ?_
  refine jG.sub (lv' := [(0, .inr (.inr (some (a0)))), (1, .inl (x1)), (2, .inl (x2)), (3, .inl (x3)), (4, .inl (x4)), (6, .inr (.inl ((x6) + ((((x9 : Int32).toInt64) - (1)) * (jL h (jd (jr h 541 a0)) (jI h (jd (jr h 545 a0)) (x8 : Int32).toNatClampNeg : Int32).toNatClampNeg))))), (8, .inl ((x8) + 1))]) (by simp) ?_
  exact hv
def VX10_subscript_86 (g : jg) (a0 : Nat) (x1 : Int32) (x2 : Int32) (x3 : Int32) (x4 : Int32) (x6 : Int64) (x8 : Int32) (x9 : Int32) (so0 : Option Nat) (s1 : Int32) (s2 : Int32) (h : jh) (k n : Nat) (Q : jq) : Prop := (¬ (so0) = none) ∧ (jt h (jd (so0)) = 9) ∧ ∀ h10 : jh, h10 = jsi h 535 (jd (so0)) ((s1) + (s2)) → (jt h10 a0 = 9) ∧ (((ji h10 534 a0) = 0 → VX10_subscript_123 g (a0) (x1) (x2) (x3) (x4) (x6) (x8) (x9) h10 k n Q) ∧ (¬ (ji h10 534 a0) = 0 → (((x9) < (1) → Q (.inl (some (.inl ((-6))))) h10) ∧ (¬ (x9) < (1) → (¬ (jr h10 545 a0) = none) ∧ (jt h10 (jd (jr h10 545 a0)) = 20) ∧ (vp_in (x8) (jn h10 (jd (jr h10 545 a0)))) ∧ (¬ (jr h10 522 a0) = none) ∧ (jt h10 (jd (jr h10 522 a0)) = 20) ∧ (vp_in (jI h10 (jd (jr h10 545 a0)) (x8 : Int32).toNatClampNeg) (jn h10 (jd (jr h10 522 a0)))) ∧ (((x9) ≤ (jI h10 (jd (jr h10 522 a0)) (jI h10 (jd (jr h10 545 a0)) (x8 : Int32).toNatClampNeg : Int32).toNatClampNeg) → VX10_subscript_123 g (a0) (x1) (x2) (x3) (x4) (x6) (x8) (x9) h10 k n Q) ∧ (¬ (x9) ≤ (jI h10 (jd (jr h10 522 a0)) (jI h10 (jd (jr h10 545 a0)) (x8 : Int32).toNatClampNeg : Int32).toNatClampNeg) → Q (.inl (some (.inl ((-6))))) h10))))))
set_option maxRecDepth 20000 in
theorem vX10_subscript_86 {g : jg} {a0 : Nat} {x1 : Int32} {x2 : Int32} {x3 : Int32} {x4 : Int32} {x6 : Int64} {x8 : Int32} {x9 : Int32} {so0 : Option Nat} {s1 : Int32} {s2 : Int32} {h : jh} {k n : Nat} {Q : jq} (hv : VX10_subscript_86 g a0 x1 x2 x3 x4 x6 x8 x9 so0 s1 s2 h k n Q) : jG g mX10_subscript 86 [(0, .inr (.inr (some (a0)))), (1, .inl (x1)), (2, .inl (x2)), (3, .inl (x3)), (4, .inl (x4)), (6, .inr (.inl (x6))), (8, .inl (x8)), (9, .inl (x9))] [.inl (s2), .inl (s1), .inr (.inr (so0))] h k n Q := by
  unfold VX10_subscript_86 at hv
  refine jg_iadd dX10_subscript_86 ?_
  obtain ⟨f8, hv⟩ := hv
  obtain ⟨f9, hv⟩ := hv
  obtain ⟨h10, e11⟩ : ∃ z : jh, z = jsi h 535 (jd (so0)) ((s1) + (s2)) := ⟨_, rfl⟩
  replace hv := hv h10 e11
  refine jp_puti dX10_subscript_87 (jfp.nf fl_RX10_226 (fun q hq => by cases hq; rfl)) rfl f8 f9 e11 ?_
  refine jg_aload_n dX10_subscript_90 rfl (List.Mem.head _) ?_
  obtain ⟨f12, hv⟩ := hv
  refine jg_geti dX10_subscript_91 fl_RX10_68 rfl jsn f12 ?_
  refine jg_if_eq (tgt := 123) dX10_subscript_94 (by decide) (fun c13 => ?_) (fun c13 => ?_)
  · replace hv := hv.1 c13
    exact vX10_subscript_123 hv
  · replace hv := hv.2 c13
    refine jg_iload dX10_subscript_97 (List.Mem.tail _ (List.Mem.tail _ (List.Mem.tail _ (List.Mem.tail _ (List.Mem.tail _ (List.Mem.tail _ (List.Mem.tail _ (List.Mem.head _)))))))) ?_
    refine jg_iconst (v := 1) dX10_subscript_99 (by decide) ?_
    refine jg_icmp_lt (tgt := 120) dX10_subscript_100 (by decide) (fun c14 => ?_) (fun c14 => ?_)
    · replace hv := hv.1 c14
      refine jg_bipush (v := (-6)) dX10_subscript_120 (by decide) ?_
      exact jg_iret dX10_subscript_122 rfl hv
    · replace hv := hv.2 c14
      refine jg_iload dX10_subscript_103 (List.Mem.tail _ (List.Mem.tail _ (List.Mem.tail _ (List.Mem.tail _ (List.Mem.tail _ (List.Mem.tail _ (List.Mem.tail _ (List.Mem.head _)))))))) ?_
      refine jg_aload_n dX10_subscript_105 rfl (List.Mem.head _) ?_
      refine jg_getr dX10_subscript_106 fl_RX10_34 rfl jsn f12 ?_
      refine jg_aload_n dX10_subscript_109 rfl (List.Mem.head _) ?_
      refine jg_getr dX10_subscript_110 fl_RX10_95 rfl jsn f12 ?_
      refine jg_iload dX10_subscript_113 (List.Mem.tail _ (List.Mem.tail _ (List.Mem.tail _ (List.Mem.tail _ (List.Mem.tail _ (List.Mem.tail _ (List.Mem.head _))))))) ?_
      obtain ⟨f15, hv⟩ := hv
      obtain ⟨f16, hv⟩ := hv
      obtain ⟨f17, hv⟩ := hv
      refine jg_iald dX10_subscript_115 f15 f16 f17 ?_
      obtain ⟨f18, hv⟩ := hv
      obtain ⟨f19, hv⟩ := hv
      obtain ⟨f20, hv⟩ := hv
      refine jg_iald dX10_subscript_116 f18 f19 f20 ?_
      refine jg_icmp_le (tgt := 123) dX10_subscript_117 (by decide) (fun c21 => ?_) (fun c21 => ?_)
      · replace hv := hv.1 c21
        exact vX10_subscript_123 hv
      · replace hv := hv.2 c21
        refine jg_bipush (v := (-6)) dX10_subscript_120 (by decide) ?_
        exact jg_iret dX10_subscript_122 rfl hv
def VX10_subscript_67 (g : jg) (a0 : Nat) (x1 : Int32) (x2 : Int32) (x3 : Int32) (x4 : Int32) (x6 : Int64) (x8 : Int32) (s0 : Int32) (h : jh) (k n : Nat) (Q : jq) : Prop := (jt h a0 = 9) ∧ (((ji h 534 a0) = 0 → VX10_subscript_86 g (a0) (x1) (x2) (x3) (x4) (x6) (x8) (s0) (some (a0)) (ji h 535 a0) (0) h k n Q) ∧ (¬ (ji h 534 a0) = 0 → VX10_subscript_86 g (a0) (x1) (x2) (x3) (x4) (x6) (x8) (s0) (some (a0)) (ji h 535 a0) (1) h k n Q))
set_option maxRecDepth 20000 in
theorem vX10_subscript_67 {g : jg} {a0 : Nat} {x1 : Int32} {x2 : Int32} {x3 : Int32} {x4 : Int32} {x6 : Int64} {x8 : Int32} {s0 : Int32} {h : jh} {k n : Nat} {Q : jq} (hv : VX10_subscript_67 g a0 x1 x2 x3 x4 x6 x8 s0 h k n Q) : jG g mX10_subscript 67 [(0, .inr (.inr (some (a0)))), (1, .inl (x1)), (2, .inl (x2)), (3, .inl (x3)), (4, .inl (x4)), (6, .inr (.inl (x6))), (8, .inl (x8))] [.inl (s0)] h k n Q := by
  unfold VX10_subscript_67 at hv
  refine jg_istore (lv' := [(9, .inl (s0)), (0, .inr (.inr (some (a0)))), (1, .inl (x1)), (2, .inl (x2)), (3, .inl (x3)), (4, .inl (x4)), (6, .inr (.inl (x6))), (8, .inl (x8))]) dX10_subscript_67 (by decide) rfl ?_
  refine jg_aload_n dX10_subscript_69 rfl (List.Mem.tail _ (List.Mem.head _)) ?_
  refine jg_dup dX10_subscript_70 rfl ?_
  obtain ⟨f22, hv⟩ := hv
  refine jg_geti dX10_subscript_71 fl_RX10_226 rfl jsn f22 ?_
  refine jg_aload_n dX10_subscript_74 rfl (List.Mem.tail _ (List.Mem.head _)) ?_
  refine jg_geti dX10_subscript_75 fl_RX10_68 rfl jsn f22 ?_
  refine jg_if_eq (tgt := 85) dX10_subscript_78 (by decide) (fun c23 => ?_) (fun c23 => ?_)
  · replace hv := hv.1 c23
    refine jg_iconst (v := 0) dX10_subscript_85 (by decide) ?_
    refine jG.sub (lv' := [(0, .inr (.inr (some (a0)))), (1, .inl (x1)), (2, .inl (x2)), (3, .inl (x3)), (4, .inl (x4)), (6, .inr (.inl (x6))), (8, .inl (x8)), (9, .inl (s0))]) (by simp) ?_
    exact vX10_subscript_86 hv
  · replace hv := hv.2 c23
    refine jg_iconst (v := 1) dX10_subscript_81 (by decide) ?_
    refine jg_goto (tgt := 86) dX10_subscript_82 (by decide) ?_
    refine jG.sub (lv' := [(0, .inr (.inr (some (a0)))), (1, .inl (x1)), (2, .inl (x2)), (3, .inl (x3)), (4, .inl (x4)), (6, .inr (.inl (x6))), (8, .inl (x8)), (9, .inl (s0))]) (by simp) ?_
    exact vX10_subscript_86 hv
def VX10_subscript_37 (g : jg) (a0 : Nat) (x1 : Int32) (x2 : Int32) (x3 : Int32) (x4 : Int32) (x6 : Int64) (x8 : Int32) (h : jh) (k n : Nat) (Q : jq) : Prop := (jt h a0 = 9) ∧ (((ji h 546 a0) ≤ (x8) → ((¬ (ji h 534 a0) = 0 → Q (.inl (some (.inl ((x6 : Int64).toInt32)))) h) ∧ ((ji h 534 a0) = 0 → (((x6) < (0) → ∀ h28 : jh, h28 = jsi h 512 a0 (1) → Q (.inl (some (.inl (0)))) h28) ∧ (¬ (x6) < (0) → (¬ (jr h 540 a0) = none) ∧ (jt h (jd (jr h 540 a0)) = 22) ∧ (vp_in (x1) (jn h (jd (jr h 540 a0)))) ∧ ((((x6) + (jL h (jd (jr h 540 a0)) (x1 : Int32).toNatClampNeg)) ≤ ((ji h 536 a0 : Int32).toInt64) → Q (.inl (some (.inl ((x6 : Int64).toInt32)))) h) ∧ (¬ ((x6) + (jL h (jd (jr h 540 a0)) (x1 : Int32).toNatClampNeg)) ≤ ((ji h 536 a0 : Int32).toInt64) → ∀ h34 : jh, h34 = jsi h 512 a0 (1) → Q (.inl (some (.inl (0)))) h34))))))) ∧ (¬ (ji h 546 a0) ≤ (x8) → ((¬ (x8) = 0 → ((¬ (x8) = (1) → VX10_subscript_67 g (a0) (x1) (x2) (x3) (x4) (x6) (x8) (x4) h k n Q) ∧ ((x8) = (1) → VX10_subscript_67 g (a0) (x1) (x2) (x3) (x4) (x6) (x8) (x3) h k n Q))) ∧ ((x8) = 0 → VX10_subscript_67 g (a0) (x1) (x2) (x3) (x4) (x6) (x8) (x2) h k n Q))))
set_option maxRecDepth 20000 in
theorem vX10_subscript_37 {g : jg} {a0 : Nat} {x1 : Int32} {x2 : Int32} {x3 : Int32} {x4 : Int32} {x6 : Int64} {x8 : Int32} {h : jh} {k n : Nat} {Q : jq} (hv : VX10_subscript_37 g a0 x1 x2 x3 x4 x6 x8 h k n Q) : jG g mX10_subscript 37 [(0, .inr (.inr (some (a0)))), (1, .inl (x1)), (2, .inl (x2)), (3, .inl (x3)), (4, .inl (x4)), (6, .inr (.inl (x6))), (8, .inl (x8))] [] h k n Q := by
  unfold VX10_subscript_37 at hv
  refine jg_iload dX10_subscript_37 (List.Mem.tail _ (List.Mem.tail _ (List.Mem.tail _ (List.Mem.tail _ (List.Mem.tail _ (List.Mem.tail _ (List.Mem.head _))))))) ?_
  refine jg_aload_n dX10_subscript_39 rfl (List.Mem.head _) ?_
  obtain ⟨f24, hv⟩ := hv
  refine jg_geti dX10_subscript_40 fl_RX10_203 rfl jsn f24 ?_
  refine jg_icmp_ge (tgt := 152) dX10_subscript_43 (by decide) (fun c25 => ?_) (fun c25 => ?_)
  · replace hv := hv.1 c25
    refine jg_aload_n dX10_subscript_152 rfl (List.Mem.head _) ?_
    refine jg_geti dX10_subscript_153 fl_RX10_68 rfl jsn f24 ?_
    refine jg_if_ne (tgt := 191) dX10_subscript_156 (by decide) (fun c26 => ?_) (fun c26 => ?_)
    · replace hv := hv.1 c26
      refine jg_lload dX10_subscript_191 (List.Mem.tail _ (List.Mem.tail _ (List.Mem.tail _ (List.Mem.tail _ (List.Mem.tail _ (List.Mem.head _)))))) ?_
      refine jg_l2i dX10_subscript_193 ?_
      exact jg_iret dX10_subscript_194 rfl hv
    · replace hv := hv.2 c26
      refine jg_lload dX10_subscript_159 (List.Mem.tail _ (List.Mem.tail _ (List.Mem.tail _ (List.Mem.tail _ (List.Mem.tail _ (List.Mem.head _)))))) ?_
      refine jg_lconst (v := 0) dX10_subscript_161 (by decide) ?_
      refine jg_lcmp_lt (tgt := 184) dX10_subscript_162 dX10_subscript_163 (by decide) (fun c27 => ?_) (fun c27 => ?_)
      · replace hv := hv.1 c27
        refine jg_aload_n dX10_subscript_184 rfl (List.Mem.head _) ?_
        refine jg_iconst (v := 1) dX10_subscript_185 (by decide) ?_
        obtain ⟨h28, e29⟩ : ∃ z : jh, z = jsi h 512 a0 (1) := ⟨_, rfl⟩
        replace hv := hv h28 e29
        refine jp_puti dX10_subscript_186 (jfp.nf fl_RX10_98 (fun q hq => by cases hq; rfl)) rfl jsn f24 e29 ?_
        refine jg_iconst (v := 0) dX10_subscript_189 (by decide) ?_
        exact jg_iret dX10_subscript_190 rfl hv
      · replace hv := hv.2 c27
        refine jg_lload dX10_subscript_166 (List.Mem.tail _ (List.Mem.tail _ (List.Mem.tail _ (List.Mem.tail _ (List.Mem.tail _ (List.Mem.head _)))))) ?_
        refine jg_aload_n dX10_subscript_168 rfl (List.Mem.head _) ?_
        refine jg_getr dX10_subscript_169 fl_RX10_80 rfl jsn f24 ?_
        refine jg_iload_n dX10_subscript_172 rfl (List.Mem.tail _ (List.Mem.head _)) ?_
        obtain ⟨f30, hv⟩ := hv
        obtain ⟨f31, hv⟩ := hv
        obtain ⟨f32, hv⟩ := hv
        refine jg_lald dX10_subscript_173 f30 f31 f32 ?_
        refine jg_ladd dX10_subscript_174 ?_
        refine jg_aload_n dX10_subscript_175 rfl (List.Mem.head _) ?_
        refine jg_geti dX10_subscript_176 fl_RX10_194 rfl jsn f24 ?_
        refine jg_i2l dX10_subscript_179 ?_
        refine jg_lcmp_le (tgt := 191) dX10_subscript_180 dX10_subscript_181 (by decide) (fun c33 => ?_) (fun c33 => ?_)
        · replace hv := hv.1 c33
          refine jg_lload dX10_subscript_191 (List.Mem.tail _ (List.Mem.tail _ (List.Mem.tail _ (List.Mem.tail _ (List.Mem.tail _ (List.Mem.head _)))))) ?_
          refine jg_l2i dX10_subscript_193 ?_
          exact jg_iret dX10_subscript_194 rfl hv
        · replace hv := hv.2 c33
          refine jg_aload_n dX10_subscript_184 rfl (List.Mem.head _) ?_
          refine jg_iconst (v := 1) dX10_subscript_185 (by decide) ?_
          obtain ⟨h34, e35⟩ : ∃ z : jh, z = jsi h 512 a0 (1) := ⟨_, rfl⟩
          replace hv := hv h34 e35
          refine jp_puti dX10_subscript_186 (jfp.nf fl_RX10_98 (fun q hq => by cases hq; rfl)) rfl jsn f24 e35 ?_
          refine jg_iconst (v := 0) dX10_subscript_189 (by decide) ?_
          exact jg_iret dX10_subscript_190 rfl hv
  · replace hv := hv.2 c25
    refine jg_iload dX10_subscript_46 (List.Mem.tail _ (List.Mem.tail _ (List.Mem.tail _ (List.Mem.tail _ (List.Mem.tail _ (List.Mem.tail _ (List.Mem.head _))))))) ?_
    refine jg_if_ne (tgt := 55) dX10_subscript_48 (by decide) (fun c36 => ?_) (fun c36 => ?_)
    · replace hv := hv.1 c36
      refine jg_iload dX10_subscript_55 (List.Mem.tail _ (List.Mem.tail _ (List.Mem.tail _ (List.Mem.tail _ (List.Mem.tail _ (List.Mem.tail _ (List.Mem.head _))))))) ?_
      refine jg_iconst (v := 1) dX10_subscript_57 (by decide) ?_
      refine jg_icmp_ne (tgt := 65) dX10_subscript_58 (by decide) (fun c37 => ?_) (fun c37 => ?_)
      · replace hv := hv.1 c37
        refine jg_iload dX10_subscript_65 (List.Mem.tail _ (List.Mem.tail _ (List.Mem.tail _ (List.Mem.tail _ (List.Mem.head _))))) ?_
        exact vX10_subscript_67 hv
      · replace hv := hv.2 c37
        refine jg_iload_n dX10_subscript_61 rfl (List.Mem.tail _ (List.Mem.tail _ (List.Mem.tail _ (List.Mem.head _)))) ?_
        refine jg_goto (tgt := 67) dX10_subscript_62 (by decide) ?_
        exact vX10_subscript_67 hv
    · replace hv := hv.2 c36
      refine jg_iload_n dX10_subscript_51 rfl (List.Mem.tail _ (List.Mem.tail _ (List.Mem.head _))) ?_
      refine jg_goto (tgt := 67) dX10_subscript_52 (by decide) ?_
      exact vX10_subscript_67 hv
def VX10_subscript_0 (g : jg) (a0 : Nat) (x1 : Int32) (x2 : Int32) (x3 : Int32) (x4 : Int32) (h : jh) (k n : Nat) (Q : jq) : Prop := (jt h a0 = 9) ∧ ∀ h39 : jh, h39 = jsi h 512 a0 (0) → jM g mX10_refused [.inr (.inr (some a0)), .inl (x1), .inl (1)] h39 0 0 (jki (fun (r41 : Int32) (h42 : jh) => ((0 ≤ (r41) → (jt h42 a0 = 9) ∧ jM g mX10_findAround [.inr (.inr (some a0)), .inl (x1)] h42 0 0 (jkv (fun (h46 : jh) => (jt h46 a0 = 9) ∧ (¬ (jr h46 539 a0) = none) ∧ (jt h46 (jd (jr h46 539 a0)) = 22) ∧ (vp_in (x1) (jn h46 (jd (jr h46 539 a0)))) ∧ jG g mX10_subscript 37 [(0, .inr (.inr (some (a0)))), (1, .inl (x1)), (2, .inl (x2)), (3, .inl (x3)), (4, .inl (x4)), (6, .inr (.inl (jL h46 (jd (jr h46 539 a0)) (x1 : Int32).toNatClampNeg))), (8, .inl (0))] [] h46 k n Q) (fun e h9 => Q (.inr e) h9))) ∧ (¬ 0 ≤ (r41) → Q (.inl (some (.inl (r41)))) h42))) (fun e h9 => Q (.inr e) h9))
set_option maxRecDepth 20000 in
theorem vX10_subscript_0 {g : jg} {a0 : Nat} {x1 : Int32} {x2 : Int32} {x3 : Int32} {x4 : Int32} {h : jh} {k n : Nat} {Q : jq} (hv : VX10_subscript_0 g a0 x1 x2 x3 x4 h k n Q) : jG g mX10_subscript 0 [(0, .inr (.inr (some (a0)))), (1, .inl (x1)), (2, .inl (x2)), (3, .inl (x3)), (4, .inl (x4))] [] h k n Q := by
  unfold VX10_subscript_0 at hv
  refine jg_aload_n dX10_subscript_0 rfl (List.Mem.head _) ?_
  refine jg_iconst (v := 0) dX10_subscript_1 (by decide) ?_
  obtain ⟨f38, hv⟩ := hv
  obtain ⟨h39, e40⟩ : ∃ z : jh, z = jsi h 512 a0 (0) := ⟨_, rfl⟩
  replace hv := hv h39 e40
  refine jp_puti dX10_subscript_2 (jfp.nf fl_RX10_98 (fun q hq => by cases hq; rfl)) rfl jsn f38 e40 ?_
  refine jg_aload_n dX10_subscript_5 rfl (List.Mem.head _) ?_
  refine jg_iload_n dX10_subscript_6 rfl (List.Mem.tail _ (List.Mem.head _)) ?_
  refine jg_iconst (v := 1) dX10_subscript_7 (by decide) ?_
  refine jp_callV mX10_refused [.inl (x1), .inl (1)] [] dX10_subscript_8 rfl cl_RX10_215 ⟨⟨by decide, by decide⟩, by decide⟩ jsn ((congrArg (fun z => jt z a0) e40).trans f38) (Nat.zero_le _) (Nat.zero_le _) (jM.mono (jki_k (fun r41 h42 hv => ?_)) hv)
  refine jg_istore (lv' := [(5, .inl (r41)), (0, .inr (.inr (some (a0)))), (1, .inl (x1)), (2, .inl (x2)), (3, .inl (x3)), (4, .inl (x4))]) dX10_subscript_11 (by decide) rfl ?_
  refine jg_iload dX10_subscript_13 (List.Mem.head _) ?_
  refine jg_if_ge (tgt := 21) dX10_subscript_15 (by decide) (fun c43 => ?_) (fun c43 => ?_)
  · replace hv := hv.1 c43
    refine jg_aload_n dX10_subscript_21 rfl (List.Mem.tail _ (List.Mem.head _)) ?_
    refine jg_iload_n dX10_subscript_22 rfl (List.Mem.tail _ (List.Mem.tail _ (List.Mem.head _))) ?_
    obtain ⟨f44, hv⟩ := hv
    refine jp_callV mX10_findAround [.inl (x1)] [] dX10_subscript_23 rfl cl_RX10_206 ⟨⟨by decide, by decide⟩, by decide⟩ jsn f44 (Nat.zero_le _) (Nat.zero_le _) (jM.mono (jkv_k (fun h46 hv => ?_)) hv)
    refine jg_aload_n dX10_subscript_26 rfl (List.Mem.tail _ (List.Mem.head _)) ?_
    obtain ⟨f47, hv⟩ := hv
    refine jg_getr dX10_subscript_27 fl_RX10_76 rfl jsn f47 ?_
    refine jg_iload_n dX10_subscript_30 rfl (List.Mem.tail _ (List.Mem.tail _ (List.Mem.head _))) ?_
    obtain ⟨f48, hv⟩ := hv
    obtain ⟨f49, hv⟩ := hv
    obtain ⟨f50, hv⟩ := hv
    refine jg_lald dX10_subscript_31 f48 f49 f50 ?_
    refine jg_lstore (lv' := [(6, .inr (.inl (jL h46 (jd (jr h46 539 a0)) (x1 : Int32).toNatClampNeg))), (5, .inl (r41)), (0, .inr (.inr (some (a0)))), (1, .inl (x1)), (2, .inl (x2)), (3, .inl (x3)), (4, .inl (x4))]) dX10_subscript_32 (by decide) rfl ?_
    refine jg_iconst (v := 0) dX10_subscript_34 (by decide) ?_
    refine jg_istore (lv' := [(8, .inl (0)), (6, .inr (.inl (jL h46 (jd (jr h46 539 a0)) (x1 : Int32).toNatClampNeg))), (5, .inl (r41)), (0, .inr (.inr (some (a0)))), (1, .inl (x1)), (2, .inl (x2)), (3, .inl (x3)), (4, .inl (x4))]) dX10_subscript_35 (by decide) rfl ?_
    refine jG.sub (lv' := [(0, .inr (.inr (some (a0)))), (1, .inl (x1)), (2, .inl (x2)), (3, .inl (x3)), (4, .inl (x4)), (6, .inr (.inl (jL h46 (jd (jr h46 539 a0)) (x1 : Int32).toNatClampNeg))), (8, .inl (0))]) (by simp) ?_
    exact hv
  · replace hv := hv.2 c43
    refine jg_iload dX10_subscript_18 (List.Mem.head _) ?_
    exact jg_iret dX10_subscript_20 rfl hv
theorem eX10_subscript {g : jg} {a0 : Nat} {x1 : Int32} {x2 : Int32} {x3 : Int32} {x4 : Int32} {h : jh} {mc ms : Nat} {Q : jq} (hv : VX10_subscript_0 g a0 x1 x2 x3 x4 h mc ms Q) : jM g mX10_subscript [.inr (.inr (some (a0))), .inl (x1), .inl (x2), .inl (x3), .inl (x4)] h mc ms Q := jM.of (by decide) (Nat.le_of_ble_eq_true rfl) (lv := [(0, .inr (.inr (some (a0)))), (1, .inl (x1)), (2, .inl (x2)), (3, .inl (x3)), (4, .inl (x4))]) rfl (vX10_subscript_0 hv)
theorem dX10_checks_0 : decode cX10_checks 0 = .ok (.aload_n 0, 1) := by decide +kernel
theorem dX10_checks_1 : decode cX10_checks 1 = .ok (.iconst 0, 1) := by decide +kernel
theorem dX10_checks_2 : decode cX10_checks 2 = .ok (.putfield 98, 3) := by decide +kernel
theorem dX10_checks_5 : decode cX10_checks 5 = .ok (.aload_n 0, 1) := by decide +kernel
theorem dX10_checks_6 : decode cX10_checks 6 = .ok (.iload_n 1, 1) := by decide +kernel
theorem dX10_checks_7 : decode cX10_checks 7 = .ok (.putfield 68, 3) := by decide +kernel
theorem dX10_checks_10 : decode cX10_checks 10 = .ok (.aload_n 0, 1) := by decide +kernel
theorem dX10_checks_11 : decode cX10_checks 11 = .ok (.getfield 226, 3) := by decide +kernel
theorem dX10_checks_14 : decode cX10_checks 14 = .ok (.ireturn, 1) := by decide +kernel
def VX10_checks_0 (g : jg) (a0 : Nat) (x1 : Int32) (h : jh) (k n : Nat) (Q : jq) : Prop := (jt h a0 = 9) ∧ ∀ h2 : jh, h2 = jsi h 512 a0 (0) → ((x1) = 0 ∨ (x1) = 1) ∧ ∀ h5 : jh, h5 = jsi h2 534 a0 (x1) → Q (.inl (some (.inl (ji h5 535 a0)))) h5
set_option maxRecDepth 20000 in
theorem vX10_checks_0 {g : jg} {a0 : Nat} {x1 : Int32} {h : jh} {k n : Nat} {Q : jq} (hv : VX10_checks_0 g a0 x1 h k n Q) : jG g mX10_checks 0 [(0, .inr (.inr (some (a0)))), (1, .inl (x1))] [] h k n Q := by
  unfold VX10_checks_0 at hv
  refine jg_aload_n dX10_checks_0 rfl (List.Mem.head _) ?_
  refine jg_iconst (v := 0) dX10_checks_1 (by decide) ?_
  obtain ⟨f1, hv⟩ := hv
  obtain ⟨h2, e3⟩ : ∃ z : jh, z = jsi h 512 a0 (0) := ⟨_, rfl⟩
  replace hv := hv h2 e3
  refine jp_puti dX10_checks_2 (jfp.nf fl_RX10_98 (fun q hq => by cases hq; rfl)) rfl jsn f1 e3 ?_
  refine jg_aload_n dX10_checks_5 rfl (List.Mem.head _) ?_
  refine jg_iload_n dX10_checks_6 rfl (List.Mem.tail _ (List.Mem.head _)) ?_
  obtain ⟨f4, hv⟩ := hv
  obtain ⟨h5, e6⟩ : ∃ z : jh, z = jsi h2 534 a0 (x1) := ⟨_, rfl⟩
  replace hv := hv h5 e6
  refine jp_putz dX10_checks_7 (jfp.nf fl_RX10_68 (fun q hq => by cases hq; rfl)) rfl jsn ((congrArg (fun z => jt z a0) e3).trans f1) f4 e6 ?_
  refine jg_aload_n dX10_checks_10 rfl (List.Mem.head _) ?_
  refine jg_geti dX10_checks_11 fl_RX10_226 rfl jsn ((congrArg (fun z => jt z a0) e6).trans ((congrArg (fun z => jt z a0) e3).trans f1)) ?_
  exact jg_iret dX10_checks_14 rfl hv
theorem eX10_checks {g : jg} {a0 : Nat} {x1 : Int32} {h : jh} {mc ms : Nat} {Q : jq} (hv : VX10_checks_0 g a0 x1 h mc ms Q) : jM g mX10_checks [.inr (.inr (some (a0))), .inl (x1)] h mc ms Q := jM.of (by decide) (Nat.le_of_ble_eq_true rfl) (lv := [(0, .inr (.inr (some (a0)))), (1, .inl (x1))]) rfl (vX10_checks_0 hv)
theorem dX10_refer_0 : decode cX10_refer 0 = .ok (.aload_n 0, 1) := by decide +kernel
theorem dX10_refer_1 : decode cX10_refer 1 = .ok (.iconst 0, 1) := by decide +kernel
theorem dX10_refer_2 : decode cX10_refer 2 = .ok (.putfield 98, 3) := by decide +kernel
theorem dX10_refer_5 : decode cX10_refer 5 = .ok (.aload_n 0, 1) := by decide +kernel
theorem dX10_refer_6 : decode cX10_refer 6 = .ok (.iload_n 1, 1) := by decide +kernel
theorem dX10_refer_7 : decode cX10_refer 7 = .ok (.iconst 0, 1) := by decide +kernel
theorem dX10_refer_8 : decode cX10_refer 8 = .ok (.invokevirtual 215, 3) := by decide +kernel
theorem dX10_refer_11 : decode cX10_refer 11 = .ok (.istore 4, 2) := by decide +kernel
theorem dX10_refer_13 : decode cX10_refer 13 = .ok (.iload 4, 2) := by decide +kernel
theorem dX10_refer_15 : decode cX10_refer 15 = .ok (.ifCond .ge 6, 3) := by decide +kernel
theorem dX10_refer_18 : decode cX10_refer 18 = .ok (.iload 4, 2) := by decide +kernel
theorem dX10_refer_20 : decode cX10_refer 20 = .ok (.ireturn, 1) := by decide +kernel
theorem dX10_refer_21 : decode cX10_refer 21 = .ok (.iload_n 2, 1) := by decide +kernel
theorem dX10_refer_22 : decode cX10_refer 22 = .ok (.iconst 1, 1) := by decide +kernel
theorem dX10_refer_23 : decode cX10_refer 23 = .ok (.if_icmp .lt 24, 3) := by decide +kernel
theorem dX10_refer_26 : decode cX10_refer 26 = .ok (.iload_n 3, 1) := by decide +kernel
theorem dX10_refer_27 : decode cX10_refer 27 = .ok (.iconst 1, 1) := by decide +kernel
theorem dX10_refer_28 : decode cX10_refer 28 = .ok (.if_icmp .lt 19, 3) := by decide +kernel
theorem dX10_refer_31 : decode cX10_refer 31 = .ok (.iload_n 2, 1) := by decide +kernel
theorem dX10_refer_32 : decode cX10_refer 32 = .ok (.i2l, 1) := by decide +kernel
theorem dX10_refer_33 : decode cX10_refer 33 = .ok (.lconst 1, 1) := by decide +kernel
theorem dX10_refer_34 : decode cX10_refer 34 = .ok (.lsub, 1) := by decide +kernel
theorem dX10_refer_35 : decode cX10_refer 35 = .ok (.iload_n 3, 1) := by decide +kernel
theorem dX10_refer_36 : decode cX10_refer 36 = .ok (.i2l, 1) := by decide +kernel
theorem dX10_refer_37 : decode cX10_refer 37 = .ok (.ladd, 1) := by decide +kernel
theorem dX10_refer_38 : decode cX10_refer 38 = .ok (.aload_n 0, 1) := by decide +kernel
theorem dX10_refer_39 : decode cX10_refer 39 = .ok (.iload_n 1, 1) := by decide +kernel
theorem dX10_refer_40 : decode cX10_refer 40 = .ok (.invokevirtual 223, 3) := by decide +kernel
theorem dX10_refer_43 : decode cX10_refer 43 = .ok (.lcmp, 1) := by decide +kernel
theorem dX10_refer_44 : decode cX10_refer 44 = .ok (.ifCond .le 5, 3) := by decide +kernel
theorem dX10_refer_47 : decode cX10_refer 47 = .ok (.iconst (-1), 1) := by decide +kernel
theorem dX10_refer_48 : decode cX10_refer 48 = .ok (.ireturn, 1) := by decide +kernel
theorem dX10_refer_49 : decode cX10_refer 49 = .ok (.aload_n 0, 1) := by decide +kernel
theorem dX10_refer_50 : decode cX10_refer 50 = .ok (.iload_n 1, 1) := by decide +kernel
theorem dX10_refer_51 : decode cX10_refer 51 = .ok (.invokevirtual 219, 3) := by decide +kernel
theorem dX10_refer_54 : decode cX10_refer 54 = .ok (.l2i, 1) := by decide +kernel
theorem dX10_refer_55 : decode cX10_refer 55 = .ok (.iload_n 2, 1) := by decide +kernel
theorem dX10_refer_56 : decode cX10_refer 56 = .ok (.iadd, 1) := by decide +kernel
theorem dX10_refer_57 : decode cX10_refer 57 = .ok (.iconst 1, 1) := by decide +kernel
theorem dX10_refer_58 : decode cX10_refer 58 = .ok (.isub, 1) := by decide +kernel
theorem dX10_refer_59 : decode cX10_refer 59 = .ok (.ireturn, 1) := by decide +kernel
def VX10_refer_0 (g : jg) (a0 : Nat) (x1 : Int32) (x2 : Int32) (x3 : Int32) (h : jh) (k n : Nat) (Q : jq) : Prop := (jt h a0 = 9) ∧ ∀ h2 : jh, h2 = jsi h 512 a0 (0) → jM g mX10_refused [.inr (.inr (some a0)), .inl (x1), .inl (0)] h2 0 0 (jki (fun (r4 : Int32) (h5 : jh) => ((0 ≤ (r4) → (((x2) < (1) → Q (.inl (some (.inl ((-1))))) h5) ∧ (¬ (x2) < (1) → (((x3) < (1) → Q (.inl (some (.inl ((-1))))) h5) ∧ (¬ (x3) < (1) → (jt h5 a0 = 9) ∧ jM g mX10_sizeOf [.inr (.inr (some a0)), .inl (x1)] h5 0 0 (jkl (fun (r10 : Int64) (h11 : jh) => ((((((x2 : Int32).toInt64) - (1)) + ((x3 : Int32).toInt64)) ≤ (r10) → (jt h11 a0 = 9) ∧ jM g mX10_placeOf [.inr (.inr (some a0)), .inl (x1)] h11 0 0 (jkl (fun (r14 : Int64) (h15 : jh) => Q (.inl (some (.inl ((((r14 : Int64).toInt32) + (x2)) - (1))))) h15) (fun e h9 => Q (.inr e) h9))) ∧ (¬ ((((x2 : Int32).toInt64) - (1)) + ((x3 : Int32).toInt64)) ≤ (r10) → Q (.inl (some (.inl ((-1))))) h11))) (fun e h9 => Q (.inr e) h9))))))) ∧ (¬ 0 ≤ (r4) → Q (.inl (some (.inl (r4)))) h5))) (fun e h9 => Q (.inr e) h9))
set_option maxRecDepth 20000 in
theorem vX10_refer_0 {g : jg} {a0 : Nat} {x1 : Int32} {x2 : Int32} {x3 : Int32} {h : jh} {k n : Nat} {Q : jq} (hv : VX10_refer_0 g a0 x1 x2 x3 h k n Q) : jG g mX10_refer 0 [(0, .inr (.inr (some (a0)))), (1, .inl (x1)), (2, .inl (x2)), (3, .inl (x3))] [] h k n Q := by
  unfold VX10_refer_0 at hv
  refine jg_aload_n dX10_refer_0 rfl (List.Mem.head _) ?_
  refine jg_iconst (v := 0) dX10_refer_1 (by decide) ?_
  obtain ⟨f1, hv⟩ := hv
  obtain ⟨h2, e3⟩ : ∃ z : jh, z = jsi h 512 a0 (0) := ⟨_, rfl⟩
  replace hv := hv h2 e3
  refine jp_puti dX10_refer_2 (jfp.nf fl_RX10_98 (fun q hq => by cases hq; rfl)) rfl jsn f1 e3 ?_
  refine jg_aload_n dX10_refer_5 rfl (List.Mem.head _) ?_
  refine jg_iload_n dX10_refer_6 rfl (List.Mem.tail _ (List.Mem.head _)) ?_
  refine jg_iconst (v := 0) dX10_refer_7 (by decide) ?_
  refine jp_callV mX10_refused [.inl (x1), .inl (0)] [] dX10_refer_8 rfl cl_RX10_215 ⟨⟨by decide, by decide⟩, by decide⟩ jsn ((congrArg (fun z => jt z a0) e3).trans f1) (Nat.zero_le _) (Nat.zero_le _) (jM.mono (jki_k (fun r4 h5 hv => ?_)) hv)
  refine jg_istore (lv' := [(4, .inl (r4)), (0, .inr (.inr (some (a0)))), (1, .inl (x1)), (2, .inl (x2)), (3, .inl (x3))]) dX10_refer_11 (by decide) rfl ?_
  refine jg_iload dX10_refer_13 (List.Mem.head _) ?_
  refine jg_if_ge (tgt := 21) dX10_refer_15 (by decide) (fun c6 => ?_) (fun c6 => ?_)
  · replace hv := hv.1 c6
    refine jg_iload_n dX10_refer_21 rfl (List.Mem.tail _ (List.Mem.tail _ (List.Mem.tail _ (List.Mem.head _)))) ?_
    refine jg_iconst (v := 1) dX10_refer_22 (by decide) ?_
    refine jg_icmp_lt (tgt := 47) dX10_refer_23 (by decide) (fun c7 => ?_) (fun c7 => ?_)
    · replace hv := hv.1 c7
      refine jg_iconst (v := (-1)) dX10_refer_47 (by decide) ?_
      exact jg_iret dX10_refer_48 rfl hv
    · replace hv := hv.2 c7
      refine jg_iload_n dX10_refer_26 rfl (List.Mem.tail _ (List.Mem.tail _ (List.Mem.tail _ (List.Mem.tail _ (List.Mem.head _))))) ?_
      refine jg_iconst (v := 1) dX10_refer_27 (by decide) ?_
      refine jg_icmp_lt (tgt := 47) dX10_refer_28 (by decide) (fun c8 => ?_) (fun c8 => ?_)
      · replace hv := hv.1 c8
        refine jg_iconst (v := (-1)) dX10_refer_47 (by decide) ?_
        exact jg_iret dX10_refer_48 rfl hv
      · replace hv := hv.2 c8
        refine jg_iload_n dX10_refer_31 rfl (List.Mem.tail _ (List.Mem.tail _ (List.Mem.tail _ (List.Mem.head _)))) ?_
        refine jg_i2l dX10_refer_32 ?_
        refine jg_lconst (v := 1) dX10_refer_33 (by decide) ?_
        refine jg_lsub dX10_refer_34 ?_
        refine jg_iload_n dX10_refer_35 rfl (List.Mem.tail _ (List.Mem.tail _ (List.Mem.tail _ (List.Mem.tail _ (List.Mem.head _))))) ?_
        refine jg_i2l dX10_refer_36 ?_
        refine jg_ladd dX10_refer_37 ?_
        refine jg_aload_n dX10_refer_38 rfl (List.Mem.tail _ (List.Mem.head _)) ?_
        refine jg_iload_n dX10_refer_39 rfl (List.Mem.tail _ (List.Mem.tail _ (List.Mem.head _))) ?_
        obtain ⟨f9, hv⟩ := hv
        refine jp_callV mX10_sizeOf [.inl (x1)] [.inr (.inl ((((x2 : Int32).toInt64) - (1)) + ((x3 : Int32).toInt64)))] dX10_refer_40 rfl cl_RX10_223 ⟨⟨by decide, by decide⟩, jcat_le _ (Nat.le_of_ble_eq_true rfl)⟩ jsn f9 (Nat.zero_le _) (Nat.zero_le _) (jM.mono (jkl_k (fun r10 h11 hv => ?_)) hv)
        refine jg_lcmp_le (tgt := 49) dX10_refer_43 dX10_refer_44 (by decide) (fun c12 => ?_) (fun c12 => ?_)
        · replace hv := hv.1 c12
          refine jg_aload_n dX10_refer_49 rfl (List.Mem.tail _ (List.Mem.head _)) ?_
          refine jg_iload_n dX10_refer_50 rfl (List.Mem.tail _ (List.Mem.tail _ (List.Mem.head _))) ?_
          obtain ⟨f13, hv⟩ := hv
          refine jp_callV mX10_placeOf [.inl (x1)] [] dX10_refer_51 rfl cl_RX10_219 ⟨⟨by decide, by decide⟩, by decide⟩ jsn f13 (Nat.zero_le _) (Nat.zero_le _) (jM.mono (jkl_k (fun r14 h15 hv => ?_)) hv)
          refine jg_l2i dX10_refer_54 ?_
          refine jg_iload_n dX10_refer_55 rfl (List.Mem.tail _ (List.Mem.tail _ (List.Mem.tail _ (List.Mem.head _)))) ?_
          refine jg_iadd dX10_refer_56 ?_
          refine jg_iconst (v := 1) dX10_refer_57 (by decide) ?_
          refine jg_isub dX10_refer_58 ?_
          exact jg_iret dX10_refer_59 rfl hv
        · replace hv := hv.2 c12
          refine jg_iconst (v := (-1)) dX10_refer_47 (by decide) ?_
          exact jg_iret dX10_refer_48 rfl hv
  · replace hv := hv.2 c6
    refine jg_iload dX10_refer_18 (List.Mem.head _) ?_
    exact jg_iret dX10_refer_20 rfl hv
theorem eX10_refer {g : jg} {a0 : Nat} {x1 : Int32} {x2 : Int32} {x3 : Int32} {h : jh} {mc ms : Nat} {Q : jq} (hv : VX10_refer_0 g a0 x1 x2 x3 h mc ms Q) : jM g mX10_refer [.inr (.inr (some (a0))), .inl (x1), .inl (x2), .inl (x3)] h mc ms Q := jM.of (by decide) (Nat.le_of_ble_eq_true rfl) (lv := [(0, .inr (.inr (some (a0)))), (1, .inl (x1)), (2, .inl (x2)), (3, .inl (x3))]) rfl (vX10_refer_0 hv)
theorem dX10_slack_0 : decode cX10_slack 0 = .ok (.aload_n 0, 1) := by decide +kernel
theorem dX10_slack_1 : decode cX10_slack 1 = .ok (.iconst 0, 1) := by decide +kernel
theorem dX10_slack_2 : decode cX10_slack 2 = .ok (.putfield 98, 3) := by decide +kernel
theorem dX10_slack_5 : decode cX10_slack 5 = .ok (.aload_n 0, 1) := by decide +kernel
theorem dX10_slack_6 : decode cX10_slack 6 = .ok (.iload_n 1, 1) := by decide +kernel
theorem dX10_slack_7 : decode cX10_slack 7 = .ok (.iconst 1, 1) := by decide +kernel
theorem dX10_slack_8 : decode cX10_slack 8 = .ok (.invokevirtual 215, 3) := by decide +kernel
theorem dX10_slack_11 : decode cX10_slack 11 = .ok (.istore_n 2, 1) := by decide +kernel
theorem dX10_slack_12 : decode cX10_slack 12 = .ok (.iload_n 2, 1) := by decide +kernel
theorem dX10_slack_13 : decode cX10_slack 13 = .ok (.ifCond .ge 7, 3) := by decide +kernel
theorem dX10_slack_16 : decode cX10_slack 16 = .ok (.iload_n 2, 1) := by decide +kernel
theorem dX10_slack_17 : decode cX10_slack 17 = .ok (.goto 10, 3) := by decide +kernel
theorem dX10_slack_20 : decode cX10_slack 20 = .ok (.aload_n 0, 1) := by decide +kernel
theorem dX10_slack_21 : decode cX10_slack 21 = .ok (.getfield 89, 3) := by decide +kernel
theorem dX10_slack_24 : decode cX10_slack 24 = .ok (.iload_n 1, 1) := by decide +kernel
theorem dX10_slack_25 : decode cX10_slack 25 = .ok (.laload, 1) := by decide +kernel
theorem dX10_slack_26 : decode cX10_slack 26 = .ok (.l2i, 1) := by decide +kernel
theorem dX10_slack_27 : decode cX10_slack 27 = .ok (.ireturn, 1) := by decide +kernel
def VX10_slack_0 (g : jg) (a0 : Nat) (x1 : Int32) (h : jh) (k n : Nat) (Q : jq) : Prop := (jt h a0 = 9) ∧ ∀ h2 : jh, h2 = jsi h 512 a0 (0) → jM g mX10_refused [.inr (.inr (some a0)), .inl (x1), .inl (1)] h2 0 0 (jki (fun (r4 : Int32) (h5 : jh) => ((0 ≤ (r4) → (jt h5 a0 = 9) ∧ (¬ (jr h5 543 a0) = none) ∧ (jt h5 (jd (jr h5 543 a0)) = 22) ∧ (vp_in (x1) (jn h5 (jd (jr h5 543 a0)))) ∧ Q (.inl (some (.inl ((jL h5 (jd (jr h5 543 a0)) (x1 : Int32).toNatClampNeg : Int64).toInt32)))) h5) ∧ (¬ 0 ≤ (r4) → Q (.inl (some (.inl (r4)))) h5))) (fun e h9 => Q (.inr e) h9))
set_option maxRecDepth 20000 in
theorem vX10_slack_0 {g : jg} {a0 : Nat} {x1 : Int32} {h : jh} {k n : Nat} {Q : jq} (hv : VX10_slack_0 g a0 x1 h k n Q) : jG g mX10_slack 0 [(0, .inr (.inr (some (a0)))), (1, .inl (x1))] [] h k n Q := by
  unfold VX10_slack_0 at hv
  refine jg_aload_n dX10_slack_0 rfl (List.Mem.head _) ?_
  refine jg_iconst (v := 0) dX10_slack_1 (by decide) ?_
  obtain ⟨f1, hv⟩ := hv
  obtain ⟨h2, e3⟩ : ∃ z : jh, z = jsi h 512 a0 (0) := ⟨_, rfl⟩
  replace hv := hv h2 e3
  refine jp_puti dX10_slack_2 (jfp.nf fl_RX10_98 (fun q hq => by cases hq; rfl)) rfl jsn f1 e3 ?_
  refine jg_aload_n dX10_slack_5 rfl (List.Mem.head _) ?_
  refine jg_iload_n dX10_slack_6 rfl (List.Mem.tail _ (List.Mem.head _)) ?_
  refine jg_iconst (v := 1) dX10_slack_7 (by decide) ?_
  refine jp_callV mX10_refused [.inl (x1), .inl (1)] [] dX10_slack_8 rfl cl_RX10_215 ⟨⟨by decide, by decide⟩, by decide⟩ jsn ((congrArg (fun z => jt z a0) e3).trans f1) (Nat.zero_le _) (Nat.zero_le _) (jM.mono (jki_k (fun r4 h5 hv => ?_)) hv)
  refine jg_istore_n (lv' := [(2, .inl (r4)), (0, .inr (.inr (some (a0)))), (1, .inl (x1))]) dX10_slack_11 rfl (by decide) rfl ?_
  refine jg_iload_n dX10_slack_12 rfl (List.Mem.head _) ?_
  refine jg_if_ge (tgt := 20) dX10_slack_13 (by decide) (fun c6 => ?_) (fun c6 => ?_)
  · replace hv := hv.1 c6
    refine jg_aload_n dX10_slack_20 rfl (List.Mem.tail _ (List.Mem.head _)) ?_
    obtain ⟨f7, hv⟩ := hv
    refine jg_getr dX10_slack_21 fl_RX10_89 rfl jsn f7 ?_
    refine jg_iload_n dX10_slack_24 rfl (List.Mem.tail _ (List.Mem.tail _ (List.Mem.head _))) ?_
    obtain ⟨f8, hv⟩ := hv
    obtain ⟨f9, hv⟩ := hv
    obtain ⟨f10, hv⟩ := hv
    refine jg_lald dX10_slack_25 f8 f9 f10 ?_
    refine jg_l2i dX10_slack_26 ?_
    exact jg_iret dX10_slack_27 rfl hv
  · replace hv := hv.2 c6
    refine jg_iload_n dX10_slack_16 rfl (List.Mem.head _) ?_
    refine jg_goto (tgt := 27) dX10_slack_17 (by decide) ?_
    exact jg_iret dX10_slack_27 rfl hv
theorem eX10_slack {g : jg} {a0 : Nat} {x1 : Int32} {h : jh} {mc ms : Nat} {Q : jq} (hv : VX10_slack_0 g a0 x1 h mc ms Q) : jM g mX10_slack [.inr (.inr (some (a0))), .inl (x1)] h mc ms Q := jM.of (by decide) (Nat.le_of_ble_eq_true rfl) (lv := [(0, .inr (.inr (some (a0)))), (1, .inl (x1))]) rfl (vX10_slack_0 hv)
theorem dX10_at_0 : decode cX10_at 0 = .ok (.aload_n 0, 1) := by decide +kernel
theorem dX10_at_1 : decode cX10_at 1 = .ok (.aload_n 0, 1) := by decide +kernel
theorem dX10_at_2 : decode cX10_at 2 = .ok (.getfield 121, 3) := by decide +kernel
theorem dX10_at_5 : decode cX10_at 5 = .ok (.ifCond .eq 19, 3) := by decide +kernel
theorem dX10_at_8 : decode cX10_at 8 = .ok (.iload_n 1, 1) := by decide +kernel
theorem dX10_at_9 : decode cX10_at 9 = .ok (.ifCond .lt 15, 3) := by decide +kernel
theorem dX10_at_12 : decode cX10_at 12 = .ok (.iload_n 1, 1) := by decide +kernel
theorem dX10_at_13 : decode cX10_at 13 = .ok (.aload_n 0, 1) := by decide +kernel
theorem dX10_at_14 : decode cX10_at 14 = .ok (.getfield 194, 3) := by decide +kernel
theorem dX10_at_17 : decode cX10_at 17 = .ok (.if_icmp .ge 7, 3) := by decide +kernel
theorem dX10_at_20 : decode cX10_at 20 = .ok (.iconst 0, 1) := by decide +kernel
theorem dX10_at_21 : decode cX10_at 21 = .ok (.goto 4, 3) := by decide +kernel
theorem dX10_at_24 : decode cX10_at 24 = .ok (.iconst 1, 1) := by decide +kernel
theorem dX10_at_25 : decode cX10_at 25 = .ok (.putfield 98, 3) := by decide +kernel
theorem dX10_at_28 : decode cX10_at 28 = .ok (.aload_n 0, 1) := by decide +kernel
theorem dX10_at_29 : decode cX10_at 29 = .ok (.getfield 98, 3) := by decide +kernel
theorem dX10_at_32 : decode cX10_at 32 = .ok (.ifCond .ne 12, 3) := by decide +kernel
theorem dX10_at_35 : decode cX10_at 35 = .ok (.aload_n 0, 1) := by decide +kernel
theorem dX10_at_36 : decode cX10_at 36 = .ok (.getfield 72, 3) := by decide +kernel
theorem dX10_at_39 : decode cX10_at 39 = .ok (.iload_n 1, 1) := by decide +kernel
theorem dX10_at_40 : decode cX10_at 40 = .ok (.baload, 1) := by decide +kernel
theorem dX10_at_41 : decode cX10_at 41 = .ok (.goto 4, 3) := by decide +kernel
theorem dX10_at_44 : decode cX10_at 44 = .ok (.iconst 0, 1) := by decide +kernel
theorem dX10_at_45 : decode cX10_at 45 = .ok (.ireturn, 1) := by decide +kernel
def VX10_at_25 (g : jg) (a0 : Nat) (x1 : Int32) (so0 : Option Nat) (s1 : Int32) (h : jh) (k n : Nat) (Q : jq) : Prop := (¬ (so0) = none) ∧ (jt h (jd (so0)) = 9) ∧ ∀ h3 : jh, h3 = jsi h 512 (jd (so0)) (s1) → (jt h3 a0 = 9) ∧ ((¬ (ji h3 512 a0) = 0 → (narrow .byte (.int (0)) = .int (0)) ∧ Q (.inl (some (.inl (0)))) h3) ∧ ((ji h3 512 a0) = 0 → (¬ (jr h3 538 a0) = none) ∧ (jt h3 (jd (jr h3 538 a0)) = 21) ∧ (vp_in (x1) (jn h3 (jd (jr h3 538 a0)))) ∧ (narrow .byte (.int (jI h3 (jd (jr h3 538 a0)) (x1 : Int32).toNatClampNeg)) = .int (jI h3 (jd (jr h3 538 a0)) (x1 : Int32).toNatClampNeg)) ∧ Q (.inl (some (.inl (jI h3 (jd (jr h3 538 a0)) (x1 : Int32).toNatClampNeg)))) h3))
set_option maxRecDepth 20000 in
theorem vX10_at_25 {g : jg} {a0 : Nat} {x1 : Int32} {so0 : Option Nat} {s1 : Int32} {h : jh} {k n : Nat} {Q : jq} (hv : VX10_at_25 g a0 x1 so0 s1 h k n Q) : jG g mX10_at 25 [(0, .inr (.inr (some (a0)))), (1, .inl (x1))] [.inl (s1), .inr (.inr (so0))] h k n Q := by
  unfold VX10_at_25 at hv
  obtain ⟨f1, hv⟩ := hv
  obtain ⟨f2, hv⟩ := hv
  obtain ⟨h3, e4⟩ : ∃ z : jh, z = jsi h 512 (jd (so0)) (s1) := ⟨_, rfl⟩
  replace hv := hv h3 e4
  refine jp_puti dX10_at_25 (jfp.nf fl_RX10_98 (fun q hq => by cases hq; rfl)) rfl f1 f2 e4 ?_
  refine jg_aload_n dX10_at_28 rfl (List.Mem.head _) ?_
  obtain ⟨f5, hv⟩ := hv
  refine jg_geti dX10_at_29 fl_RX10_98 rfl jsn f5 ?_
  refine jg_if_ne (tgt := 44) dX10_at_32 (by decide) (fun c6 => ?_) (fun c6 => ?_)
  · replace hv := hv.1 c6
    refine jg_iconst (v := 0) dX10_at_44 (by decide) ?_
    obtain ⟨f7, hv⟩ := hv
    exact jg_zret dX10_at_45 rfl f7 hv
  · replace hv := hv.2 c6
    refine jg_aload_n dX10_at_35 rfl (List.Mem.head _) ?_
    refine jg_getr dX10_at_36 fl_RX10_72 rfl jsn f5 ?_
    refine jg_iload_n dX10_at_39 rfl (List.Mem.tail _ (List.Mem.head _)) ?_
    obtain ⟨f8, hv⟩ := hv
    obtain ⟨f9, hv⟩ := hv
    obtain ⟨f10, hv⟩ := hv
    refine jg_bald dX10_at_40 f8 f9 f10 ?_
    refine jg_goto (tgt := 45) dX10_at_41 (by decide) ?_
    obtain ⟨f11, hv⟩ := hv
    exact jg_zret dX10_at_45 rfl f11 hv
def VX10_at_0 (g : jg) (a0 : Nat) (x1 : Int32) (h : jh) (k n : Nat) (Q : jq) : Prop := (jt h a0 = 9) ∧ (((ji h 533 a0) = 0 → VX10_at_25 g (a0) (x1) (some (a0)) (1) h k n Q) ∧ (¬ (ji h 533 a0) = 0 → (((x1) < 0 → VX10_at_25 g (a0) (x1) (some (a0)) (1) h k n Q) ∧ (¬ (x1) < 0 → (((ji h 536 a0) ≤ (x1) → VX10_at_25 g (a0) (x1) (some (a0)) (1) h k n Q) ∧ (¬ (ji h 536 a0) ≤ (x1) → VX10_at_25 g (a0) (x1) (some (a0)) (0) h k n Q))))))
set_option maxRecDepth 20000 in
theorem vX10_at_0 {g : jg} {a0 : Nat} {x1 : Int32} {h : jh} {k n : Nat} {Q : jq} (hv : VX10_at_0 g a0 x1 h k n Q) : jG g mX10_at 0 [(0, .inr (.inr (some (a0)))), (1, .inl (x1))] [] h k n Q := by
  unfold VX10_at_0 at hv
  refine jg_aload_n dX10_at_0 rfl (List.Mem.head _) ?_
  refine jg_aload_n dX10_at_1 rfl (List.Mem.head _) ?_
  obtain ⟨f12, hv⟩ := hv
  refine jg_geti dX10_at_2 fl_RX10_121 rfl jsn f12 ?_
  refine jg_if_eq (tgt := 24) dX10_at_5 (by decide) (fun c13 => ?_) (fun c13 => ?_)
  · replace hv := hv.1 c13
    refine jg_iconst (v := 1) dX10_at_24 (by decide) ?_
    exact vX10_at_25 hv
  · replace hv := hv.2 c13
    refine jg_iload_n dX10_at_8 rfl (List.Mem.tail _ (List.Mem.head _)) ?_
    refine jg_if_lt (tgt := 24) dX10_at_9 (by decide) (fun c14 => ?_) (fun c14 => ?_)
    · replace hv := hv.1 c14
      refine jg_iconst (v := 1) dX10_at_24 (by decide) ?_
      exact vX10_at_25 hv
    · replace hv := hv.2 c14
      refine jg_iload_n dX10_at_12 rfl (List.Mem.tail _ (List.Mem.head _)) ?_
      refine jg_aload_n dX10_at_13 rfl (List.Mem.head _) ?_
      refine jg_geti dX10_at_14 fl_RX10_194 rfl jsn f12 ?_
      refine jg_icmp_ge (tgt := 24) dX10_at_17 (by decide) (fun c15 => ?_) (fun c15 => ?_)
      · replace hv := hv.1 c15
        refine jg_iconst (v := 1) dX10_at_24 (by decide) ?_
        exact vX10_at_25 hv
      · replace hv := hv.2 c15
        refine jg_iconst (v := 0) dX10_at_20 (by decide) ?_
        refine jg_goto (tgt := 25) dX10_at_21 (by decide) ?_
        exact vX10_at_25 hv
theorem eX10_at {g : jg} {a0 : Nat} {x1 : Int32} {h : jh} {mc ms : Nat} {Q : jq} (hv : VX10_at_0 g a0 x1 h mc ms Q) : jM g mX10_at [.inr (.inr (some (a0))), .inl (x1)] h mc ms Q := jM.of (by decide) (Nat.le_of_ble_eq_true rfl) (lv := [(0, .inr (.inr (some (a0)))), (1, .inl (x1))]) rfl (vX10_at_0 hv)
theorem dX10_octet_0 : decode cX10_octet 0 = .ok (.aload_n 0, 1) := by decide +kernel
theorem dX10_octet_1 : decode cX10_octet 1 = .ok (.iconst 0, 1) := by decide +kernel
theorem dX10_octet_2 : decode cX10_octet 2 = .ok (.putfield 98, 3) := by decide +kernel
theorem dX10_octet_5 : decode cX10_octet 5 = .ok (.iload_n 1, 1) := by decide +kernel
theorem dX10_octet_6 : decode cX10_octet 6 = .ok (.ifCond .lt 25, 3) := by decide +kernel
theorem dX10_octet_9 : decode cX10_octet 9 = .ok (.iload_n 1, 1) := by decide +kernel
theorem dX10_octet_10 : decode cX10_octet 10 = .ok (.sipush 20000, 3) := by decide +kernel
theorem dX10_octet_13 : decode cX10_octet 13 = .ok (.if_icmp .ge 18, 3) := by decide +kernel
theorem dX10_octet_16 : decode cX10_octet 16 = .ok (.aload_n 0, 1) := by decide +kernel
theorem dX10_octet_17 : decode cX10_octet 17 = .ok (.getfield 121, 3) := by decide +kernel
theorem dX10_octet_20 : decode cX10_octet 20 = .ok (.ifCond .eq 14, 3) := by decide +kernel
theorem dX10_octet_23 : decode cX10_octet 23 = .ok (.iload_n 1, 1) := by decide +kernel
theorem dX10_octet_24 : decode cX10_octet 24 = .ok (.aload_n 0, 1) := by decide +kernel
theorem dX10_octet_25 : decode cX10_octet 25 = .ok (.getfield 194, 3) := by decide +kernel
theorem dX10_octet_28 : decode cX10_octet 28 = .ok (.if_icmp .lt 6, 3) := by decide +kernel
theorem dX10_octet_31 : decode cX10_octet 31 = .ok (.bipush (-4), 2) := by decide +kernel
theorem dX10_octet_33 : decode cX10_octet 33 = .ok (.ireturn, 1) := by decide +kernel
theorem dX10_octet_34 : decode cX10_octet 34 = .ok (.aload_n 0, 1) := by decide +kernel
theorem dX10_octet_35 : decode cX10_octet 35 = .ok (.getfield 121, 3) := by decide +kernel
theorem dX10_octet_38 : decode cX10_octet 38 = .ok (.ifCond .ne 6, 3) := by decide +kernel
theorem dX10_octet_41 : decode cX10_octet 41 = .ok (.bipush (-5), 2) := by decide +kernel
theorem dX10_octet_43 : decode cX10_octet 43 = .ok (.ireturn, 1) := by decide +kernel
theorem dX10_octet_44 : decode cX10_octet 44 = .ok (.aload_n 0, 1) := by decide +kernel
theorem dX10_octet_45 : decode cX10_octet 45 = .ok (.getfield 72, 3) := by decide +kernel
theorem dX10_octet_48 : decode cX10_octet 48 = .ok (.iload_n 1, 1) := by decide +kernel
theorem dX10_octet_49 : decode cX10_octet 49 = .ok (.iload_n 2, 1) := by decide +kernel
theorem dX10_octet_50 : decode cX10_octet 50 = .ok (.bastore, 1) := by decide +kernel
theorem dX10_octet_51 : decode cX10_octet 51 = .ok (.iconst 1, 1) := by decide +kernel
theorem dX10_octet_52 : decode cX10_octet 52 = .ok (.ireturn, 1) := by decide +kernel
def VX10_octet_34 (g : jg) (a0 : Nat) (x1 : Int32) (x2 : Int32) (h : jh) (k n : Nat) (Q : jq) : Prop := (jt h a0 = 9) ∧ ((¬ (ji h 533 a0) = 0 → (¬ (jr h 538 a0) = none) ∧ (jt h (jd (jr h 538 a0)) = 21) ∧ (vp_in (x1) (jn h (jd (jr h 538 a0)))) ∧ ∀ h6 : jh, h6 = jsI h (jd (jr h 538 a0)) (x1 : Int32).toNatClampNeg (x2 : Int32).toInt8.toInt32 → Q (.inl (some (.inl (1)))) h6) ∧ ((ji h 533 a0) = 0 → Q (.inl (some (.inl ((-5))))) h))
set_option maxRecDepth 20000 in
theorem vX10_octet_34 {g : jg} {a0 : Nat} {x1 : Int32} {x2 : Int32} {h : jh} {k n : Nat} {Q : jq} (hv : VX10_octet_34 g a0 x1 x2 h k n Q) : jG g mX10_octet 34 [(0, .inr (.inr (some (a0)))), (1, .inl (x1)), (2, .inl (x2))] [] h k n Q := by
  unfold VX10_octet_34 at hv
  refine jg_aload_n dX10_octet_34 rfl (List.Mem.head _) ?_
  obtain ⟨f1, hv⟩ := hv
  refine jg_geti dX10_octet_35 fl_RX10_121 rfl jsn f1 ?_
  refine jg_if_ne (tgt := 44) dX10_octet_38 (by decide) (fun c2 => ?_) (fun c2 => ?_)
  · replace hv := hv.1 c2
    refine jg_aload_n dX10_octet_44 rfl (List.Mem.head _) ?_
    refine jg_getr dX10_octet_45 fl_RX10_72 rfl jsn f1 ?_
    refine jg_iload_n dX10_octet_48 rfl (List.Mem.tail _ (List.Mem.head _)) ?_
    refine jg_iload_n dX10_octet_49 rfl (List.Mem.tail _ (List.Mem.tail _ (List.Mem.head _))) ?_
    obtain ⟨f3, hv⟩ := hv
    obtain ⟨f4, hv⟩ := hv
    obtain ⟨f5, hv⟩ := hv
    obtain ⟨h6, e7⟩ : ∃ z : jh, z = jsI h (jd (jr h 538 a0)) (x1 : Int32).toNatClampNeg (x2 : Int32).toInt8.toInt32 := ⟨_, rfl⟩
    replace hv := hv h6 e7
    refine jp_bast dX10_octet_50 f3 f4 f5 e7 ?_
    refine jg_iconst (v := 1) dX10_octet_51 (by decide) ?_
    exact jg_iret dX10_octet_52 rfl hv
  · replace hv := hv.2 c2
    refine jg_bipush (v := (-5)) dX10_octet_41 (by decide) ?_
    exact jg_iret dX10_octet_43 rfl hv
def VX10_octet_0 (g : jg) (a0 : Nat) (x1 : Int32) (x2 : Int32) (h : jh) (k n : Nat) (Q : jq) : Prop := (jt h a0 = 9) ∧ ∀ h9 : jh, h9 = jsi h 512 a0 (0) → (((x1) < 0 → Q (.inl (some (.inl ((-4))))) h9) ∧ (¬ (x1) < 0 → (((20000 : Int32) ≤ (x1) → Q (.inl (some (.inl ((-4))))) h9) ∧ (¬ (20000 : Int32) ≤ (x1) → (((ji h9 533 a0) = 0 → VX10_octet_34 g (a0) (x1) (x2) h9 k n Q) ∧ (¬ (ji h9 533 a0) = 0 → (((x1) < (ji h9 536 a0) → VX10_octet_34 g (a0) (x1) (x2) h9 k n Q) ∧ (¬ (x1) < (ji h9 536 a0) → Q (.inl (some (.inl ((-4))))) h9))))))))
set_option maxRecDepth 20000 in
theorem vX10_octet_0 {g : jg} {a0 : Nat} {x1 : Int32} {x2 : Int32} {h : jh} {k n : Nat} {Q : jq} (hv : VX10_octet_0 g a0 x1 x2 h k n Q) : jG g mX10_octet 0 [(0, .inr (.inr (some (a0)))), (1, .inl (x1)), (2, .inl (x2))] [] h k n Q := by
  unfold VX10_octet_0 at hv
  refine jg_aload_n dX10_octet_0 rfl (List.Mem.head _) ?_
  refine jg_iconst (v := 0) dX10_octet_1 (by decide) ?_
  obtain ⟨f8, hv⟩ := hv
  obtain ⟨h9, e10⟩ : ∃ z : jh, z = jsi h 512 a0 (0) := ⟨_, rfl⟩
  replace hv := hv h9 e10
  refine jp_puti dX10_octet_2 (jfp.nf fl_RX10_98 (fun q hq => by cases hq; rfl)) rfl jsn f8 e10 ?_
  refine jg_iload_n dX10_octet_5 rfl (List.Mem.tail _ (List.Mem.head _)) ?_
  refine jg_if_lt (tgt := 31) dX10_octet_6 (by decide) (fun c11 => ?_) (fun c11 => ?_)
  · replace hv := hv.1 c11
    refine jg_bipush (v := (-4)) dX10_octet_31 (by decide) ?_
    exact jg_iret dX10_octet_33 rfl hv
  · replace hv := hv.2 c11
    refine jg_iload_n dX10_octet_9 rfl (List.Mem.tail _ (List.Mem.head _)) ?_
    refine jg_sipush (v := 20000) dX10_octet_10 (by decide) ?_
    refine jg_icmp_ge (tgt := 31) dX10_octet_13 (by decide) (fun c12 => ?_) (fun c12 => ?_)
    · replace hv := hv.1 c12
      refine jg_bipush (v := (-4)) dX10_octet_31 (by decide) ?_
      exact jg_iret dX10_octet_33 rfl hv
    · replace hv := hv.2 c12
      refine jg_aload_n dX10_octet_16 rfl (List.Mem.head _) ?_
      refine jg_geti dX10_octet_17 fl_RX10_121 rfl jsn ((congrArg (fun z => jt z a0) e10).trans f8) ?_
      refine jg_if_eq (tgt := 34) dX10_octet_20 (by decide) (fun c13 => ?_) (fun c13 => ?_)
      · replace hv := hv.1 c13
        exact vX10_octet_34 hv
      · replace hv := hv.2 c13
        refine jg_iload_n dX10_octet_23 rfl (List.Mem.tail _ (List.Mem.head _)) ?_
        refine jg_aload_n dX10_octet_24 rfl (List.Mem.head _) ?_
        refine jg_geti dX10_octet_25 fl_RX10_194 rfl jsn ((congrArg (fun z => jt z a0) e10).trans f8) ?_
        refine jg_icmp_lt (tgt := 34) dX10_octet_28 (by decide) (fun c14 => ?_) (fun c14 => ?_)
        · replace hv := hv.1 c14
          exact vX10_octet_34 hv
        · replace hv := hv.2 c14
          refine jg_bipush (v := (-4)) dX10_octet_31 (by decide) ?_
          exact jg_iret dX10_octet_33 rfl hv
theorem eX10_octet {g : jg} {a0 : Nat} {x1 : Int32} {x2 : Int32} {h : jh} {mc ms : Nat} {Q : jq} (hv : VX10_octet_0 g a0 x1 x2 h mc ms Q) : jM g mX10_octet [.inr (.inr (some (a0))), .inl (x1), .inl (x2)] h mc ms Q := jM.of (by decide) (Nat.le_of_ble_eq_true rfl) (lv := [(0, .inr (.inr (some (a0)))), (1, .inl (x1)), (2, .inl (x2))]) rfl (vX10_octet_0 hv)
theorem dX10_isDigit_0 : decode cX10_isDigit 0 = .ok (.iload_n 1, 1) := by decide +kernel
theorem dX10_isDigit_1 : decode cX10_isDigit 1 = .ok (.bipush 48, 2) := by decide +kernel
theorem dX10_isDigit_3 : decode cX10_isDigit 3 = .ok (.if_icmp .lt 13, 3) := by decide +kernel
theorem dX10_isDigit_6 : decode cX10_isDigit 6 = .ok (.iload_n 1, 1) := by decide +kernel
theorem dX10_isDigit_7 : decode cX10_isDigit 7 = .ok (.bipush 57, 2) := by decide +kernel
theorem dX10_isDigit_9 : decode cX10_isDigit 9 = .ok (.if_icmp .gt 7, 3) := by decide +kernel
theorem dX10_isDigit_12 : decode cX10_isDigit 12 = .ok (.iconst 1, 1) := by decide +kernel
theorem dX10_isDigit_13 : decode cX10_isDigit 13 = .ok (.goto 4, 3) := by decide +kernel
theorem dX10_isDigit_16 : decode cX10_isDigit 16 = .ok (.iconst 0, 1) := by decide +kernel
theorem dX10_isDigit_17 : decode cX10_isDigit 17 = .ok (.ireturn, 1) := by decide +kernel
def VX10_isDigit_0 (g : jg) (a0 : Nat) (x1 : Int32) (h : jh) (k n : Nat) (Q : jq) : Prop := (((x1) < (48) → Q (.inl (some (.inl (0)))) h) ∧ (¬ (x1) < (48) → (((57 : Int32) < (x1) → Q (.inl (some (.inl (0)))) h) ∧ (¬ (57 : Int32) < (x1) → Q (.inl (some (.inl (1)))) h))))
set_option maxRecDepth 20000 in
theorem vX10_isDigit_0 {g : jg} {a0 : Nat} {x1 : Int32} {h : jh} {k n : Nat} {Q : jq} (hv : VX10_isDigit_0 g a0 x1 h k n Q) : jG g mX10_isDigit 0 [(0, .inr (.inr (some (a0)))), (1, .inl (x1))] [] h k n Q := by
  unfold VX10_isDigit_0 at hv
  refine jg_iload_n dX10_isDigit_0 rfl (List.Mem.tail _ (List.Mem.head _)) ?_
  refine jg_bipush (v := 48) dX10_isDigit_1 (by decide) ?_
  refine jg_icmp_lt (tgt := 16) dX10_isDigit_3 (by decide) (fun c1 => ?_) (fun c1 => ?_)
  · replace hv := hv.1 c1
    refine jg_iconst (v := 0) dX10_isDigit_16 (by decide) ?_
    exact jg_bret dX10_isDigit_17 rfl (by decide) hv
  · replace hv := hv.2 c1
    refine jg_iload_n dX10_isDigit_6 rfl (List.Mem.tail _ (List.Mem.head _)) ?_
    refine jg_bipush (v := 57) dX10_isDigit_7 (by decide) ?_
    refine jg_icmp_gt (tgt := 16) dX10_isDigit_9 (by decide) (fun c2 => ?_) (fun c2 => ?_)
    · replace hv := hv.1 c2
      refine jg_iconst (v := 0) dX10_isDigit_16 (by decide) ?_
      exact jg_bret dX10_isDigit_17 rfl (by decide) hv
    · replace hv := hv.2 c2
      refine jg_iconst (v := 1) dX10_isDigit_12 (by decide) ?_
      refine jg_goto (tgt := 17) dX10_isDigit_13 (by decide) ?_
      exact jg_bret dX10_isDigit_17 rfl (by decide) hv
theorem eX10_isDigit {g : jg} {a0 : Nat} {x1 : Int32} {h : jh} {mc ms : Nat} {Q : jq} (hv : VX10_isDigit_0 g a0 x1 h mc ms Q) : jM g mX10_isDigit [.inr (.inr (some (a0))), .inl (x1)] h mc ms Q := jM.of (by decide) (Nat.le_of_ble_eq_true rfl) (lv := [(0, .inr (.inr (some (a0)))), (1, .inl (x1))]) rfl (vX10_isDigit_0 hv)
theorem dX10_says_0 : decode cX10_says 0 = .ok (.aload_n 0, 1) := by decide +kernel
theorem dX10_says_1 : decode cX10_says 1 = .ok (.getfield 76, 3) := by decide +kernel
theorem dX10_says_4 : decode cX10_says 4 = .ok (.iload_n 1, 1) := by decide +kernel
theorem dX10_says_5 : decode cX10_says 5 = .ok (.laload, 1) := by decide +kernel
theorem dX10_says_6 : decode cX10_says 6 = .ok (.l2i, 1) := by decide +kernel
theorem dX10_says_7 : decode cX10_says 7 = .ok (.istore_n 2, 1) := by decide +kernel
theorem dX10_says_8 : decode cX10_says 8 = .ok (.aload_n 0, 1) := by decide +kernel
theorem dX10_says_9 : decode cX10_says 9 = .ok (.getfield 80, 3) := by decide +kernel
theorem dX10_says_12 : decode cX10_says 12 = .ok (.iload_n 1, 1) := by decide +kernel
theorem dX10_says_13 : decode cX10_says 13 = .ok (.laload, 1) := by decide +kernel
theorem dX10_says_14 : decode cX10_says 14 = .ok (.l2i, 1) := by decide +kernel
theorem dX10_says_15 : decode cX10_says 15 = .ok (.istore_n 3, 1) := by decide +kernel
theorem dX10_says_16 : decode cX10_says 16 = .ok (.aload_n 0, 1) := by decide +kernel
theorem dX10_says_17 : decode cX10_says 17 = .ok (.lconst 0, 1) := by decide +kernel
theorem dX10_says_18 : decode cX10_says 18 = .ok (.putfield 229, 3) := by decide +kernel
theorem dX10_says_21 : decode cX10_says 21 = .ok (.aload_n 0, 1) := by decide +kernel
theorem dX10_says_22 : decode cX10_says 22 = .ok (.getfield 13, 3) := by decide +kernel
theorem dX10_says_25 : decode cX10_says 25 = .ok (.iload_n 1, 1) := by decide +kernel
theorem dX10_says_26 : decode cX10_says 26 = .ok (.iaload, 1) := by decide +kernel
theorem dX10_says_27 : decode cX10_says 27 = .ok (.bipush 8, 2) := by decide +kernel
theorem dX10_says_29 : decode cX10_says 29 = .ok (.if_icmp .ne 61, 3) := by decide +kernel
theorem dX10_says_32 : decode cX10_says 32 = .ok (.iconst 0, 1) := by decide +kernel
theorem dX10_says_33 : decode cX10_says 33 = .ok (.istore 4, 2) := by decide +kernel
theorem dX10_says_35 : decode cX10_says 35 = .ok (.iload 4, 2) := by decide +kernel
theorem dX10_says_37 : decode cX10_says 37 = .ok (.iload_n 3, 1) := by decide +kernel
theorem dX10_says_38 : decode cX10_says 38 = .ok (.if_icmp .ge 50, 3) := by decide +kernel
theorem dX10_says_41 : decode cX10_says 41 = .ok (.aload_n 0, 1) := by decide +kernel
theorem dX10_says_42 : decode cX10_says 42 = .ok (.iload 4, 2) := by decide +kernel
theorem dX10_says_44 : decode cX10_says 44 = .ok (.ifCond .ne 13, 3) := by decide +kernel
theorem dX10_says_47 : decode cX10_says 47 = .ok (.aload_n 0, 1) := by decide +kernel
theorem dX10_says_48 : decode cX10_says 48 = .ok (.getfield 72, 3) := by decide +kernel
theorem dX10_says_51 : decode cX10_says 51 = .ok (.iload_n 2, 1) := by decide +kernel
theorem dX10_says_52 : decode cX10_says 52 = .ok (.baload, 1) := by decide +kernel
theorem dX10_says_53 : decode cX10_says 53 = .ok (.i2l, 1) := by decide +kernel
theorem dX10_says_54 : decode cX10_says 54 = .ok (.goto 25, 3) := by decide +kernel
theorem dX10_says_57 : decode cX10_says 57 = .ok (.aload_n 0, 1) := by decide +kernel
theorem dX10_says_58 : decode cX10_says 58 = .ok (.getfield 229, 3) := by decide +kernel
theorem dX10_says_61 : decode cX10_says 61 = .ok (.bipush 8, 2) := by decide +kernel
theorem dX10_says_63 : decode cX10_says 63 = .ok (.lshl, 1) := by decide +kernel
theorem dX10_says_64 : decode cX10_says 64 = .ok (.aload_n 0, 1) := by decide +kernel
theorem dX10_says_65 : decode cX10_says 65 = .ok (.getfield 72, 3) := by decide +kernel
theorem dX10_says_68 : decode cX10_says 68 = .ok (.iload_n 2, 1) := by decide +kernel
theorem dX10_says_69 : decode cX10_says 69 = .ok (.iload 4, 2) := by decide +kernel
theorem dX10_says_71 : decode cX10_says 71 = .ok (.iadd, 1) := by decide +kernel
theorem dX10_says_72 : decode cX10_says 72 = .ok (.baload, 1) := by decide +kernel
theorem dX10_says_73 : decode cX10_says 73 = .ok (.sipush 255, 3) := by decide +kernel
theorem dX10_says_76 : decode cX10_says 76 = .ok (.iand, 1) := by decide +kernel
theorem dX10_says_77 : decode cX10_says 77 = .ok (.i2l, 1) := by decide +kernel
theorem dX10_says_78 : decode cX10_says 78 = .ok (.lor, 1) := by decide +kernel
theorem dX10_says_79 : decode cX10_says 79 = .ok (.putfield 229, 3) := by decide +kernel
theorem dX10_says_82 : decode cX10_says 82 = .ok (.iinc 4 1, 3) := by decide +kernel
theorem dX10_says_85 : decode cX10_says 85 = .ok (.goto (-50), 3) := by decide +kernel
theorem dX10_says_88 : decode cX10_says 88 = .ok (.iconst 1, 1) := by decide +kernel
theorem dX10_says_89 : decode cX10_says 89 = .ok (.ireturn, 1) := by decide +kernel
theorem dX10_says_90 : decode cX10_says 90 = .ok (.aload_n 0, 1) := by decide +kernel
theorem dX10_says_91 : decode cX10_says 91 = .ok (.getfield 13, 3) := by decide +kernel
theorem dX10_says_94 : decode cX10_says 94 = .ok (.iload_n 1, 1) := by decide +kernel
theorem dX10_says_95 : decode cX10_says 95 = .ok (.iaload, 1) := by decide +kernel
theorem dX10_says_96 : decode cX10_says 96 = .ok (.bipush 7, 2) := by decide +kernel
theorem dX10_says_98 : decode cX10_says 98 = .ok (.if_icmp .ne 11, 3) := by decide +kernel
theorem dX10_says_101 : decode cX10_says 101 = .ok (.aload_n 0, 1) := by decide +kernel
theorem dX10_says_102 : decode cX10_says 102 = .ok (.iload_n 1, 1) := by decide +kernel
theorem dX10_says_103 : decode cX10_says 103 = .ok (.iload_n 2, 1) := by decide +kernel
theorem dX10_says_104 : decode cX10_says 104 = .ok (.iload_n 3, 1) := by decide +kernel
theorem dX10_says_105 : decode cX10_says 105 = .ok (.invokevirtual 233, 3) := by decide +kernel
theorem dX10_says_108 : decode cX10_says 108 = .ok (.ireturn, 1) := by decide +kernel
theorem dX10_says_109 : decode cX10_says 109 = .ok (.aload_n 0, 1) := by decide +kernel
theorem dX10_says_110 : decode cX10_says 110 = .ok (.getfield 13, 3) := by decide +kernel
theorem dX10_says_113 : decode cX10_says 113 = .ok (.iload_n 1, 1) := by decide +kernel
theorem dX10_says_114 : decode cX10_says 114 = .ok (.iaload, 1) := by decide +kernel
theorem dX10_says_115 : decode cX10_says 115 = .ok (.iconst 3, 1) := by decide +kernel
theorem dX10_says_116 : decode cX10_says 116 = .ok (.if_icmp .eq 14, 3) := by decide +kernel
theorem dX10_says_119 : decode cX10_says 119 = .ok (.aload_n 0, 1) := by decide +kernel
theorem dX10_says_120 : decode cX10_says 120 = .ok (.getfield 13, 3) := by decide +kernel
theorem dX10_says_123 : decode cX10_says 123 = .ok (.iload_n 1, 1) := by decide +kernel
theorem dX10_says_124 : decode cX10_says 124 = .ok (.iaload, 1) := by decide +kernel
theorem dX10_says_125 : decode cX10_says 125 = .ok (.bipush 6, 2) := by decide +kernel
theorem dX10_says_127 : decode cX10_says 127 = .ok (.if_icmp .ne 9, 3) := by decide +kernel
theorem dX10_says_130 : decode cX10_says 130 = .ok (.iload_n 3, 1) := by decide +kernel
theorem dX10_says_131 : decode cX10_says 131 = .ok (.iconst 1, 1) := by decide +kernel
theorem dX10_says_132 : decode cX10_says 132 = .ok (.isub, 1) := by decide +kernel
theorem dX10_says_133 : decode cX10_says 133 = .ok (.goto 4, 3) := by decide +kernel
theorem dX10_says_136 : decode cX10_says 136 = .ok (.iconst 0, 1) := by decide +kernel
theorem dX10_says_137 : decode cX10_says 137 = .ok (.istore 4, 2) := by decide +kernel
theorem dX10_says_139 : decode cX10_says 139 = .ok (.iconst 0, 1) := by decide +kernel
theorem dX10_says_140 : decode cX10_says 140 = .ok (.istore 5, 2) := by decide +kernel
theorem dX10_says_142 : decode cX10_says 142 = .ok (.iconst 0, 1) := by decide +kernel
theorem dX10_says_143 : decode cX10_says 143 = .ok (.istore 6, 2) := by decide +kernel
theorem dX10_says_145 : decode cX10_says 145 = .ok (.iload 6, 2) := by decide +kernel
theorem dX10_says_147 : decode cX10_says 147 = .ok (.iload_n 3, 1) := by decide +kernel
theorem dX10_says_148 : decode cX10_says 148 = .ok (.if_icmp .ge 130, 3) := by decide +kernel
theorem dX10_says_151 : decode cX10_says 151 = .ok (.aload_n 0, 1) := by decide +kernel
theorem dX10_says_152 : decode cX10_says 152 = .ok (.getfield 72, 3) := by decide +kernel
theorem dX10_says_155 : decode cX10_says 155 = .ok (.iload_n 2, 1) := by decide +kernel
theorem dX10_says_156 : decode cX10_says 156 = .ok (.iload 6, 2) := by decide +kernel
theorem dX10_says_158 : decode cX10_says 158 = .ok (.iadd, 1) := by decide +kernel
theorem dX10_says_159 : decode cX10_says 159 = .ok (.baload, 1) := by decide +kernel
theorem dX10_says_160 : decode cX10_says 160 = .ok (.sipush 255, 3) := by decide +kernel
theorem dX10_says_163 : decode cX10_says 163 = .ok (.iand, 1) := by decide +kernel
theorem dX10_says_164 : decode cX10_says 164 = .ok (.istore 7, 2) := by decide +kernel
theorem dX10_says_166 : decode cX10_says 166 = .ok (.iload 6, 2) := by decide +kernel
theorem dX10_says_168 : decode cX10_says 168 = .ok (.iload 4, 2) := by decide +kernel
theorem dX10_says_170 : decode cX10_says 170 = .ok (.if_icmp .ne 46, 3) := by decide +kernel
theorem dX10_says_173 : decode cX10_says 173 = .ok (.aload_n 0, 1) := by decide +kernel
theorem dX10_says_174 : decode cX10_says 174 = .ok (.getfield 13, 3) := by decide +kernel
theorem dX10_says_177 : decode cX10_says 177 = .ok (.iload_n 1, 1) := by decide +kernel
theorem dX10_says_178 : decode cX10_says 178 = .ok (.iaload, 1) := by decide +kernel
theorem dX10_says_179 : decode cX10_says 179 = .ok (.iconst 4, 1) := by decide +kernel
theorem dX10_says_180 : decode cX10_says 180 = .ok (.if_icmp .le 36, 3) := by decide +kernel
theorem dX10_says_183 : decode cX10_says 183 = .ok (.iload 7, 2) := by decide +kernel
theorem dX10_says_185 : decode cX10_says 185 = .ok (.bipush 43, 2) := by decide +kernel
theorem dX10_says_187 : decode cX10_says 187 = .ok (.if_icmp .eq 12, 3) := by decide +kernel
theorem dX10_says_190 : decode cX10_says 190 = .ok (.iload 7, 2) := by decide +kernel
theorem dX10_says_192 : decode cX10_says 192 = .ok (.bipush 45, 2) := by decide +kernel
theorem dX10_says_194 : decode cX10_says 194 = .ok (.if_icmp .eq 5, 3) := by decide +kernel
theorem dX10_says_197 : decode cX10_says 197 = .ok (.iconst 0, 1) := by decide +kernel
theorem dX10_says_198 : decode cX10_says 198 = .ok (.ireturn, 1) := by decide +kernel
theorem dX10_says_199 : decode cX10_says 199 = .ok (.iload 7, 2) := by decide +kernel
theorem dX10_says_201 : decode cX10_says 201 = .ok (.bipush 45, 2) := by decide +kernel
theorem dX10_says_203 : decode cX10_says 203 = .ok (.if_icmp .ne 7, 3) := by decide +kernel
theorem dX10_says_206 : decode cX10_says 206 = .ok (.iconst 1, 1) := by decide +kernel
theorem dX10_says_207 : decode cX10_says 207 = .ok (.goto 4, 3) := by decide +kernel
theorem dX10_says_210 : decode cX10_says 210 = .ok (.iconst 0, 1) := by decide +kernel
theorem dX10_says_211 : decode cX10_says 211 = .ok (.istore 5, 2) := by decide +kernel
theorem dX10_says_213 : decode cX10_says 213 = .ok (.goto 59, 3) := by decide +kernel
theorem dX10_says_216 : decode cX10_says 216 = .ok (.iload 6, 2) := by decide +kernel
theorem dX10_says_218 : decode cX10_says 218 = .ok (.iload 4, 2) := by decide +kernel
theorem dX10_says_220 : decode cX10_says 220 = .ok (.if_icmp .ne 21, 3) := by decide +kernel
theorem dX10_says_223 : decode cX10_says 223 = .ok (.aload_n 0, 1) := by decide +kernel
theorem dX10_says_224 : decode cX10_says 224 = .ok (.iload 7, 2) := by decide +kernel
theorem dX10_says_226 : decode cX10_says 226 = .ok (.bipush 64, 2) := by decide +kernel
theorem dX10_says_228 : decode cX10_says 228 = .ok (.isub, 1) := by decide +kernel
theorem dX10_says_229 : decode cX10_says 229 = .ok (.invokevirtual 236, 3) := by decide +kernel
theorem dX10_says_232 : decode cX10_says 232 = .ok (.ifCond .eq 9, 3) := by decide +kernel
theorem dX10_says_235 : decode cX10_says 235 = .ok (.iconst 1, 1) := by decide +kernel
theorem dX10_says_236 : decode cX10_says 236 = .ok (.istore 5, 2) := by decide +kernel
theorem dX10_says_238 : decode cX10_says 238 = .ok (.iinc 7 (-64), 3) := by decide +kernel
theorem dX10_says_241 : decode cX10_says 241 = .ok (.aload_n 0, 1) := by decide +kernel
theorem dX10_says_242 : decode cX10_says 242 = .ok (.iload 7, 2) := by decide +kernel
theorem dX10_says_244 : decode cX10_says 244 = .ok (.invokevirtual 236, 3) := by decide +kernel
theorem dX10_says_247 : decode cX10_says 247 = .ok (.ifCond .ne 5, 3) := by decide +kernel
theorem dX10_says_250 : decode cX10_says 250 = .ok (.iconst 0, 1) := by decide +kernel
theorem dX10_says_251 : decode cX10_says 251 = .ok (.ireturn, 1) := by decide +kernel
theorem dX10_says_252 : decode cX10_says 252 = .ok (.aload_n 0, 1) := by decide +kernel
theorem dX10_says_253 : decode cX10_says 253 = .ok (.ldc2_w 134, 3) := by decide +kernel
theorem dX10_says_256 : decode cX10_says 256 = .ok (.aload_n 0, 1) := by decide +kernel
theorem dX10_says_257 : decode cX10_says 257 = .ok (.getfield 229, 3) := by decide +kernel
theorem dX10_says_260 : decode cX10_says 260 = .ok (.lmul, 1) := by decide +kernel
theorem dX10_says_261 : decode cX10_says 261 = .ok (.iload 7, 2) := by decide +kernel
theorem dX10_says_263 : decode cX10_says 263 = .ok (.i2l, 1) := by decide +kernel
theorem dX10_says_264 : decode cX10_says 264 = .ok (.ladd, 1) := by decide +kernel
theorem dX10_says_265 : decode cX10_says 265 = .ok (.ldc2_w 213, 3) := by decide +kernel
theorem dX10_says_268 : decode cX10_says 268 = .ok (.lsub, 1) := by decide +kernel
theorem dX10_says_269 : decode cX10_says 269 = .ok (.putfield 229, 3) := by decide +kernel
theorem dX10_says_272 : decode cX10_says 272 = .ok (.iinc 6 1, 3) := by decide +kernel
theorem dX10_says_275 : decode cX10_says 275 = .ok (.goto (-130), 3) := by decide +kernel
theorem dX10_says_278 : decode cX10_says 278 = .ok (.aload_n 0, 1) := by decide +kernel
theorem dX10_says_279 : decode cX10_says 279 = .ok (.iload 5, 2) := by decide +kernel
theorem dX10_says_281 : decode cX10_says 281 = .ok (.ifCond .eq 11, 3) := by decide +kernel
theorem dX10_says_284 : decode cX10_says 284 = .ok (.aload_n 0, 1) := by decide +kernel
theorem dX10_says_285 : decode cX10_says 285 = .ok (.getfield 229, 3) := by decide +kernel
theorem dX10_says_288 : decode cX10_says 288 = .ok (.lneg, 1) := by decide +kernel
theorem dX10_says_289 : decode cX10_says 289 = .ok (.goto 7, 3) := by decide +kernel
theorem dX10_says_292 : decode cX10_says 292 = .ok (.aload_n 0, 1) := by decide +kernel
theorem dX10_says_293 : decode cX10_says 293 = .ok (.getfield 229, 3) := by decide +kernel
theorem dX10_says_296 : decode cX10_says 296 = .ok (.putfield 229, 3) := by decide +kernel
theorem dX10_says_299 : decode cX10_says 299 = .ok (.iconst 1, 1) := by decide +kernel
theorem dX10_says_300 : decode cX10_says 300 = .ok (.ireturn, 1) := by decide +kernel
def VX10_says_241 (g : jg) (a0 : Nat) (x1 : Int32) (x2 : Int32) (x3 : Int32) (x4 : Int32) (x5 : Int32) (x6 : Int32) (x7 : Int32) (h : jh) (k n : Nat) (Q : jq) : Prop := (jt h a0 = 9) ∧ jM g mX10_isDigit [.inr (.inr (some a0)), .inl (x7)] h 0 0 (jki (fun (r2 : Int32) (h3 : jh) => ((¬ (r2) = 0 → (jt h3 a0 = 9) ∧ ∀ h6 : jh, h6 = jsl h3 547 a0 ((((10) * (jl h3 547 a0)) + ((x7 : Int32).toInt64)) - (48)) → jG g mX10_says 145 [(0, .inr (.inr (some (a0)))), (1, .inl (x1)), (2, .inl (x2)), (3, .inl (x3)), (4, .inl (x4)), (5, .inl (x5)), (6, .inl ((x6) + 1))] [] h6 k n Q) ∧ ((r2) = 0 → Q (.inl (some (.inl (0)))) h3))) (fun e h9 => Q (.inr e) h9))
set_option maxRecDepth 20000 in
theorem vX10_says_241 {g : jg} {a0 : Nat} {x1 : Int32} {x2 : Int32} {x3 : Int32} {x4 : Int32} {x5 : Int32} {x6 : Int32} {x7 : Int32} {h : jh} {k n : Nat} {Q : jq} (hv : VX10_says_241 g a0 x1 x2 x3 x4 x5 x6 x7 h k n Q) : jG g mX10_says 241 [(0, .inr (.inr (some (a0)))), (1, .inl (x1)), (2, .inl (x2)), (3, .inl (x3)), (4, .inl (x4)), (5, .inl (x5)), (6, .inl (x6)), (7, .inl (x7))] [] h k n Q := by
  unfold VX10_says_241 at hv
  refine jg_aload_n dX10_says_241 rfl (List.Mem.head _) ?_
  refine jg_iload dX10_says_242 (List.Mem.tail _ (List.Mem.tail _ (List.Mem.tail _ (List.Mem.tail _ (List.Mem.tail _ (List.Mem.tail _ (List.Mem.tail _ (List.Mem.head _)))))))) ?_
  obtain ⟨f1, hv⟩ := hv
  refine jp_callV mX10_isDigit [.inl (x7)] [] dX10_says_244 rfl cl_RX10_236 ⟨⟨by decide, by decide⟩, by decide⟩ jsn f1 (Nat.zero_le _) (Nat.zero_le _) (jM.mono (jki_k (fun r2 h3 hv => ?_)) hv)
  refine jg_if_ne (tgt := 252) dX10_says_247 (by decide) (fun c4 => ?_) (fun c4 => ?_)
  · replace hv := hv.1 c4
    refine jg_aload_n dX10_says_252 rfl (List.Mem.head _) ?_
    refine jg_ldc2 (v := 10) dX10_says_253 kl_RX10_134 ?_
    refine jg_aload_n dX10_says_256 rfl (List.Mem.head _) ?_
    obtain ⟨f5, hv⟩ := hv
    refine jg_getl dX10_says_257 fl_RX10_229 rfl jsn f5 ?_
    refine jg_lmul dX10_says_260 ?_
    refine jg_iload dX10_says_261 (List.Mem.tail _ (List.Mem.tail _ (List.Mem.tail _ (List.Mem.tail _ (List.Mem.tail _ (List.Mem.tail _ (List.Mem.tail _ (List.Mem.head _)))))))) ?_
    refine jg_i2l dX10_says_263 ?_
    refine jg_ladd dX10_says_264 ?_
    refine jg_ldc2 (v := 48) dX10_says_265 kl_RX10_213 ?_
    refine jg_lsub dX10_says_268 ?_
    obtain ⟨h6, e7⟩ : ∃ z : jh, z = jsl h3 547 a0 ((((10) * (jl h3 547 a0)) + ((x7 : Int32).toInt64)) - (48)) := ⟨_, rfl⟩
    replace hv := hv h6 e7
    refine jp_putl dX10_says_269 (jfp.nf fl_RX10_229 (fun q hq => by cases hq; rfl)) rfl jsn f5 e7 ?_
    refine jg_iinc (v := (x6) + 1) (lv' := [(6, .inl ((x6) + 1)), (0, .inr (.inr (some (a0)))), (1, .inl (x1)), (2, .inl (x2)), (3, .inl (x3)), (4, .inl (x4)), (5, .inl (x5)), (7, .inl (x7))]) dX10_says_272 (List.Mem.tail _ (List.Mem.tail _ (List.Mem.tail _ (List.Mem.tail _ (List.Mem.tail _ (List.Mem.tail _ (List.Mem.head _))))))) rfl (by decide) rfl ?_
    refine jg_goto (tgt := 145) dX10_says_275 (by decide) ?_
    refine jG.sub (lv' := [(0, .inr (.inr (some (a0)))), (1, .inl (x1)), (2, .inl (x2)), (3, .inl (x3)), (4, .inl (x4)), (5, .inl (x5)), (6, .inl ((x6) + 1))]) (by simp) ?_
    exact hv
  · replace hv := hv.2 c4
    refine jg_iconst (v := 0) dX10_says_250 (by decide) ?_
    exact jg_bret dX10_says_251 rfl (by decide) hv
def VX10_says_216 (g : jg) (a0 : Nat) (x1 : Int32) (x2 : Int32) (x3 : Int32) (x4 : Int32) (x5 : Int32) (x6 : Int32) (x7 : Int32) (h : jh) (k n : Nat) (Q : jq) : Prop := ((¬ (x6) = (x4) → VX10_says_241 g (a0) (x1) (x2) (x3) (x4) (x5) (x6) (x7) h k n Q) ∧ ((x6) = (x4) → (jt h a0 = 9) ∧ jM g mX10_isDigit [.inr (.inr (some a0)), .inl ((x7) - (64))] h 0 0 (jki (fun (r10 : Int32) (h11 : jh) => (((r10) = 0 → VX10_says_241 g (a0) (x1) (x2) (x3) (x4) (x5) (x6) (x7) h11 k n Q) ∧ (¬ (r10) = 0 → VX10_says_241 g (a0) (x1) (x2) (x3) (x4) (1) (x6) ((x7) + (-64)) h11 k n Q))) (fun e h9 => Q (.inr e) h9))))
set_option maxRecDepth 20000 in
theorem vX10_says_216 {g : jg} {a0 : Nat} {x1 : Int32} {x2 : Int32} {x3 : Int32} {x4 : Int32} {x5 : Int32} {x6 : Int32} {x7 : Int32} {h : jh} {k n : Nat} {Q : jq} (hv : VX10_says_216 g a0 x1 x2 x3 x4 x5 x6 x7 h k n Q) : jG g mX10_says 216 [(0, .inr (.inr (some (a0)))), (1, .inl (x1)), (2, .inl (x2)), (3, .inl (x3)), (4, .inl (x4)), (5, .inl (x5)), (6, .inl (x6)), (7, .inl (x7))] [] h k n Q := by
  unfold VX10_says_216 at hv
  refine jg_iload dX10_says_216 (List.Mem.tail _ (List.Mem.tail _ (List.Mem.tail _ (List.Mem.tail _ (List.Mem.tail _ (List.Mem.tail _ (List.Mem.head _))))))) ?_
  refine jg_iload dX10_says_218 (List.Mem.tail _ (List.Mem.tail _ (List.Mem.tail _ (List.Mem.tail _ (List.Mem.head _))))) ?_
  refine jg_icmp_ne (tgt := 241) dX10_says_220 (by decide) (fun c8 => ?_) (fun c8 => ?_)
  · replace hv := hv.1 c8
    exact vX10_says_241 hv
  · replace hv := hv.2 c8
    refine jg_aload_n dX10_says_223 rfl (List.Mem.head _) ?_
    refine jg_iload dX10_says_224 (List.Mem.tail _ (List.Mem.tail _ (List.Mem.tail _ (List.Mem.tail _ (List.Mem.tail _ (List.Mem.tail _ (List.Mem.tail _ (List.Mem.head _)))))))) ?_
    refine jg_bipush (v := 64) dX10_says_226 (by decide) ?_
    refine jg_isub dX10_says_228 ?_
    obtain ⟨f9, hv⟩ := hv
    refine jp_callV mX10_isDigit [.inl ((x7) - (64))] [] dX10_says_229 rfl cl_RX10_236 ⟨⟨by decide, by decide⟩, by decide⟩ jsn f9 (Nat.zero_le _) (Nat.zero_le _) (jM.mono (jki_k (fun r10 h11 hv => ?_)) hv)
    refine jg_if_eq (tgt := 241) dX10_says_232 (by decide) (fun c12 => ?_) (fun c12 => ?_)
    · replace hv := hv.1 c12
      exact vX10_says_241 hv
    · replace hv := hv.2 c12
      refine jg_iconst (v := 1) dX10_says_235 (by decide) ?_
      refine jg_istore (lv' := [(5, .inl (1)), (0, .inr (.inr (some (a0)))), (1, .inl (x1)), (2, .inl (x2)), (3, .inl (x3)), (4, .inl (x4)), (6, .inl (x6)), (7, .inl (x7))]) dX10_says_236 (by decide) rfl ?_
      refine jg_iinc (v := (x7) + (-64)) (lv' := [(7, .inl ((x7) + (-64))), (5, .inl (1)), (0, .inr (.inr (some (a0)))), (1, .inl (x1)), (2, .inl (x2)), (3, .inl (x3)), (4, .inl (x4)), (6, .inl (x6))]) dX10_says_238 (List.Mem.tail _ (List.Mem.tail _ (List.Mem.tail _ (List.Mem.tail _ (List.Mem.tail _ (List.Mem.tail _ (List.Mem.tail _ (List.Mem.head _)))))))) rfl (by decide) rfl ?_
      refine jG.sub (lv' := [(0, .inr (.inr (some (a0)))), (1, .inl (x1)), (2, .inl (x2)), (3, .inl (x3)), (4, .inl (x4)), (5, .inl (1)), (6, .inl (x6)), (7, .inl ((x7) + (-64)))]) (by simp) ?_
      exact vX10_says_241 hv
def VX10_says_199 (g : jg) (a0 : Nat) (x1 : Int32) (x2 : Int32) (x3 : Int32) (x4 : Int32) (x6 : Int32) (x7 : Int32) (h : jh) (k n : Nat) (Q : jq) : Prop := ((¬ (x7) = (45) → jG g mX10_says 145 [(0, .inr (.inr (some (a0)))), (1, .inl (x1)), (2, .inl (x2)), (3, .inl (x3)), (4, .inl (x4)), (5, .inl (0)), (6, .inl ((x6) + 1))] [] h k n Q) ∧ ((x7) = (45) → jG g mX10_says 145 [(0, .inr (.inr (some (a0)))), (1, .inl (x1)), (2, .inl (x2)), (3, .inl (x3)), (4, .inl (x4)), (5, .inl (1)), (6, .inl ((x6) + 1))] [] h k n Q))
set_option maxRecDepth 20000 in
theorem vX10_says_199 {g : jg} {a0 : Nat} {x1 : Int32} {x2 : Int32} {x3 : Int32} {x4 : Int32} {x6 : Int32} {x7 : Int32} {h : jh} {k n : Nat} {Q : jq} (hv : VX10_says_199 g a0 x1 x2 x3 x4 x6 x7 h k n Q) : jG g mX10_says 199 [(0, .inr (.inr (some (a0)))), (1, .inl (x1)), (2, .inl (x2)), (3, .inl (x3)), (4, .inl (x4)), (6, .inl (x6)), (7, .inl (x7))] [] h k n Q := by
  unfold VX10_says_199 at hv
  refine jg_iload dX10_says_199 (List.Mem.tail _ (List.Mem.tail _ (List.Mem.tail _ (List.Mem.tail _ (List.Mem.tail _ (List.Mem.tail _ (List.Mem.head _))))))) ?_
  refine jg_bipush (v := 45) dX10_says_201 (by decide) ?_
  refine jg_icmp_ne (tgt := 210) dX10_says_203 (by decide) (fun c13 => ?_) (fun c13 => ?_)
  · replace hv := hv.1 c13
    refine jg_iconst (v := 0) dX10_says_210 (by decide) ?_
    refine jg_istore (lv' := [(5, .inl (0)), (0, .inr (.inr (some (a0)))), (1, .inl (x1)), (2, .inl (x2)), (3, .inl (x3)), (4, .inl (x4)), (6, .inl (x6)), (7, .inl (x7))]) dX10_says_211 (by decide) rfl ?_
    refine jg_goto (tgt := 272) dX10_says_213 (by decide) ?_
    refine jg_iinc (v := (x6) + 1) (lv' := [(6, .inl ((x6) + 1)), (5, .inl (0)), (0, .inr (.inr (some (a0)))), (1, .inl (x1)), (2, .inl (x2)), (3, .inl (x3)), (4, .inl (x4)), (7, .inl (x7))]) dX10_says_272 (List.Mem.tail _ (List.Mem.tail _ (List.Mem.tail _ (List.Mem.tail _ (List.Mem.tail _ (List.Mem.tail _ (List.Mem.head _))))))) rfl (by decide) rfl ?_
    refine jg_goto (tgt := 145) dX10_says_275 (by decide) ?_
    refine jG.sub (lv' := [(0, .inr (.inr (some (a0)))), (1, .inl (x1)), (2, .inl (x2)), (3, .inl (x3)), (4, .inl (x4)), (5, .inl (0)), (6, .inl ((x6) + 1))]) (by simp) ?_
    exact hv
  · replace hv := hv.2 c13
    refine jg_iconst (v := 1) dX10_says_206 (by decide) ?_
    refine jg_goto (tgt := 211) dX10_says_207 (by decide) ?_
    refine jg_istore (lv' := [(5, .inl (1)), (0, .inr (.inr (some (a0)))), (1, .inl (x1)), (2, .inl (x2)), (3, .inl (x3)), (4, .inl (x4)), (6, .inl (x6)), (7, .inl (x7))]) dX10_says_211 (by decide) rfl ?_
    refine jg_goto (tgt := 272) dX10_says_213 (by decide) ?_
    refine jg_iinc (v := (x6) + 1) (lv' := [(6, .inl ((x6) + 1)), (5, .inl (1)), (0, .inr (.inr (some (a0)))), (1, .inl (x1)), (2, .inl (x2)), (3, .inl (x3)), (4, .inl (x4)), (7, .inl (x7))]) dX10_says_272 (List.Mem.tail _ (List.Mem.tail _ (List.Mem.tail _ (List.Mem.tail _ (List.Mem.tail _ (List.Mem.tail _ (List.Mem.head _))))))) rfl (by decide) rfl ?_
    refine jg_goto (tgt := 145) dX10_says_275 (by decide) ?_
    refine jG.sub (lv' := [(0, .inr (.inr (some (a0)))), (1, .inl (x1)), (2, .inl (x2)), (3, .inl (x3)), (4, .inl (x4)), (5, .inl (1)), (6, .inl ((x6) + 1))]) (by simp) ?_
    exact hv
def VX10_says_145 (g : jg) (a0 : Nat) (x1 : Int32) (x2 : Int32) (x3 : Int32) (x4 : Int32) (x5 : Int32) (x6 : Int32) (h : jh) (k n : Nat) (Q : jq) : Prop := (((x3) ≤ (x6) → (((x5) = 0 → (jt h a0 = 9) ∧ ∀ h17 : jh, h17 = jsl h 547 a0 (jl h 547 a0) → Q (.inl (some (.inl (1)))) h17) ∧ (¬ (x5) = 0 → (jt h a0 = 9) ∧ ∀ h20 : jh, h20 = jsl h 547 a0 (-(jl h 547 a0)) → Q (.inl (some (.inl (1)))) h20))) ∧ (¬ (x3) ≤ (x6) → (jt h a0 = 9) ∧ (¬ (jr h 538 a0) = none) ∧ (jt h (jd (jr h 538 a0)) = 21) ∧ (vp_in ((x2) + (x6)) (jn h (jd (jr h 538 a0)))) ∧ ((¬ (x6) = (x4) → VX10_says_216 g (a0) (x1) (x2) (x3) (x4) (x5) (x6) ((jI h (jd (jr h 538 a0)) ((x2) + (x6) : Int32).toNatClampNeg) &&& (255)) h k n Q) ∧ ((x6) = (x4) → (¬ (jr h 515 a0) = none) ∧ (jt h (jd (jr h 515 a0)) = 20) ∧ (vp_in (x1) (jn h (jd (jr h 515 a0)))) ∧ (((jI h (jd (jr h 515 a0)) (x1 : Int32).toNatClampNeg) ≤ (4) → VX10_says_216 g (a0) (x1) (x2) (x3) (x4) (x5) (x6) ((jI h (jd (jr h 538 a0)) ((x2) + (x6) : Int32).toNatClampNeg) &&& (255)) h k n Q) ∧ (¬ (jI h (jd (jr h 515 a0)) (x1 : Int32).toNatClampNeg) ≤ (4) → ((((jI h (jd (jr h 538 a0)) ((x2) + (x6) : Int32).toNatClampNeg) &&& (255)) = (43) → VX10_says_199 g (a0) (x1) (x2) (x3) (x4) (x6) ((jI h (jd (jr h 538 a0)) ((x2) + (x6) : Int32).toNatClampNeg) &&& (255)) h k n Q) ∧ (¬ ((jI h (jd (jr h 538 a0)) ((x2) + (x6) : Int32).toNatClampNeg) &&& (255)) = (43) → ((((jI h (jd (jr h 538 a0)) ((x2) + (x6) : Int32).toNatClampNeg) &&& (255)) = (45) → VX10_says_199 g (a0) (x1) (x2) (x3) (x4) (x6) ((jI h (jd (jr h 538 a0)) ((x2) + (x6) : Int32).toNatClampNeg) &&& (255)) h k n Q) ∧ (¬ ((jI h (jd (jr h 538 a0)) ((x2) + (x6) : Int32).toNatClampNeg) &&& (255)) = (45) → Q (.inl (some (.inl (0)))) h))))))))))
set_option maxRecDepth 20000 in
theorem vX10_says_145 {g : jg} {a0 : Nat} {x1 : Int32} {x2 : Int32} {x3 : Int32} {x4 : Int32} {x5 : Int32} {x6 : Int32} {h : jh} {k n : Nat} {Q : jq} (hv : VX10_says_145 g a0 x1 x2 x3 x4 x5 x6 h k n Q) : jG g mX10_says 145 [(0, .inr (.inr (some (a0)))), (1, .inl (x1)), (2, .inl (x2)), (3, .inl (x3)), (4, .inl (x4)), (5, .inl (x5)), (6, .inl (x6))] [] h k n Q := by
  unfold VX10_says_145 at hv
  refine jg_iload dX10_says_145 (List.Mem.tail _ (List.Mem.tail _ (List.Mem.tail _ (List.Mem.tail _ (List.Mem.tail _ (List.Mem.tail _ (List.Mem.head _))))))) ?_
  refine jg_iload_n dX10_says_147 rfl (List.Mem.tail _ (List.Mem.tail _ (List.Mem.tail _ (List.Mem.head _)))) ?_
  refine jg_icmp_ge (tgt := 278) dX10_says_148 (by decide) (fun c14 => ?_) (fun c14 => ?_)
  · replace hv := hv.1 c14
    refine jg_aload_n dX10_says_278 rfl (List.Mem.head _) ?_
    refine jg_iload dX10_says_279 (List.Mem.tail _ (List.Mem.tail _ (List.Mem.tail _ (List.Mem.tail _ (List.Mem.tail _ (List.Mem.head _)))))) ?_
    refine jg_if_eq (tgt := 292) dX10_says_281 (by decide) (fun c15 => ?_) (fun c15 => ?_)
    · replace hv := hv.1 c15
      refine jg_aload_n dX10_says_292 rfl (List.Mem.head _) ?_
      obtain ⟨f16, hv⟩ := hv
      refine jg_getl dX10_says_293 fl_RX10_229 rfl jsn f16 ?_
      obtain ⟨h17, e18⟩ : ∃ z : jh, z = jsl h 547 a0 (jl h 547 a0) := ⟨_, rfl⟩
      replace hv := hv h17 e18
      refine jp_putl dX10_says_296 (jfp.nf fl_RX10_229 (fun q hq => by cases hq; rfl)) rfl jsn f16 e18 ?_
      refine jg_iconst (v := 1) dX10_says_299 (by decide) ?_
      exact jg_bret dX10_says_300 rfl (by decide) hv
    · replace hv := hv.2 c15
      refine jg_aload_n dX10_says_284 rfl (List.Mem.head _) ?_
      obtain ⟨f19, hv⟩ := hv
      refine jg_getl dX10_says_285 fl_RX10_229 rfl jsn f19 ?_
      refine jg_lneg dX10_says_288 ?_
      refine jg_goto (tgt := 296) dX10_says_289 (by decide) ?_
      obtain ⟨h20, e21⟩ : ∃ z : jh, z = jsl h 547 a0 (-(jl h 547 a0)) := ⟨_, rfl⟩
      replace hv := hv h20 e21
      refine jp_putl dX10_says_296 (jfp.nf fl_RX10_229 (fun q hq => by cases hq; rfl)) rfl jsn f19 e21 ?_
      refine jg_iconst (v := 1) dX10_says_299 (by decide) ?_
      exact jg_bret dX10_says_300 rfl (by decide) hv
  · replace hv := hv.2 c14
    refine jg_aload_n dX10_says_151 rfl (List.Mem.head _) ?_
    obtain ⟨f22, hv⟩ := hv
    refine jg_getr dX10_says_152 fl_RX10_72 rfl jsn f22 ?_
    refine jg_iload_n dX10_says_155 rfl (List.Mem.tail _ (List.Mem.tail _ (List.Mem.head _))) ?_
    refine jg_iload dX10_says_156 (List.Mem.tail _ (List.Mem.tail _ (List.Mem.tail _ (List.Mem.tail _ (List.Mem.tail _ (List.Mem.tail _ (List.Mem.head _))))))) ?_
    refine jg_iadd dX10_says_158 ?_
    obtain ⟨f23, hv⟩ := hv
    obtain ⟨f24, hv⟩ := hv
    obtain ⟨f25, hv⟩ := hv
    refine jg_bald dX10_says_159 f23 f24 f25 ?_
    refine jg_sipush (v := 255) dX10_says_160 (by decide) ?_
    refine jg_iand dX10_says_163 ?_
    refine jg_istore (lv' := [(7, .inl ((jI h (jd (jr h 538 a0)) ((x2) + (x6) : Int32).toNatClampNeg) &&& (255))), (0, .inr (.inr (some (a0)))), (1, .inl (x1)), (2, .inl (x2)), (3, .inl (x3)), (4, .inl (x4)), (5, .inl (x5)), (6, .inl (x6))]) dX10_says_164 (by decide) rfl ?_
    refine jg_iload dX10_says_166 (List.Mem.tail _ (List.Mem.tail _ (List.Mem.tail _ (List.Mem.tail _ (List.Mem.tail _ (List.Mem.tail _ (List.Mem.tail _ (List.Mem.head _)))))))) ?_
    refine jg_iload dX10_says_168 (List.Mem.tail _ (List.Mem.tail _ (List.Mem.tail _ (List.Mem.tail _ (List.Mem.tail _ (List.Mem.head _)))))) ?_
    refine jg_icmp_ne (tgt := 216) dX10_says_170 (by decide) (fun c26 => ?_) (fun c26 => ?_)
    · replace hv := hv.1 c26
      refine jG.sub (lv' := [(0, .inr (.inr (some (a0)))), (1, .inl (x1)), (2, .inl (x2)), (3, .inl (x3)), (4, .inl (x4)), (5, .inl (x5)), (6, .inl (x6)), (7, .inl ((jI h (jd (jr h 538 a0)) ((x2) + (x6) : Int32).toNatClampNeg) &&& (255)))]) (by simp) ?_
      exact vX10_says_216 hv
    · replace hv := hv.2 c26
      refine jg_aload_n dX10_says_173 rfl (List.Mem.tail _ (List.Mem.head _)) ?_
      refine jg_getr dX10_says_174 fl_RX10_13 rfl jsn f22 ?_
      refine jg_iload_n dX10_says_177 rfl (List.Mem.tail _ (List.Mem.tail _ (List.Mem.head _))) ?_
      obtain ⟨f27, hv⟩ := hv
      obtain ⟨f28, hv⟩ := hv
      obtain ⟨f29, hv⟩ := hv
      refine jg_iald dX10_says_178 f27 f28 f29 ?_
      refine jg_iconst (v := 4) dX10_says_179 (by decide) ?_
      refine jg_icmp_le (tgt := 216) dX10_says_180 (by decide) (fun c30 => ?_) (fun c30 => ?_)
      · replace hv := hv.1 c30
        refine jG.sub (lv' := [(0, .inr (.inr (some (a0)))), (1, .inl (x1)), (2, .inl (x2)), (3, .inl (x3)), (4, .inl (x4)), (5, .inl (x5)), (6, .inl (x6)), (7, .inl ((jI h (jd (jr h 538 a0)) ((x2) + (x6) : Int32).toNatClampNeg) &&& (255)))]) (by simp) ?_
        exact vX10_says_216 hv
      · replace hv := hv.2 c30
        refine jg_iload dX10_says_183 (List.Mem.head _) ?_
        refine jg_bipush (v := 43) dX10_says_185 (by decide) ?_
        refine jg_icmp_eq (tgt := 199) dX10_says_187 (by decide) (fun c31 => ?_) (fun c31 => ?_)
        · replace hv := hv.1 c31
          refine jG.sub (lv' := [(0, .inr (.inr (some (a0)))), (1, .inl (x1)), (2, .inl (x2)), (3, .inl (x3)), (4, .inl (x4)), (6, .inl (x6)), (7, .inl ((jI h (jd (jr h 538 a0)) ((x2) + (x6) : Int32).toNatClampNeg) &&& (255)))]) (by simp) ?_
          exact vX10_says_199 hv
        · replace hv := hv.2 c31
          refine jg_iload dX10_says_190 (List.Mem.head _) ?_
          refine jg_bipush (v := 45) dX10_says_192 (by decide) ?_
          refine jg_icmp_eq (tgt := 199) dX10_says_194 (by decide) (fun c32 => ?_) (fun c32 => ?_)
          · replace hv := hv.1 c32
            refine jG.sub (lv' := [(0, .inr (.inr (some (a0)))), (1, .inl (x1)), (2, .inl (x2)), (3, .inl (x3)), (4, .inl (x4)), (6, .inl (x6)), (7, .inl ((jI h (jd (jr h 538 a0)) ((x2) + (x6) : Int32).toNatClampNeg) &&& (255)))]) (by simp) ?_
            exact vX10_says_199 hv
          · replace hv := hv.2 c32
            refine jg_iconst (v := 0) dX10_says_197 (by decide) ?_
            exact jg_bret dX10_says_198 rfl (by decide) hv
def VX10_says_130 (g : jg) (a0 : Nat) (x1 : Int32) (x2 : Int32) (x3 : Int32) (h : jh) (k n : Nat) (Q : jq) : Prop := jG g mX10_says 145 [(0, .inr (.inr (some (a0)))), (1, .inl (x1)), (2, .inl (x2)), (3, .inl (x3)), (4, .inl ((x3) - (1))), (5, .inl (0)), (6, .inl (0))] [] h k n Q
set_option maxRecDepth 20000 in
theorem vX10_says_130 {g : jg} {a0 : Nat} {x1 : Int32} {x2 : Int32} {x3 : Int32} {h : jh} {k n : Nat} {Q : jq} (hv : VX10_says_130 g a0 x1 x2 x3 h k n Q) : jG g mX10_says 130 [(0, .inr (.inr (some (a0)))), (1, .inl (x1)), (2, .inl (x2)), (3, .inl (x3))] [] h k n Q := by
  unfold VX10_says_130 at hv
  refine jg_iload_n dX10_says_130 rfl (List.Mem.tail _ (List.Mem.tail _ (List.Mem.tail _ (List.Mem.head _)))) ?_
  refine jg_iconst (v := 1) dX10_says_131 (by decide) ?_
  refine jg_isub dX10_says_132 ?_
  refine jg_goto (tgt := 137) dX10_says_133 (by decide) ?_
  refine jg_istore (lv' := [(4, .inl ((x3) - (1))), (0, .inr (.inr (some (a0)))), (1, .inl (x1)), (2, .inl (x2)), (3, .inl (x3))]) dX10_says_137 (by decide) rfl ?_
  refine jg_iconst (v := 0) dX10_says_139 (by decide) ?_
  refine jg_istore (lv' := [(5, .inl (0)), (4, .inl ((x3) - (1))), (0, .inr (.inr (some (a0)))), (1, .inl (x1)), (2, .inl (x2)), (3, .inl (x3))]) dX10_says_140 (by decide) rfl ?_
  refine jg_iconst (v := 0) dX10_says_142 (by decide) ?_
  refine jg_istore (lv' := [(6, .inl (0)), (5, .inl (0)), (4, .inl ((x3) - (1))), (0, .inr (.inr (some (a0)))), (1, .inl (x1)), (2, .inl (x2)), (3, .inl (x3))]) dX10_says_143 (by decide) rfl ?_
  refine jG.sub (lv' := [(0, .inr (.inr (some (a0)))), (1, .inl (x1)), (2, .inl (x2)), (3, .inl (x3)), (4, .inl ((x3) - (1))), (5, .inl (0)), (6, .inl (0))]) (by simp) ?_
  exact hv
def VX10_says_35 (g : jg) (a0 : Nat) (x2 : Int32) (x3 : Int32) (x4 : Int32) (h : jh) (k n : Nat) (Q : jq) : Prop := (((x3) ≤ (x4) → Q (.inl (some (.inl (1)))) h) ∧ (¬ (x3) ≤ (x4) → ((¬ (x4) = 0 → (jt h a0 = 9) ∧ (¬ (jr h 538 a0) = none) ∧ (jt h (jd (jr h 538 a0)) = 21) ∧ (vp_in ((x2) + (x4)) (jn h (jd (jr h 538 a0)))) ∧ ∀ h39 : jh, h39 = jsl h 547 a0 (((jl h 547 a0) <<< ((8 : Int32).toInt64 &&& 63)) ||| (((jI h (jd (jr h 538 a0)) ((x2) + (x4) : Int32).toNatClampNeg) &&& (255) : Int32).toInt64)) → jG g mX10_says 35 [(0, .inr (.inr (some (a0)))), (2, .inl (x2)), (3, .inl (x3)), (4, .inl ((x4) + 1))] [] h39 k n Q) ∧ ((x4) = 0 → (jt h a0 = 9) ∧ (¬ (jr h 538 a0) = none) ∧ (jt h (jd (jr h 538 a0)) = 21) ∧ (vp_in (x2) (jn h (jd (jr h 538 a0)))) ∧ ∀ h45 : jh, h45 = jsl h 547 a0 ((jI h (jd (jr h 538 a0)) (x2 : Int32).toNatClampNeg : Int32).toInt64) → jG g mX10_says 35 [(0, .inr (.inr (some (a0)))), (2, .inl (x2)), (3, .inl (x3)), (4, .inl ((x4) + 1))] [] h45 k n Q))))
set_option maxRecDepth 20000 in
theorem vX10_says_35 {g : jg} {a0 : Nat} {x2 : Int32} {x3 : Int32} {x4 : Int32} {h : jh} {k n : Nat} {Q : jq} (hv : VX10_says_35 g a0 x2 x3 x4 h k n Q) : jG g mX10_says 35 [(0, .inr (.inr (some (a0)))), (2, .inl (x2)), (3, .inl (x3)), (4, .inl (x4))] [] h k n Q := by
  unfold VX10_says_35 at hv
  refine jg_iload dX10_says_35 (List.Mem.tail _ (List.Mem.tail _ (List.Mem.tail _ (List.Mem.head _)))) ?_
  refine jg_iload_n dX10_says_37 rfl (List.Mem.tail _ (List.Mem.tail _ (List.Mem.head _))) ?_
  refine jg_icmp_ge (tgt := 88) dX10_says_38 (by decide) (fun c33 => ?_) (fun c33 => ?_)
  · replace hv := hv.1 c33
    refine jg_iconst (v := 1) dX10_says_88 (by decide) ?_
    exact jg_bret dX10_says_89 rfl (by decide) hv
  · replace hv := hv.2 c33
    refine jg_aload_n dX10_says_41 rfl (List.Mem.head _) ?_
    refine jg_iload dX10_says_42 (List.Mem.tail _ (List.Mem.tail _ (List.Mem.tail _ (List.Mem.head _)))) ?_
    refine jg_if_ne (tgt := 57) dX10_says_44 (by decide) (fun c34 => ?_) (fun c34 => ?_)
    · replace hv := hv.1 c34
      refine jg_aload_n dX10_says_57 rfl (List.Mem.head _) ?_
      obtain ⟨f35, hv⟩ := hv
      refine jg_getl dX10_says_58 fl_RX10_229 rfl jsn f35 ?_
      refine jg_bipush (v := 8) dX10_says_61 (by decide) ?_
      refine jg_lshl dX10_says_63 ?_
      refine jg_aload_n dX10_says_64 rfl (List.Mem.head _) ?_
      refine jg_getr dX10_says_65 fl_RX10_72 rfl jsn f35 ?_
      refine jg_iload_n dX10_says_68 rfl (List.Mem.tail _ (List.Mem.head _)) ?_
      refine jg_iload dX10_says_69 (List.Mem.tail _ (List.Mem.tail _ (List.Mem.tail _ (List.Mem.head _)))) ?_
      refine jg_iadd dX10_says_71 ?_
      obtain ⟨f36, hv⟩ := hv
      obtain ⟨f37, hv⟩ := hv
      obtain ⟨f38, hv⟩ := hv
      refine jg_bald dX10_says_72 f36 f37 f38 ?_
      refine jg_sipush (v := 255) dX10_says_73 (by decide) ?_
      refine jg_iand dX10_says_76 ?_
      refine jg_i2l dX10_says_77 ?_
      refine jg_lor dX10_says_78 ?_
      obtain ⟨h39, e40⟩ : ∃ z : jh, z = jsl h 547 a0 (((jl h 547 a0) <<< ((8 : Int32).toInt64 &&& 63)) ||| (((jI h (jd (jr h 538 a0)) ((x2) + (x4) : Int32).toNatClampNeg) &&& (255) : Int32).toInt64)) := ⟨_, rfl⟩
      replace hv := hv h39 e40
      refine jp_putl dX10_says_79 (jfp.nf fl_RX10_229 (fun q hq => by cases hq; rfl)) rfl jsn f35 e40 ?_
      refine jg_iinc (v := (x4) + 1) (lv' := [(4, .inl ((x4) + 1)), (0, .inr (.inr (some (a0)))), (2, .inl (x2)), (3, .inl (x3))]) dX10_says_82 (List.Mem.tail _ (List.Mem.tail _ (List.Mem.tail _ (List.Mem.head _)))) rfl (by decide) rfl ?_
      refine jg_goto (tgt := 35) dX10_says_85 (by decide) ?_
      refine jG.sub (lv' := [(0, .inr (.inr (some (a0)))), (2, .inl (x2)), (3, .inl (x3)), (4, .inl ((x4) + 1))]) (by simp) ?_
      exact hv
    · replace hv := hv.2 c34
      refine jg_aload_n dX10_says_47 rfl (List.Mem.head _) ?_
      obtain ⟨f41, hv⟩ := hv
      refine jg_getr dX10_says_48 fl_RX10_72 rfl jsn f41 ?_
      refine jg_iload_n dX10_says_51 rfl (List.Mem.tail _ (List.Mem.head _)) ?_
      obtain ⟨f42, hv⟩ := hv
      obtain ⟨f43, hv⟩ := hv
      obtain ⟨f44, hv⟩ := hv
      refine jg_bald dX10_says_52 f42 f43 f44 ?_
      refine jg_i2l dX10_says_53 ?_
      refine jg_goto (tgt := 79) dX10_says_54 (by decide) ?_
      obtain ⟨h45, e46⟩ : ∃ z : jh, z = jsl h 547 a0 ((jI h (jd (jr h 538 a0)) (x2 : Int32).toNatClampNeg : Int32).toInt64) := ⟨_, rfl⟩
      replace hv := hv h45 e46
      refine jp_putl dX10_says_79 (jfp.nf fl_RX10_229 (fun q hq => by cases hq; rfl)) rfl jsn f41 e46 ?_
      refine jg_iinc (v := (x4) + 1) (lv' := [(4, .inl ((x4) + 1)), (0, .inr (.inr (some (a0)))), (2, .inl (x2)), (3, .inl (x3))]) dX10_says_82 (List.Mem.tail _ (List.Mem.tail _ (List.Mem.tail _ (List.Mem.head _)))) rfl (by decide) rfl ?_
      refine jg_goto (tgt := 35) dX10_says_85 (by decide) ?_
      refine jG.sub (lv' := [(0, .inr (.inr (some (a0)))), (2, .inl (x2)), (3, .inl (x3)), (4, .inl ((x4) + 1))]) (by simp) ?_
      exact hv
def VX10_says_0 (g : jg) (a0 : Nat) (x1 : Int32) (h : jh) (k n : Nat) (Q : jq) : Prop := (jt h a0 = 9) ∧ (¬ (jr h 539 a0) = none) ∧ (jt h (jd (jr h 539 a0)) = 22) ∧ (vp_in (x1) (jn h (jd (jr h 539 a0)))) ∧ (¬ (jr h 540 a0) = none) ∧ (jt h (jd (jr h 540 a0)) = 22) ∧ (vp_in (x1) (jn h (jd (jr h 540 a0)))) ∧ ∀ h54 : jh, h54 = jsl h 547 a0 (0) → (¬ (jr h54 515 a0) = none) ∧ (jt h54 (jd (jr h54 515 a0)) = 20) ∧ (vp_in (x1) (jn h54 (jd (jr h54 515 a0)))) ∧ ((¬ (jI h54 (jd (jr h54 515 a0)) (x1 : Int32).toNatClampNeg) = (8) → ((¬ (jI h54 (jd (jr h54 515 a0)) (x1 : Int32).toNatClampNeg) = (7) → (((jI h54 (jd (jr h54 515 a0)) (x1 : Int32).toNatClampNeg) = (3) → VX10_says_130 g (a0) (x1) ((jL h (jd (jr h 539 a0)) (x1 : Int32).toNatClampNeg : Int64).toInt32) ((jL h (jd (jr h 540 a0)) (x1 : Int32).toNatClampNeg : Int64).toInt32) h54 k n Q) ∧ (¬ (jI h54 (jd (jr h54 515 a0)) (x1 : Int32).toNatClampNeg) = (3) → ((¬ (jI h54 (jd (jr h54 515 a0)) (x1 : Int32).toNatClampNeg) = (6) → jG g mX10_says 145 [(0, .inr (.inr (some (a0)))), (1, .inl (x1)), (2, .inl ((jL h (jd (jr h 539 a0)) (x1 : Int32).toNatClampNeg : Int64).toInt32)), (3, .inl ((jL h (jd (jr h 540 a0)) (x1 : Int32).toNatClampNeg : Int64).toInt32)), (4, .inl (0)), (5, .inl (0)), (6, .inl (0))] [] h54 k n Q) ∧ ((jI h54 (jd (jr h54 515 a0)) (x1 : Int32).toNatClampNeg) = (6) → VX10_says_130 g (a0) (x1) ((jL h (jd (jr h 539 a0)) (x1 : Int32).toNatClampNeg : Int64).toInt32) ((jL h (jd (jr h 540 a0)) (x1 : Int32).toNatClampNeg : Int64).toInt32) h54 k n Q))))) ∧ ((jI h54 (jd (jr h54 515 a0)) (x1 : Int32).toNatClampNeg) = (7) → jM g mX10_saysPacked [.inr (.inr (some a0)), .inl (x1), .inl ((jL h (jd (jr h 539 a0)) (x1 : Int32).toNatClampNeg : Int64).toInt32), .inl ((jL h (jd (jr h 540 a0)) (x1 : Int32).toNatClampNeg : Int64).toInt32)] h54 0 0 (jki (fun (r63 : Int32) (h64 : jh) => ((r63) = 0 ∨ (r63) = 1) ∧ Q (.inl (some (.inl (r63)))) h64) (fun e h9 => Q (.inr e) h9))))) ∧ ((jI h54 (jd (jr h54 515 a0)) (x1 : Int32).toNatClampNeg) = (8) → jG g mX10_says 35 [(0, .inr (.inr (some (a0)))), (2, .inl ((jL h (jd (jr h 539 a0)) (x1 : Int32).toNatClampNeg : Int64).toInt32)), (3, .inl ((jL h (jd (jr h 540 a0)) (x1 : Int32).toNatClampNeg : Int64).toInt32)), (4, .inl (0))] [] h54 k n Q))
set_option maxRecDepth 20000 in
theorem vX10_says_0 {g : jg} {a0 : Nat} {x1 : Int32} {h : jh} {k n : Nat} {Q : jq} (hv : VX10_says_0 g a0 x1 h k n Q) : jG g mX10_says 0 [(0, .inr (.inr (some (a0)))), (1, .inl (x1))] [] h k n Q := by
  unfold VX10_says_0 at hv
  refine jg_aload_n dX10_says_0 rfl (List.Mem.head _) ?_
  obtain ⟨f47, hv⟩ := hv
  refine jg_getr dX10_says_1 fl_RX10_76 rfl jsn f47 ?_
  refine jg_iload_n dX10_says_4 rfl (List.Mem.tail _ (List.Mem.head _)) ?_
  obtain ⟨f48, hv⟩ := hv
  obtain ⟨f49, hv⟩ := hv
  obtain ⟨f50, hv⟩ := hv
  refine jg_lald dX10_says_5 f48 f49 f50 ?_
  refine jg_l2i dX10_says_6 ?_
  refine jg_istore_n (lv' := [(2, .inl ((jL h (jd (jr h 539 a0)) (x1 : Int32).toNatClampNeg : Int64).toInt32)), (0, .inr (.inr (some (a0)))), (1, .inl (x1))]) dX10_says_7 rfl (by decide) rfl ?_
  refine jg_aload_n dX10_says_8 rfl (List.Mem.tail _ (List.Mem.head _)) ?_
  refine jg_getr dX10_says_9 fl_RX10_80 rfl jsn f47 ?_
  refine jg_iload_n dX10_says_12 rfl (List.Mem.tail _ (List.Mem.tail _ (List.Mem.head _))) ?_
  obtain ⟨f51, hv⟩ := hv
  obtain ⟨f52, hv⟩ := hv
  obtain ⟨f53, hv⟩ := hv
  refine jg_lald dX10_says_13 f51 f52 f53 ?_
  refine jg_l2i dX10_says_14 ?_
  refine jg_istore_n (lv' := [(3, .inl ((jL h (jd (jr h 540 a0)) (x1 : Int32).toNatClampNeg : Int64).toInt32)), (2, .inl ((jL h (jd (jr h 539 a0)) (x1 : Int32).toNatClampNeg : Int64).toInt32)), (0, .inr (.inr (some (a0)))), (1, .inl (x1))]) dX10_says_15 rfl (by decide) rfl ?_
  refine jg_aload_n dX10_says_16 rfl (List.Mem.tail _ (List.Mem.tail _ (List.Mem.head _))) ?_
  refine jg_lconst (v := 0) dX10_says_17 (by decide) ?_
  obtain ⟨h54, e55⟩ : ∃ z : jh, z = jsl h 547 a0 (0) := ⟨_, rfl⟩
  replace hv := hv h54 e55
  refine jp_putl dX10_says_18 (jfp.nf fl_RX10_229 (fun q hq => by cases hq; rfl)) rfl jsn f47 e55 ?_
  refine jg_aload_n dX10_says_21 rfl (List.Mem.tail _ (List.Mem.tail _ (List.Mem.head _))) ?_
  refine jg_getr dX10_says_22 fl_RX10_13 rfl jsn ((congrArg (fun z => jt z a0) e55).trans f47) ?_
  refine jg_iload_n dX10_says_25 rfl (List.Mem.tail _ (List.Mem.tail _ (List.Mem.tail _ (List.Mem.head _)))) ?_
  obtain ⟨f56, hv⟩ := hv
  obtain ⟨f57, hv⟩ := hv
  obtain ⟨f58, hv⟩ := hv
  refine jg_iald dX10_says_26 f56 f57 f58 ?_
  refine jg_bipush (v := 8) dX10_says_27 (by decide) ?_
  refine jg_icmp_ne (tgt := 90) dX10_says_29 (by decide) (fun c59 => ?_) (fun c59 => ?_)
  · replace hv := hv.1 c59
    refine jg_aload_n dX10_says_90 rfl (List.Mem.tail _ (List.Mem.tail _ (List.Mem.head _))) ?_
    refine jg_getr dX10_says_91 fl_RX10_13 rfl jsn ((congrArg (fun z => jt z a0) e55).trans f47) ?_
    refine jg_iload_n dX10_says_94 rfl (List.Mem.tail _ (List.Mem.tail _ (List.Mem.tail _ (List.Mem.head _)))) ?_
    refine jg_iald dX10_says_95 f56 f57 f58 ?_
    refine jg_bipush (v := 7) dX10_says_96 (by decide) ?_
    refine jg_icmp_ne (tgt := 109) dX10_says_98 (by decide) (fun c60 => ?_) (fun c60 => ?_)
    · replace hv := hv.1 c60
      refine jg_aload_n dX10_says_109 rfl (List.Mem.tail _ (List.Mem.tail _ (List.Mem.head _))) ?_
      refine jg_getr dX10_says_110 fl_RX10_13 rfl jsn ((congrArg (fun z => jt z a0) e55).trans f47) ?_
      refine jg_iload_n dX10_says_113 rfl (List.Mem.tail _ (List.Mem.tail _ (List.Mem.tail _ (List.Mem.head _)))) ?_
      refine jg_iald dX10_says_114 f56 f57 f58 ?_
      refine jg_iconst (v := 3) dX10_says_115 (by decide) ?_
      refine jg_icmp_eq (tgt := 130) dX10_says_116 (by decide) (fun c61 => ?_) (fun c61 => ?_)
      · replace hv := hv.1 c61
        refine jG.sub (lv' := [(0, .inr (.inr (some (a0)))), (1, .inl (x1)), (2, .inl ((jL h (jd (jr h 539 a0)) (x1 : Int32).toNatClampNeg : Int64).toInt32)), (3, .inl ((jL h (jd (jr h 540 a0)) (x1 : Int32).toNatClampNeg : Int64).toInt32))]) (by simp) ?_
        exact vX10_says_130 hv
      · replace hv := hv.2 c61
        refine jg_aload_n dX10_says_119 rfl (List.Mem.tail _ (List.Mem.tail _ (List.Mem.head _))) ?_
        refine jg_getr dX10_says_120 fl_RX10_13 rfl jsn ((congrArg (fun z => jt z a0) e55).trans f47) ?_
        refine jg_iload_n dX10_says_123 rfl (List.Mem.tail _ (List.Mem.tail _ (List.Mem.tail _ (List.Mem.head _)))) ?_
        refine jg_iald dX10_says_124 f56 f57 f58 ?_
        refine jg_bipush (v := 6) dX10_says_125 (by decide) ?_
        refine jg_icmp_ne (tgt := 136) dX10_says_127 (by decide) (fun c62 => ?_) (fun c62 => ?_)
        · replace hv := hv.1 c62
          refine jg_iconst (v := 0) dX10_says_136 (by decide) ?_
          refine jg_istore (lv' := [(4, .inl (0)), (3, .inl ((jL h (jd (jr h 540 a0)) (x1 : Int32).toNatClampNeg : Int64).toInt32)), (2, .inl ((jL h (jd (jr h 539 a0)) (x1 : Int32).toNatClampNeg : Int64).toInt32)), (0, .inr (.inr (some (a0)))), (1, .inl (x1))]) dX10_says_137 (by decide) rfl ?_
          refine jg_iconst (v := 0) dX10_says_139 (by decide) ?_
          refine jg_istore (lv' := [(5, .inl (0)), (4, .inl (0)), (3, .inl ((jL h (jd (jr h 540 a0)) (x1 : Int32).toNatClampNeg : Int64).toInt32)), (2, .inl ((jL h (jd (jr h 539 a0)) (x1 : Int32).toNatClampNeg : Int64).toInt32)), (0, .inr (.inr (some (a0)))), (1, .inl (x1))]) dX10_says_140 (by decide) rfl ?_
          refine jg_iconst (v := 0) dX10_says_142 (by decide) ?_
          refine jg_istore (lv' := [(6, .inl (0)), (5, .inl (0)), (4, .inl (0)), (3, .inl ((jL h (jd (jr h 540 a0)) (x1 : Int32).toNatClampNeg : Int64).toInt32)), (2, .inl ((jL h (jd (jr h 539 a0)) (x1 : Int32).toNatClampNeg : Int64).toInt32)), (0, .inr (.inr (some (a0)))), (1, .inl (x1))]) dX10_says_143 (by decide) rfl ?_
          refine jG.sub (lv' := [(0, .inr (.inr (some (a0)))), (1, .inl (x1)), (2, .inl ((jL h (jd (jr h 539 a0)) (x1 : Int32).toNatClampNeg : Int64).toInt32)), (3, .inl ((jL h (jd (jr h 540 a0)) (x1 : Int32).toNatClampNeg : Int64).toInt32)), (4, .inl (0)), (5, .inl (0)), (6, .inl (0))]) (by simp) ?_
          exact hv
        · replace hv := hv.2 c62
          refine jG.sub (lv' := [(0, .inr (.inr (some (a0)))), (1, .inl (x1)), (2, .inl ((jL h (jd (jr h 539 a0)) (x1 : Int32).toNatClampNeg : Int64).toInt32)), (3, .inl ((jL h (jd (jr h 540 a0)) (x1 : Int32).toNatClampNeg : Int64).toInt32))]) (by simp) ?_
          exact vX10_says_130 hv
    · replace hv := hv.2 c60
      refine jg_aload_n dX10_says_101 rfl (List.Mem.tail _ (List.Mem.tail _ (List.Mem.head _))) ?_
      refine jg_iload_n dX10_says_102 rfl (List.Mem.tail _ (List.Mem.tail _ (List.Mem.tail _ (List.Mem.head _)))) ?_
      refine jg_iload_n dX10_says_103 rfl (List.Mem.tail _ (List.Mem.head _)) ?_
      refine jg_iload_n dX10_says_104 rfl (List.Mem.head _) ?_
      refine jp_callV mX10_saysPacked [.inl (x1), .inl ((jL h (jd (jr h 539 a0)) (x1 : Int32).toNatClampNeg : Int64).toInt32), .inl ((jL h (jd (jr h 540 a0)) (x1 : Int32).toNatClampNeg : Int64).toInt32)] [] dX10_says_105 rfl cl_RX10_233 ⟨⟨by decide, by decide⟩, by decide⟩ jsn ((congrArg (fun z => jt z a0) e55).trans f47) (Nat.zero_le _) (Nat.zero_le _) (jM.mono (jki_k (fun r63 h64 hv => ?_)) hv)
      obtain ⟨f65, hv⟩ := hv
      exact jg_bret dX10_says_108 rfl f65 hv
  · replace hv := hv.2 c59
    refine jg_iconst (v := 0) dX10_says_32 (by decide) ?_
    refine jg_istore (lv' := [(4, .inl (0)), (3, .inl ((jL h (jd (jr h 540 a0)) (x1 : Int32).toNatClampNeg : Int64).toInt32)), (2, .inl ((jL h (jd (jr h 539 a0)) (x1 : Int32).toNatClampNeg : Int64).toInt32)), (0, .inr (.inr (some (a0)))), (1, .inl (x1))]) dX10_says_33 (by decide) rfl ?_
    refine jG.sub (lv' := [(0, .inr (.inr (some (a0)))), (2, .inl ((jL h (jd (jr h 539 a0)) (x1 : Int32).toNatClampNeg : Int64).toInt32)), (3, .inl ((jL h (jd (jr h 540 a0)) (x1 : Int32).toNatClampNeg : Int64).toInt32)), (4, .inl (0))]) (by simp) ?_
    exact hv
theorem eX10_says {g : jg} {a0 : Nat} {x1 : Int32} {h : jh} {mc ms : Nat} {Q : jq} (hv : VX10_says_0 g a0 x1 h mc ms Q) : jM g mX10_says [.inr (.inr (some (a0))), .inl (x1)] h mc ms Q := jM.of (by decide) (Nat.le_of_ble_eq_true rfl) (lv := [(0, .inr (.inr (some (a0)))), (1, .inl (x1))]) rfl (vX10_says_0 hv)
theorem dX10_saysPacked_0 : decode cX10_saysPacked 0 = .ok (.iconst 2, 1) := by decide +kernel
theorem dX10_saysPacked_1 : decode cX10_saysPacked 1 = .ok (.iload_n 3, 1) := by decide +kernel
theorem dX10_saysPacked_2 : decode cX10_saysPacked 2 = .ok (.imul, 1) := by decide +kernel
theorem dX10_saysPacked_3 : decode cX10_saysPacked 3 = .ok (.iconst 1, 1) := by decide +kernel
theorem dX10_saysPacked_4 : decode cX10_saysPacked 4 = .ok (.isub, 1) := by decide +kernel
theorem dX10_saysPacked_5 : decode cX10_saysPacked 5 = .ok (.aload_n 0, 1) := by decide +kernel
theorem dX10_saysPacked_6 : decode cX10_saysPacked 6 = .ok (.getfield 16, 3) := by decide +kernel
theorem dX10_saysPacked_9 : decode cX10_saysPacked 9 = .ok (.iload_n 1, 1) := by decide +kernel
theorem dX10_saysPacked_10 : decode cX10_saysPacked 10 = .ok (.iaload, 1) := by decide +kernel
theorem dX10_saysPacked_11 : decode cX10_saysPacked 11 = .ok (.isub, 1) := by decide +kernel
theorem dX10_saysPacked_12 : decode cX10_saysPacked 12 = .ok (.istore 4, 2) := by decide +kernel
theorem dX10_saysPacked_14 : decode cX10_saysPacked 14 = .ok (.iload 4, 2) := by decide +kernel
theorem dX10_saysPacked_16 : decode cX10_saysPacked 16 = .ok (.istore 5, 2) := by decide +kernel
theorem dX10_saysPacked_18 : decode cX10_saysPacked 18 = .ok (.iload 5, 2) := by decide +kernel
theorem dX10_saysPacked_20 : decode cX10_saysPacked 20 = .ok (.iconst 2, 1) := by decide +kernel
theorem dX10_saysPacked_21 : decode cX10_saysPacked 21 = .ok (.iload_n 3, 1) := by decide +kernel
theorem dX10_saysPacked_22 : decode cX10_saysPacked 22 = .ok (.imul, 1) := by decide +kernel
theorem dX10_saysPacked_23 : decode cX10_saysPacked 23 = .ok (.if_icmp .ge 122, 3) := by decide +kernel
theorem dX10_saysPacked_26 : decode cX10_saysPacked 26 = .ok (.aload_n 0, 1) := by decide +kernel
theorem dX10_saysPacked_27 : decode cX10_saysPacked 27 = .ok (.getfield 72, 3) := by decide +kernel
theorem dX10_saysPacked_30 : decode cX10_saysPacked 30 = .ok (.iload_n 2, 1) := by decide +kernel
theorem dX10_saysPacked_31 : decode cX10_saysPacked 31 = .ok (.iload 5, 2) := by decide +kernel
theorem dX10_saysPacked_33 : decode cX10_saysPacked 33 = .ok (.iconst 2, 1) := by decide +kernel
theorem dX10_saysPacked_34 : decode cX10_saysPacked 34 = .ok (.idiv, 1) := by decide +kernel
theorem dX10_saysPacked_35 : decode cX10_saysPacked 35 = .ok (.iadd, 1) := by decide +kernel
theorem dX10_saysPacked_36 : decode cX10_saysPacked 36 = .ok (.baload, 1) := by decide +kernel
theorem dX10_saysPacked_37 : decode cX10_saysPacked 37 = .ok (.iload 5, 2) := by decide +kernel
theorem dX10_saysPacked_39 : decode cX10_saysPacked 39 = .ok (.iconst 2, 1) := by decide +kernel
theorem dX10_saysPacked_40 : decode cX10_saysPacked 40 = .ok (.irem, 1) := by decide +kernel
theorem dX10_saysPacked_41 : decode cX10_saysPacked 41 = .ok (.ifCond .ne 7, 3) := by decide +kernel
theorem dX10_saysPacked_44 : decode cX10_saysPacked 44 = .ok (.iconst 4, 1) := by decide +kernel
theorem dX10_saysPacked_45 : decode cX10_saysPacked 45 = .ok (.goto 4, 3) := by decide +kernel
theorem dX10_saysPacked_48 : decode cX10_saysPacked 48 = .ok (.iconst 0, 1) := by decide +kernel
theorem dX10_saysPacked_49 : decode cX10_saysPacked 49 = .ok (.ishr, 1) := by decide +kernel
theorem dX10_saysPacked_50 : decode cX10_saysPacked 50 = .ok (.bipush 15, 2) := by decide +kernel
theorem dX10_saysPacked_52 : decode cX10_saysPacked 52 = .ok (.iand, 1) := by decide +kernel
theorem dX10_saysPacked_53 : decode cX10_saysPacked 53 = .ok (.istore 6, 2) := by decide +kernel
theorem dX10_saysPacked_55 : decode cX10_saysPacked 55 = .ok (.iload 5, 2) := by decide +kernel
theorem dX10_saysPacked_57 : decode cX10_saysPacked 57 = .ok (.iconst 2, 1) := by decide +kernel
theorem dX10_saysPacked_58 : decode cX10_saysPacked 58 = .ok (.iload_n 3, 1) := by decide +kernel
theorem dX10_saysPacked_59 : decode cX10_saysPacked 59 = .ok (.imul, 1) := by decide +kernel
theorem dX10_saysPacked_60 : decode cX10_saysPacked 60 = .ok (.iconst 1, 1) := by decide +kernel
theorem dX10_saysPacked_61 : decode cX10_saysPacked 61 = .ok (.isub, 1) := by decide +kernel
theorem dX10_saysPacked_62 : decode cX10_saysPacked 62 = .ok (.if_icmp .ge 31, 3) := by decide +kernel
theorem dX10_saysPacked_65 : decode cX10_saysPacked 65 = .ok (.iload 6, 2) := by decide +kernel
theorem dX10_saysPacked_67 : decode cX10_saysPacked 67 = .ok (.bipush 9, 2) := by decide +kernel
theorem dX10_saysPacked_69 : decode cX10_saysPacked 69 = .ok (.if_icmp .le 5, 3) := by decide +kernel
theorem dX10_saysPacked_72 : decode cX10_saysPacked 72 = .ok (.iconst 0, 1) := by decide +kernel
theorem dX10_saysPacked_73 : decode cX10_saysPacked 73 = .ok (.ireturn, 1) := by decide +kernel
theorem dX10_saysPacked_74 : decode cX10_saysPacked 74 = .ok (.aload_n 0, 1) := by decide +kernel
theorem dX10_saysPacked_75 : decode cX10_saysPacked 75 = .ok (.ldc2_w 134, 3) := by decide +kernel
theorem dX10_saysPacked_78 : decode cX10_saysPacked 78 = .ok (.aload_n 0, 1) := by decide +kernel
theorem dX10_saysPacked_79 : decode cX10_saysPacked 79 = .ok (.getfield 229, 3) := by decide +kernel
theorem dX10_saysPacked_82 : decode cX10_saysPacked 82 = .ok (.lmul, 1) := by decide +kernel
theorem dX10_saysPacked_83 : decode cX10_saysPacked 83 = .ok (.iload 6, 2) := by decide +kernel
theorem dX10_saysPacked_85 : decode cX10_saysPacked 85 = .ok (.i2l, 1) := by decide +kernel
theorem dX10_saysPacked_86 : decode cX10_saysPacked 86 = .ok (.ladd, 1) := by decide +kernel
theorem dX10_saysPacked_87 : decode cX10_saysPacked 87 = .ok (.putfield 229, 3) := by decide +kernel
theorem dX10_saysPacked_90 : decode cX10_saysPacked 90 = .ok (.goto 49, 3) := by decide +kernel
theorem dX10_saysPacked_93 : decode cX10_saysPacked 93 = .ok (.iload 6, 2) := by decide +kernel
theorem dX10_saysPacked_95 : decode cX10_saysPacked 95 = .ok (.bipush 12, 2) := by decide +kernel
theorem dX10_saysPacked_97 : decode cX10_saysPacked 97 = .ok (.if_icmp .eq 19, 3) := by decide +kernel
theorem dX10_saysPacked_100 : decode cX10_saysPacked 100 = .ok (.iload 6, 2) := by decide +kernel
theorem dX10_saysPacked_102 : decode cX10_saysPacked 102 = .ok (.bipush 13, 2) := by decide +kernel
theorem dX10_saysPacked_104 : decode cX10_saysPacked 104 = .ok (.if_icmp .eq 12, 3) := by decide +kernel
theorem dX10_saysPacked_107 : decode cX10_saysPacked 107 = .ok (.iload 6, 2) := by decide +kernel
theorem dX10_saysPacked_109 : decode cX10_saysPacked 109 = .ok (.bipush 15, 2) := by decide +kernel
theorem dX10_saysPacked_111 : decode cX10_saysPacked 111 = .ok (.if_icmp .eq 5, 3) := by decide +kernel
theorem dX10_saysPacked_114 : decode cX10_saysPacked 114 = .ok (.iconst 0, 1) := by decide +kernel
theorem dX10_saysPacked_115 : decode cX10_saysPacked 115 = .ok (.ireturn, 1) := by decide +kernel
theorem dX10_saysPacked_116 : decode cX10_saysPacked 116 = .ok (.aload_n 0, 1) := by decide +kernel
theorem dX10_saysPacked_117 : decode cX10_saysPacked 117 = .ok (.iload 6, 2) := by decide +kernel
theorem dX10_saysPacked_119 : decode cX10_saysPacked 119 = .ok (.bipush 13, 2) := by decide +kernel
theorem dX10_saysPacked_121 : decode cX10_saysPacked 121 = .ok (.if_icmp .ne 11, 3) := by decide +kernel
theorem dX10_saysPacked_124 : decode cX10_saysPacked 124 = .ok (.aload_n 0, 1) := by decide +kernel
theorem dX10_saysPacked_125 : decode cX10_saysPacked 125 = .ok (.getfield 229, 3) := by decide +kernel
theorem dX10_saysPacked_128 : decode cX10_saysPacked 128 = .ok (.lneg, 1) := by decide +kernel
theorem dX10_saysPacked_129 : decode cX10_saysPacked 129 = .ok (.goto 7, 3) := by decide +kernel
theorem dX10_saysPacked_132 : decode cX10_saysPacked 132 = .ok (.aload_n 0, 1) := by decide +kernel
theorem dX10_saysPacked_133 : decode cX10_saysPacked 133 = .ok (.getfield 229, 3) := by decide +kernel
theorem dX10_saysPacked_136 : decode cX10_saysPacked 136 = .ok (.putfield 229, 3) := by decide +kernel
theorem dX10_saysPacked_139 : decode cX10_saysPacked 139 = .ok (.iinc 5 1, 3) := by decide +kernel
theorem dX10_saysPacked_142 : decode cX10_saysPacked 142 = .ok (.goto (-124), 3) := by decide +kernel
theorem dX10_saysPacked_145 : decode cX10_saysPacked 145 = .ok (.iconst 1, 1) := by decide +kernel
theorem dX10_saysPacked_146 : decode cX10_saysPacked 146 = .ok (.ireturn, 1) := by decide +kernel
def VX10_saysPacked_116 (g : jg) (a0 : Nat) (x2 : Int32) (x3 : Int32) (x5 : Int32) (x6 : Int32) (h : jh) (k n : Nat) (Q : jq) : Prop := ((¬ (x6) = (13) → (jt h a0 = 9) ∧ ∀ h3 : jh, h3 = jsl h 547 a0 (jl h 547 a0) → jG g mX10_saysPacked 18 [(0, .inr (.inr (some (a0)))), (2, .inl (x2)), (3, .inl (x3)), (5, .inl ((x5) + 1))] [] h3 k n Q) ∧ ((x6) = (13) → (jt h a0 = 9) ∧ ∀ h6 : jh, h6 = jsl h 547 a0 (-(jl h 547 a0)) → jG g mX10_saysPacked 18 [(0, .inr (.inr (some (a0)))), (2, .inl (x2)), (3, .inl (x3)), (5, .inl ((x5) + 1))] [] h6 k n Q))
set_option maxRecDepth 20000 in
theorem vX10_saysPacked_116 {g : jg} {a0 : Nat} {x2 : Int32} {x3 : Int32} {x5 : Int32} {x6 : Int32} {h : jh} {k n : Nat} {Q : jq} (hv : VX10_saysPacked_116 g a0 x2 x3 x5 x6 h k n Q) : jG g mX10_saysPacked 116 [(0, .inr (.inr (some (a0)))), (2, .inl (x2)), (3, .inl (x3)), (5, .inl (x5)), (6, .inl (x6))] [] h k n Q := by
  unfold VX10_saysPacked_116 at hv
  refine jg_aload_n dX10_saysPacked_116 rfl (List.Mem.head _) ?_
  refine jg_iload dX10_saysPacked_117 (List.Mem.tail _ (List.Mem.tail _ (List.Mem.tail _ (List.Mem.tail _ (List.Mem.head _))))) ?_
  refine jg_bipush (v := 13) dX10_saysPacked_119 (by decide) ?_
  refine jg_icmp_ne (tgt := 132) dX10_saysPacked_121 (by decide) (fun c1 => ?_) (fun c1 => ?_)
  · replace hv := hv.1 c1
    refine jg_aload_n dX10_saysPacked_132 rfl (List.Mem.head _) ?_
    obtain ⟨f2, hv⟩ := hv
    refine jg_getl dX10_saysPacked_133 fl_RX10_229 rfl jsn f2 ?_
    obtain ⟨h3, e4⟩ : ∃ z : jh, z = jsl h 547 a0 (jl h 547 a0) := ⟨_, rfl⟩
    replace hv := hv h3 e4
    refine jp_putl dX10_saysPacked_136 (jfp.nf fl_RX10_229 (fun q hq => by cases hq; rfl)) rfl jsn f2 e4 ?_
    refine jg_iinc (v := (x5) + 1) (lv' := [(5, .inl ((x5) + 1)), (0, .inr (.inr (some (a0)))), (2, .inl (x2)), (3, .inl (x3)), (6, .inl (x6))]) dX10_saysPacked_139 (List.Mem.tail _ (List.Mem.tail _ (List.Mem.tail _ (List.Mem.head _)))) rfl (by decide) rfl ?_
    refine jg_goto (tgt := 18) dX10_saysPacked_142 (by decide) ?_
    refine jG.sub (lv' := [(0, .inr (.inr (some (a0)))), (2, .inl (x2)), (3, .inl (x3)), (5, .inl ((x5) + 1))]) (by simp) ?_
    exact hv
  · replace hv := hv.2 c1
    refine jg_aload_n dX10_saysPacked_124 rfl (List.Mem.head _) ?_
    obtain ⟨f5, hv⟩ := hv
    refine jg_getl dX10_saysPacked_125 fl_RX10_229 rfl jsn f5 ?_
    refine jg_lneg dX10_saysPacked_128 ?_
    refine jg_goto (tgt := 136) dX10_saysPacked_129 (by decide) ?_
    obtain ⟨h6, e7⟩ : ∃ z : jh, z = jsl h 547 a0 (-(jl h 547 a0)) := ⟨_, rfl⟩
    replace hv := hv h6 e7
    refine jp_putl dX10_saysPacked_136 (jfp.nf fl_RX10_229 (fun q hq => by cases hq; rfl)) rfl jsn f5 e7 ?_
    refine jg_iinc (v := (x5) + 1) (lv' := [(5, .inl ((x5) + 1)), (0, .inr (.inr (some (a0)))), (2, .inl (x2)), (3, .inl (x3)), (6, .inl (x6))]) dX10_saysPacked_139 (List.Mem.tail _ (List.Mem.tail _ (List.Mem.tail _ (List.Mem.head _)))) rfl (by decide) rfl ?_
    refine jg_goto (tgt := 18) dX10_saysPacked_142 (by decide) ?_
    refine jG.sub (lv' := [(0, .inr (.inr (some (a0)))), (2, .inl (x2)), (3, .inl (x3)), (5, .inl ((x5) + 1))]) (by simp) ?_
    exact hv
def VX10_saysPacked_49 (g : jg) (a0 : Nat) (x2 : Int32) (x3 : Int32) (x5 : Int32) (s0 : Int32) (s1 : Int32) (h : jh) (k n : Nat) (Q : jq) : Prop := (((((2) * (x3)) - (1)) ≤ (x5) → (((((s0) >>> ((s1 : Int32) &&& 31)) &&& (15)) = (12) → VX10_saysPacked_116 g (a0) (x2) (x3) (x5) (((s0) >>> ((s1 : Int32) &&& 31)) &&& (15)) h k n Q) ∧ (¬ (((s0) >>> ((s1 : Int32) &&& 31)) &&& (15)) = (12) → (((((s0) >>> ((s1 : Int32) &&& 31)) &&& (15)) = (13) → VX10_saysPacked_116 g (a0) (x2) (x3) (x5) (((s0) >>> ((s1 : Int32) &&& 31)) &&& (15)) h k n Q) ∧ (¬ (((s0) >>> ((s1 : Int32) &&& 31)) &&& (15)) = (13) → (((((s0) >>> ((s1 : Int32) &&& 31)) &&& (15)) = (15) → VX10_saysPacked_116 g (a0) (x2) (x3) (x5) (((s0) >>> ((s1 : Int32) &&& 31)) &&& (15)) h k n Q) ∧ (¬ (((s0) >>> ((s1 : Int32) &&& 31)) &&& (15)) = (15) → Q (.inl (some (.inl (0)))) h))))))) ∧ (¬ (((2) * (x3)) - (1)) ≤ (x5) → (((((s0) >>> ((s1 : Int32) &&& 31)) &&& (15)) ≤ (9) → (jt h a0 = 9) ∧ ∀ h14 : jh, h14 = jsl h 547 a0 (((10) * (jl h 547 a0)) + ((((s0) >>> ((s1 : Int32) &&& 31)) &&& (15) : Int32).toInt64)) → jG g mX10_saysPacked 18 [(0, .inr (.inr (some (a0)))), (2, .inl (x2)), (3, .inl (x3)), (5, .inl ((x5) + 1))] [] h14 k n Q) ∧ (¬ (((s0) >>> ((s1 : Int32) &&& 31)) &&& (15)) ≤ (9) → Q (.inl (some (.inl (0)))) h))))
set_option maxRecDepth 20000 in
theorem vX10_saysPacked_49 {g : jg} {a0 : Nat} {x2 : Int32} {x3 : Int32} {x5 : Int32} {s0 : Int32} {s1 : Int32} {h : jh} {k n : Nat} {Q : jq} (hv : VX10_saysPacked_49 g a0 x2 x3 x5 s0 s1 h k n Q) : jG g mX10_saysPacked 49 [(0, .inr (.inr (some (a0)))), (2, .inl (x2)), (3, .inl (x3)), (5, .inl (x5))] [.inl (s1), .inl (s0)] h k n Q := by
  unfold VX10_saysPacked_49 at hv
  refine jg_ishr dX10_saysPacked_49 ?_
  refine jg_bipush (v := 15) dX10_saysPacked_50 (by decide) ?_
  refine jg_iand dX10_saysPacked_52 ?_
  refine jg_istore (lv' := [(6, .inl (((s0) >>> ((s1 : Int32) &&& 31)) &&& (15))), (0, .inr (.inr (some (a0)))), (2, .inl (x2)), (3, .inl (x3)), (5, .inl (x5))]) dX10_saysPacked_53 (by decide) rfl ?_
  refine jg_iload dX10_saysPacked_55 (List.Mem.tail _ (List.Mem.tail _ (List.Mem.tail _ (List.Mem.tail _ (List.Mem.head _))))) ?_
  refine jg_iconst (v := 2) dX10_saysPacked_57 (by decide) ?_
  refine jg_iload_n dX10_saysPacked_58 rfl (List.Mem.tail _ (List.Mem.tail _ (List.Mem.tail _ (List.Mem.head _)))) ?_
  refine jg_imul dX10_saysPacked_59 ?_
  refine jg_iconst (v := 1) dX10_saysPacked_60 (by decide) ?_
  refine jg_isub dX10_saysPacked_61 ?_
  refine jg_icmp_ge (tgt := 93) dX10_saysPacked_62 (by decide) (fun c8 => ?_) (fun c8 => ?_)
  · replace hv := hv.1 c8
    refine jg_iload dX10_saysPacked_93 (List.Mem.head _) ?_
    refine jg_bipush (v := 12) dX10_saysPacked_95 (by decide) ?_
    refine jg_icmp_eq (tgt := 116) dX10_saysPacked_97 (by decide) (fun c9 => ?_) (fun c9 => ?_)
    · replace hv := hv.1 c9
      refine jG.sub (lv' := [(0, .inr (.inr (some (a0)))), (2, .inl (x2)), (3, .inl (x3)), (5, .inl (x5)), (6, .inl (((s0) >>> ((s1 : Int32) &&& 31)) &&& (15)))]) (by simp) ?_
      exact vX10_saysPacked_116 hv
    · replace hv := hv.2 c9
      refine jg_iload dX10_saysPacked_100 (List.Mem.head _) ?_
      refine jg_bipush (v := 13) dX10_saysPacked_102 (by decide) ?_
      refine jg_icmp_eq (tgt := 116) dX10_saysPacked_104 (by decide) (fun c10 => ?_) (fun c10 => ?_)
      · replace hv := hv.1 c10
        refine jG.sub (lv' := [(0, .inr (.inr (some (a0)))), (2, .inl (x2)), (3, .inl (x3)), (5, .inl (x5)), (6, .inl (((s0) >>> ((s1 : Int32) &&& 31)) &&& (15)))]) (by simp) ?_
        exact vX10_saysPacked_116 hv
      · replace hv := hv.2 c10
        refine jg_iload dX10_saysPacked_107 (List.Mem.head _) ?_
        refine jg_bipush (v := 15) dX10_saysPacked_109 (by decide) ?_
        refine jg_icmp_eq (tgt := 116) dX10_saysPacked_111 (by decide) (fun c11 => ?_) (fun c11 => ?_)
        · replace hv := hv.1 c11
          refine jG.sub (lv' := [(0, .inr (.inr (some (a0)))), (2, .inl (x2)), (3, .inl (x3)), (5, .inl (x5)), (6, .inl (((s0) >>> ((s1 : Int32) &&& 31)) &&& (15)))]) (by simp) ?_
          exact vX10_saysPacked_116 hv
        · replace hv := hv.2 c11
          refine jg_iconst (v := 0) dX10_saysPacked_114 (by decide) ?_
          exact jg_bret dX10_saysPacked_115 rfl (by decide) hv
  · replace hv := hv.2 c8
    refine jg_iload dX10_saysPacked_65 (List.Mem.head _) ?_
    refine jg_bipush (v := 9) dX10_saysPacked_67 (by decide) ?_
    refine jg_icmp_le (tgt := 74) dX10_saysPacked_69 (by decide) (fun c12 => ?_) (fun c12 => ?_)
    · replace hv := hv.1 c12
      refine jg_aload_n dX10_saysPacked_74 rfl (List.Mem.tail _ (List.Mem.head _)) ?_
      refine jg_ldc2 (v := 10) dX10_saysPacked_75 kl_RX10_134 ?_
      refine jg_aload_n dX10_saysPacked_78 rfl (List.Mem.tail _ (List.Mem.head _)) ?_
      obtain ⟨f13, hv⟩ := hv
      refine jg_getl dX10_saysPacked_79 fl_RX10_229 rfl jsn f13 ?_
      refine jg_lmul dX10_saysPacked_82 ?_
      refine jg_iload dX10_saysPacked_83 (List.Mem.head _) ?_
      refine jg_i2l dX10_saysPacked_85 ?_
      refine jg_ladd dX10_saysPacked_86 ?_
      obtain ⟨h14, e15⟩ : ∃ z : jh, z = jsl h 547 a0 (((10) * (jl h 547 a0)) + ((((s0) >>> ((s1 : Int32) &&& 31)) &&& (15) : Int32).toInt64)) := ⟨_, rfl⟩
      replace hv := hv h14 e15
      refine jp_putl dX10_saysPacked_87 (jfp.nf fl_RX10_229 (fun q hq => by cases hq; rfl)) rfl jsn f13 e15 ?_
      refine jg_goto (tgt := 139) dX10_saysPacked_90 (by decide) ?_
      refine jg_iinc (v := (x5) + 1) (lv' := [(5, .inl ((x5) + 1)), (6, .inl (((s0) >>> ((s1 : Int32) &&& 31)) &&& (15))), (0, .inr (.inr (some (a0)))), (2, .inl (x2)), (3, .inl (x3))]) dX10_saysPacked_139 (List.Mem.tail _ (List.Mem.tail _ (List.Mem.tail _ (List.Mem.tail _ (List.Mem.head _))))) rfl (by decide) rfl ?_
      refine jg_goto (tgt := 18) dX10_saysPacked_142 (by decide) ?_
      refine jG.sub (lv' := [(0, .inr (.inr (some (a0)))), (2, .inl (x2)), (3, .inl (x3)), (5, .inl ((x5) + 1))]) (by simp) ?_
      exact hv
    · replace hv := hv.2 c12
      refine jg_iconst (v := 0) dX10_saysPacked_72 (by decide) ?_
      exact jg_bret dX10_saysPacked_73 rfl (by decide) hv
def VX10_saysPacked_18 (g : jg) (a0 : Nat) (x2 : Int32) (x3 : Int32) (x5 : Int32) (h : jh) (k n : Nat) (Q : jq) : Prop := ((((2) * (x3)) ≤ (x5) → Q (.inl (some (.inl (1)))) h) ∧ (¬ ((2) * (x3)) ≤ (x5) → (jt h a0 = 9) ∧ (¬ (jr h 538 a0) = none) ∧ (jt h (jd (jr h 538 a0)) = 21) ∧ (vp_in ((x2) + ((x5) / (2))) (jn h (jd (jr h 538 a0)))) ∧ ((¬ ((x5) - (x5) / (2) * (2)) = 0 → VX10_saysPacked_49 g (a0) (x2) (x3) (x5) (jI h (jd (jr h 538 a0)) ((x2) + ((x5) / (2)) : Int32).toNatClampNeg) (0) h k n Q) ∧ (((x5) - (x5) / (2) * (2)) = 0 → VX10_saysPacked_49 g (a0) (x2) (x3) (x5) (jI h (jd (jr h 538 a0)) ((x2) + ((x5) / (2)) : Int32).toNatClampNeg) (4) h k n Q))))
set_option maxRecDepth 20000 in
theorem vX10_saysPacked_18 {g : jg} {a0 : Nat} {x2 : Int32} {x3 : Int32} {x5 : Int32} {h : jh} {k n : Nat} {Q : jq} (hv : VX10_saysPacked_18 g a0 x2 x3 x5 h k n Q) : jG g mX10_saysPacked 18 [(0, .inr (.inr (some (a0)))), (2, .inl (x2)), (3, .inl (x3)), (5, .inl (x5))] [] h k n Q := by
  unfold VX10_saysPacked_18 at hv
  refine jg_iload dX10_saysPacked_18 (List.Mem.tail _ (List.Mem.tail _ (List.Mem.tail _ (List.Mem.head _)))) ?_
  refine jg_iconst (v := 2) dX10_saysPacked_20 (by decide) ?_
  refine jg_iload_n dX10_saysPacked_21 rfl (List.Mem.tail _ (List.Mem.tail _ (List.Mem.head _))) ?_
  refine jg_imul dX10_saysPacked_22 ?_
  refine jg_icmp_ge (tgt := 145) dX10_saysPacked_23 (by decide) (fun c16 => ?_) (fun c16 => ?_)
  · replace hv := hv.1 c16
    refine jg_iconst (v := 1) dX10_saysPacked_145 (by decide) ?_
    exact jg_bret dX10_saysPacked_146 rfl (by decide) hv
  · replace hv := hv.2 c16
    refine jg_aload_n dX10_saysPacked_26 rfl (List.Mem.head _) ?_
    obtain ⟨f17, hv⟩ := hv
    refine jg_getr dX10_saysPacked_27 fl_RX10_72 rfl jsn f17 ?_
    refine jg_iload_n dX10_saysPacked_30 rfl (List.Mem.tail _ (List.Mem.head _)) ?_
    refine jg_iload dX10_saysPacked_31 (List.Mem.tail _ (List.Mem.tail _ (List.Mem.tail _ (List.Mem.head _)))) ?_
    refine jg_iconst (v := 2) dX10_saysPacked_33 (by decide) ?_
    refine jg_idiv dX10_saysPacked_34 (by decide) ?_
    refine jg_iadd dX10_saysPacked_35 ?_
    obtain ⟨f18, hv⟩ := hv
    obtain ⟨f19, hv⟩ := hv
    obtain ⟨f20, hv⟩ := hv
    refine jg_bald dX10_saysPacked_36 f18 f19 f20 ?_
    refine jg_iload dX10_saysPacked_37 (List.Mem.tail _ (List.Mem.tail _ (List.Mem.tail _ (List.Mem.head _)))) ?_
    refine jg_iconst (v := 2) dX10_saysPacked_39 (by decide) ?_
    refine jg_irem dX10_saysPacked_40 (by decide) ?_
    refine jg_if_ne (tgt := 48) dX10_saysPacked_41 (by decide) (fun c21 => ?_) (fun c21 => ?_)
    · replace hv := hv.1 c21
      refine jg_iconst (v := 0) dX10_saysPacked_48 (by decide) ?_
      exact vX10_saysPacked_49 hv
    · replace hv := hv.2 c21
      refine jg_iconst (v := 4) dX10_saysPacked_44 (by decide) ?_
      refine jg_goto (tgt := 49) dX10_saysPacked_45 (by decide) ?_
      exact vX10_saysPacked_49 hv
def VX10_saysPacked_0 (g : jg) (a0 : Nat) (x1 : Int32) (x2 : Int32) (x3 : Int32) (h : jh) (k n : Nat) (Q : jq) : Prop := (jt h a0 = 9) ∧ (¬ (jr h 516 a0) = none) ∧ (jt h (jd (jr h 516 a0)) = 20) ∧ (vp_in (x1) (jn h (jd (jr h 516 a0)))) ∧ jG g mX10_saysPacked 18 [(0, .inr (.inr (some (a0)))), (2, .inl (x2)), (3, .inl (x3)), (5, .inl ((((2) * (x3)) - (1)) - (jI h (jd (jr h 516 a0)) (x1 : Int32).toNatClampNeg)))] [] h k n Q
set_option maxRecDepth 20000 in
theorem vX10_saysPacked_0 {g : jg} {a0 : Nat} {x1 : Int32} {x2 : Int32} {x3 : Int32} {h : jh} {k n : Nat} {Q : jq} (hv : VX10_saysPacked_0 g a0 x1 x2 x3 h k n Q) : jG g mX10_saysPacked 0 [(0, .inr (.inr (some (a0)))), (1, .inl (x1)), (2, .inl (x2)), (3, .inl (x3))] [] h k n Q := by
  unfold VX10_saysPacked_0 at hv
  refine jg_iconst (v := 2) dX10_saysPacked_0 (by decide) ?_
  refine jg_iload_n dX10_saysPacked_1 rfl (List.Mem.tail _ (List.Mem.tail _ (List.Mem.tail _ (List.Mem.head _)))) ?_
  refine jg_imul dX10_saysPacked_2 ?_
  refine jg_iconst (v := 1) dX10_saysPacked_3 (by decide) ?_
  refine jg_isub dX10_saysPacked_4 ?_
  refine jg_aload_n dX10_saysPacked_5 rfl (List.Mem.head _) ?_
  obtain ⟨f22, hv⟩ := hv
  refine jg_getr dX10_saysPacked_6 fl_RX10_16 rfl jsn f22 ?_
  refine jg_iload_n dX10_saysPacked_9 rfl (List.Mem.tail _ (List.Mem.head _)) ?_
  obtain ⟨f23, hv⟩ := hv
  obtain ⟨f24, hv⟩ := hv
  obtain ⟨f25, hv⟩ := hv
  refine jg_iald dX10_saysPacked_10 f23 f24 f25 ?_
  refine jg_isub dX10_saysPacked_11 ?_
  refine jg_istore (lv' := [(4, .inl ((((2) * (x3)) - (1)) - (jI h (jd (jr h 516 a0)) (x1 : Int32).toNatClampNeg))), (0, .inr (.inr (some (a0)))), (1, .inl (x1)), (2, .inl (x2)), (3, .inl (x3))]) dX10_saysPacked_12 (by decide) rfl ?_
  refine jg_iload dX10_saysPacked_14 (List.Mem.head _) ?_
  refine jg_istore (lv' := [(5, .inl ((((2) * (x3)) - (1)) - (jI h (jd (jr h 516 a0)) (x1 : Int32).toNatClampNeg))), (4, .inl ((((2) * (x3)) - (1)) - (jI h (jd (jr h 516 a0)) (x1 : Int32).toNatClampNeg))), (0, .inr (.inr (some (a0)))), (1, .inl (x1)), (2, .inl (x2)), (3, .inl (x3))]) dX10_saysPacked_16 (by decide) rfl ?_
  refine jG.sub (lv' := [(0, .inr (.inr (some (a0)))), (2, .inl (x2)), (3, .inl (x3)), (5, .inl ((((2) * (x3)) - (1)) - (jI h (jd (jr h 516 a0)) (x1 : Int32).toNatClampNeg)))]) (by simp) ?_
  exact hv
theorem eX10_saysPacked {g : jg} {a0 : Nat} {x1 : Int32} {x2 : Int32} {x3 : Int32} {h : jh} {mc ms : Nat} {Q : jq} (hv : VX10_saysPacked_0 g a0 x1 x2 x3 h mc ms Q) : jM g mX10_saysPacked [.inr (.inr (some (a0))), .inl (x1), .inl (x2), .inl (x3)] h mc ms Q := jM.of (by decide) (Nat.le_of_ble_eq_true rfl) (lv := [(0, .inr (.inr (some (a0)))), (1, .inl (x1)), (2, .inl (x2)), (3, .inl (x3))]) rfl (vX10_saysPacked_0 hv)
theorem dX10_holds_0 : decode cX10_holds 0 = .ok (.aload_n 0, 1) := by decide +kernel
theorem dX10_holds_1 : decode cX10_holds 1 = .ok (.aload_n 0, 1) := by decide +kernel
theorem dX10_holds_2 : decode cX10_holds 2 = .ok (.iload_n 1, 1) := by decide +kernel
theorem dX10_holds_3 : decode cX10_holds 3 = .ok (.invokevirtual 136, 3) := by decide +kernel
theorem dX10_holds_6 : decode cX10_holds 6 = .ok (.ifCond .eq 14, 3) := by decide +kernel
theorem dX10_holds_9 : decode cX10_holds 9 = .ok (.aload_n 0, 1) := by decide +kernel
theorem dX10_holds_10 : decode cX10_holds 10 = .ok (.getfield 7, 3) := by decide +kernel
theorem dX10_holds_13 : decode cX10_holds 13 = .ok (.iload_n 1, 1) := by decide +kernel
theorem dX10_holds_14 : decode cX10_holds 14 = .ok (.iaload, 1) := by decide +kernel
theorem dX10_holds_15 : decode cX10_holds 15 = .ok (.bipush 88, 2) := by decide +kernel
theorem dX10_holds_17 : decode cX10_holds 17 = .ok (.if_icmp .eq 7, 3) := by decide +kernel
theorem dX10_holds_20 : decode cX10_holds 20 = .ok (.iconst 1, 1) := by decide +kernel
theorem dX10_holds_21 : decode cX10_holds 21 = .ok (.goto 28, 3) := by decide +kernel
theorem dX10_holds_24 : decode cX10_holds 24 = .ok (.aload_n 0, 1) := by decide +kernel
theorem dX10_holds_25 : decode cX10_holds 25 = .ok (.getfield 121, 3) := by decide +kernel
theorem dX10_holds_28 : decode cX10_holds 28 = .ok (.ifCond .eq 16, 3) := by decide +kernel
theorem dX10_holds_31 : decode cX10_holds 31 = .ok (.aload_n 0, 1) := by decide +kernel
theorem dX10_holds_32 : decode cX10_holds 32 = .ok (.aload_n 0, 1) := by decide +kernel
theorem dX10_holds_33 : decode cX10_holds 33 = .ok (.getfield 19, 3) := by decide +kernel
theorem dX10_holds_36 : decode cX10_holds 36 = .ok (.iload_n 1, 1) := by decide +kernel
theorem dX10_holds_37 : decode cX10_holds 37 = .ok (.iaload, 1) := by decide +kernel
theorem dX10_holds_38 : decode cX10_holds 38 = .ok (.invokevirtual 239, 3) := by decide +kernel
theorem dX10_holds_41 : decode cX10_holds 41 = .ok (.ifCond .ne 7, 3) := by decide +kernel
theorem dX10_holds_44 : decode cX10_holds 44 = .ok (.iconst 2, 1) := by decide +kernel
theorem dX10_holds_45 : decode cX10_holds 45 = .ok (.goto 4, 3) := by decide +kernel
theorem dX10_holds_48 : decode cX10_holds 48 = .ok (.iconst 0, 1) := by decide +kernel
theorem dX10_holds_49 : decode cX10_holds 49 = .ok (.putfield 98, 3) := by decide +kernel
theorem dX10_holds_52 : decode cX10_holds 52 = .ok (.iconst 0, 1) := by decide +kernel
theorem dX10_holds_53 : decode cX10_holds 53 = .ok (.istore_n 2, 1) := by decide +kernel
theorem dX10_holds_54 : decode cX10_holds 54 = .ok (.iconst 0, 1) := by decide +kernel
theorem dX10_holds_55 : decode cX10_holds 55 = .ok (.istore_n 3, 1) := by decide +kernel
theorem dX10_holds_56 : decode cX10_holds 56 = .ok (.iload_n 3, 1) := by decide +kernel
theorem dX10_holds_57 : decode cX10_holds 57 = .ok (.bipush 8, 2) := by decide +kernel
theorem dX10_holds_59 : decode cX10_holds 59 = .ok (.if_icmp .ge 82, 3) := by decide +kernel
theorem dX10_holds_62 : decode cX10_holds 62 = .ok (.aload_n 0, 1) := by decide +kernel
theorem dX10_holds_63 : decode cX10_holds 63 = .ok (.getfield 98, 3) := by decide +kernel
theorem dX10_holds_66 : decode cX10_holds 66 = .ok (.ifCond .ne 75, 3) := by decide +kernel
theorem dX10_holds_69 : decode cX10_holds 69 = .ok (.iload_n 2, 1) := by decide +kernel
theorem dX10_holds_70 : decode cX10_holds 70 = .ok (.ifCond .ne 59, 3) := by decide +kernel
theorem dX10_holds_73 : decode cX10_holds 73 = .ok (.iload_n 3, 1) := by decide +kernel
theorem dX10_holds_74 : decode cX10_holds 74 = .ok (.aload_n 0, 1) := by decide +kernel
theorem dX10_holds_75 : decode cX10_holds 75 = .ok (.getfield 47, 3) := by decide +kernel
theorem dX10_holds_78 : decode cX10_holds 78 = .ok (.iload_n 1, 1) := by decide +kernel
theorem dX10_holds_79 : decode cX10_holds 79 = .ok (.iaload, 1) := by decide +kernel
theorem dX10_holds_80 : decode cX10_holds 80 = .ok (.if_icmp .ge 53, 3) := by decide +kernel
theorem dX10_holds_83 : decode cX10_holds 83 = .ok (.aload_n 0, 1) := by decide +kernel
theorem dX10_holds_84 : decode cX10_holds 84 = .ok (.getfield 229, 3) := by decide +kernel
theorem dX10_holds_87 : decode cX10_holds 87 = .ok (.aload_n 0, 1) := by decide +kernel
theorem dX10_holds_88 : decode cX10_holds 88 = .ok (.getfield 62, 3) := by decide +kernel
theorem dX10_holds_91 : decode cX10_holds 91 = .ok (.bipush 8, 2) := by decide +kernel
theorem dX10_holds_93 : decode cX10_holds 93 = .ok (.iload_n 1, 1) := by decide +kernel
theorem dX10_holds_94 : decode cX10_holds 94 = .ok (.imul, 1) := by decide +kernel
theorem dX10_holds_95 : decode cX10_holds 95 = .ok (.bipush 8, 2) := by decide +kernel
theorem dX10_holds_97 : decode cX10_holds 97 = .ok (.isub, 1) := by decide +kernel
theorem dX10_holds_98 : decode cX10_holds 98 = .ok (.iload_n 3, 1) := by decide +kernel
theorem dX10_holds_99 : decode cX10_holds 99 = .ok (.iadd, 1) := by decide +kernel
theorem dX10_holds_100 : decode cX10_holds 100 = .ok (.iaload, 1) := by decide +kernel
theorem dX10_holds_101 : decode cX10_holds 101 = .ok (.i2l, 1) := by decide +kernel
theorem dX10_holds_102 : decode cX10_holds 102 = .ok (.lcmp, 1) := by decide +kernel
theorem dX10_holds_103 : decode cX10_holds 103 = .ok (.ifCond .lt 30, 3) := by decide +kernel
theorem dX10_holds_106 : decode cX10_holds 106 = .ok (.aload_n 0, 1) := by decide +kernel
theorem dX10_holds_107 : decode cX10_holds 107 = .ok (.getfield 229, 3) := by decide +kernel
theorem dX10_holds_110 : decode cX10_holds 110 = .ok (.aload_n 0, 1) := by decide +kernel
theorem dX10_holds_111 : decode cX10_holds 111 = .ok (.getfield 65, 3) := by decide +kernel
theorem dX10_holds_114 : decode cX10_holds 114 = .ok (.bipush 8, 2) := by decide +kernel
theorem dX10_holds_116 : decode cX10_holds 116 = .ok (.iload_n 1, 1) := by decide +kernel
theorem dX10_holds_117 : decode cX10_holds 117 = .ok (.imul, 1) := by decide +kernel
theorem dX10_holds_118 : decode cX10_holds 118 = .ok (.bipush 8, 2) := by decide +kernel
theorem dX10_holds_120 : decode cX10_holds 120 = .ok (.isub, 1) := by decide +kernel
theorem dX10_holds_121 : decode cX10_holds 121 = .ok (.iload_n 3, 1) := by decide +kernel
theorem dX10_holds_122 : decode cX10_holds 122 = .ok (.iadd, 1) := by decide +kernel
theorem dX10_holds_123 : decode cX10_holds 123 = .ok (.iaload, 1) := by decide +kernel
theorem dX10_holds_124 : decode cX10_holds 124 = .ok (.i2l, 1) := by decide +kernel
theorem dX10_holds_125 : decode cX10_holds 125 = .ok (.lcmp, 1) := by decide +kernel
theorem dX10_holds_126 : decode cX10_holds 126 = .ok (.ifCond .gt 7, 3) := by decide +kernel
theorem dX10_holds_129 : decode cX10_holds 129 = .ok (.iconst 1, 1) := by decide +kernel
theorem dX10_holds_130 : decode cX10_holds 130 = .ok (.goto 4, 3) := by decide +kernel
theorem dX10_holds_133 : decode cX10_holds 133 = .ok (.iconst 0, 1) := by decide +kernel
theorem dX10_holds_134 : decode cX10_holds 134 = .ok (.istore_n 2, 1) := by decide +kernel
theorem dX10_holds_135 : decode cX10_holds 135 = .ok (.iinc 3 1, 3) := by decide +kernel
theorem dX10_holds_138 : decode cX10_holds 138 = .ok (.goto (-82), 3) := by decide +kernel
theorem dX10_holds_141 : decode cX10_holds 141 = .ok (.iload_n 2, 1) := by decide +kernel
theorem dX10_holds_142 : decode cX10_holds 142 = .ok (.ireturn, 1) := by decide +kernel
def VX10_holds_56 (g : jg) (a0 : Nat) (x1 : Int32) (x2 : Int32) (x3 : Int32) (h : jh) (k n : Nat) (Q : jq) : Prop := (((8 : Int32) ≤ (x3) → ((x2) = 0 ∨ (x2) = 1) ∧ Q (.inl (some (.inl (x2)))) h) ∧ (¬ (8 : Int32) ≤ (x3) → (jt h a0 = 9) ∧ ((¬ (ji h 512 a0) = 0 → ((x2) = 0 ∨ (x2) = 1) ∧ Q (.inl (some (.inl (x2)))) h) ∧ ((ji h 512 a0) = 0 → ((¬ (x2) = 0 → jG g mX10_holds 56 [(0, .inr (.inr (some (a0)))), (1, .inl (x1)), (2, .inl (1)), (3, .inl ((x3) + 1))] [] h k n Q) ∧ ((x2) = 0 → (¬ (jr h 526 a0) = none) ∧ (jt h (jd (jr h 526 a0)) = 20) ∧ (vp_in (x1) (jn h (jd (jr h 526 a0)))) ∧ (((jI h (jd (jr h 526 a0)) (x1 : Int32).toNatClampNeg) ≤ (x3) → jG g mX10_holds 56 [(0, .inr (.inr (some (a0)))), (1, .inl (x1)), (2, .inl (0)), (3, .inl ((x3) + 1))] [] h k n Q) ∧ (¬ (jI h (jd (jr h 526 a0)) (x1 : Int32).toNatClampNeg) ≤ (x3) → (¬ (jr h 531 a0) = none) ∧ (jt h (jd (jr h 531 a0)) = 20) ∧ (vp_in ((((8) * (x1)) - (8)) + (x3)) (jn h (jd (jr h 531 a0)))) ∧ (((jl h 547 a0) < ((jI h (jd (jr h 531 a0)) ((((8) * (x1)) - (8)) + (x3) : Int32).toNatClampNeg : Int32).toInt64) → jG g mX10_holds 56 [(0, .inr (.inr (some (a0)))), (1, .inl (x1)), (2, .inl (0)), (3, .inl ((x3) + 1))] [] h k n Q) ∧ (¬ (jl h 547 a0) < ((jI h (jd (jr h 531 a0)) ((((8) * (x1)) - (8)) + (x3) : Int32).toNatClampNeg : Int32).toInt64) → (¬ (jr h 532 a0) = none) ∧ (jt h (jd (jr h 532 a0)) = 20) ∧ (vp_in ((((8) * (x1)) - (8)) + (x3)) (jn h (jd (jr h 532 a0)))) ∧ ((((jI h (jd (jr h 532 a0)) ((((8) * (x1)) - (8)) + (x3) : Int32).toNatClampNeg : Int32).toInt64) < (jl h 547 a0) → jG g mX10_holds 56 [(0, .inr (.inr (some (a0)))), (1, .inl (x1)), (2, .inl (0)), (3, .inl ((x3) + 1))] [] h k n Q) ∧ (¬ ((jI h (jd (jr h 532 a0)) ((((8) * (x1)) - (8)) + (x3) : Int32).toNatClampNeg : Int32).toInt64) < (jl h 547 a0) → jG g mX10_holds 56 [(0, .inr (.inr (some (a0)))), (1, .inl (x1)), (2, .inl (1)), (3, .inl ((x3) + 1))] [] h k n Q))))))))))))
set_option maxRecDepth 20000 in
theorem vX10_holds_56 {g : jg} {a0 : Nat} {x1 : Int32} {x2 : Int32} {x3 : Int32} {h : jh} {k n : Nat} {Q : jq} (hv : VX10_holds_56 g a0 x1 x2 x3 h k n Q) : jG g mX10_holds 56 [(0, .inr (.inr (some (a0)))), (1, .inl (x1)), (2, .inl (x2)), (3, .inl (x3))] [] h k n Q := by
  unfold VX10_holds_56 at hv
  refine jg_iload_n dX10_holds_56 rfl (List.Mem.tail _ (List.Mem.tail _ (List.Mem.tail _ (List.Mem.head _)))) ?_
  refine jg_bipush (v := 8) dX10_holds_57 (by decide) ?_
  refine jg_icmp_ge (tgt := 141) dX10_holds_59 (by decide) (fun c1 => ?_) (fun c1 => ?_)
  · replace hv := hv.1 c1
    refine jg_iload_n dX10_holds_141 rfl (List.Mem.tail _ (List.Mem.tail _ (List.Mem.head _))) ?_
    obtain ⟨f2, hv⟩ := hv
    exact jg_bret dX10_holds_142 rfl f2 hv
  · replace hv := hv.2 c1
    refine jg_aload_n dX10_holds_62 rfl (List.Mem.head _) ?_
    obtain ⟨f3, hv⟩ := hv
    refine jg_geti dX10_holds_63 fl_RX10_98 rfl jsn f3 ?_
    refine jg_if_ne (tgt := 141) dX10_holds_66 (by decide) (fun c4 => ?_) (fun c4 => ?_)
    · replace hv := hv.1 c4
      refine jg_iload_n dX10_holds_141 rfl (List.Mem.tail _ (List.Mem.tail _ (List.Mem.head _))) ?_
      obtain ⟨f5, hv⟩ := hv
      exact jg_bret dX10_holds_142 rfl f5 hv
    · replace hv := hv.2 c4
      refine jg_iload_n dX10_holds_69 rfl (List.Mem.tail _ (List.Mem.tail _ (List.Mem.head _))) ?_
      refine jg_if_ne (tgt := 129) dX10_holds_70 (by decide) (fun c6 => ?_) (fun c6 => ?_)
      · replace hv := hv.1 c6
        refine jg_iconst (v := 1) dX10_holds_129 (by decide) ?_
        refine jg_goto (tgt := 134) dX10_holds_130 (by decide) ?_
        refine jg_istore_n (lv' := [(2, .inl (1)), (0, .inr (.inr (some (a0)))), (1, .inl (x1)), (3, .inl (x3))]) dX10_holds_134 rfl (by decide) rfl ?_
        refine jg_iinc (v := (x3) + 1) (lv' := [(3, .inl ((x3) + 1)), (2, .inl (1)), (0, .inr (.inr (some (a0)))), (1, .inl (x1))]) dX10_holds_135 (List.Mem.tail _ (List.Mem.tail _ (List.Mem.tail _ (List.Mem.head _)))) rfl (by decide) rfl ?_
        refine jg_goto (tgt := 56) dX10_holds_138 (by decide) ?_
        refine jG.sub (lv' := [(0, .inr (.inr (some (a0)))), (1, .inl (x1)), (2, .inl (1)), (3, .inl ((x3) + 1))]) (by simp) ?_
        exact hv
      · replace hv := hv.2 c6
        refine jg_iload_n dX10_holds_73 rfl (List.Mem.tail _ (List.Mem.tail _ (List.Mem.tail _ (List.Mem.head _)))) ?_
        refine jg_aload_n dX10_holds_74 rfl (List.Mem.head _) ?_
        refine jg_getr dX10_holds_75 fl_RX10_47 rfl jsn f3 ?_
        refine jg_iload_n dX10_holds_78 rfl (List.Mem.tail _ (List.Mem.head _)) ?_
        obtain ⟨f7, hv⟩ := hv
        obtain ⟨f8, hv⟩ := hv
        obtain ⟨f9, hv⟩ := hv
        refine jg_iald dX10_holds_79 f7 f8 f9 ?_
        refine jg_icmp_ge (tgt := 133) dX10_holds_80 (by decide) (fun c10 => ?_) (fun c10 => ?_)
        · replace hv := hv.1 c10
          refine jg_iconst (v := 0) dX10_holds_133 (by decide) ?_
          refine jg_istore_n (lv' := [(2, .inl (0)), (0, .inr (.inr (some (a0)))), (1, .inl (x1)), (3, .inl (x3))]) dX10_holds_134 rfl (by decide) rfl ?_
          refine jg_iinc (v := (x3) + 1) (lv' := [(3, .inl ((x3) + 1)), (2, .inl (0)), (0, .inr (.inr (some (a0)))), (1, .inl (x1))]) dX10_holds_135 (List.Mem.tail _ (List.Mem.tail _ (List.Mem.tail _ (List.Mem.head _)))) rfl (by decide) rfl ?_
          refine jg_goto (tgt := 56) dX10_holds_138 (by decide) ?_
          refine jG.sub (lv' := [(0, .inr (.inr (some (a0)))), (1, .inl (x1)), (2, .inl (0)), (3, .inl ((x3) + 1))]) (by simp) ?_
          exact hv
        · replace hv := hv.2 c10
          refine jg_aload_n dX10_holds_83 rfl (List.Mem.head _) ?_
          refine jg_getl dX10_holds_84 fl_RX10_229 rfl jsn f3 ?_
          refine jg_aload_n dX10_holds_87 rfl (List.Mem.head _) ?_
          refine jg_getr dX10_holds_88 fl_RX10_62 rfl jsn f3 ?_
          refine jg_bipush (v := 8) dX10_holds_91 (by decide) ?_
          refine jg_iload_n dX10_holds_93 rfl (List.Mem.tail _ (List.Mem.head _)) ?_
          refine jg_imul dX10_holds_94 ?_
          refine jg_bipush (v := 8) dX10_holds_95 (by decide) ?_
          refine jg_isub dX10_holds_97 ?_
          refine jg_iload_n dX10_holds_98 rfl (List.Mem.tail _ (List.Mem.tail _ (List.Mem.tail _ (List.Mem.head _)))) ?_
          refine jg_iadd dX10_holds_99 ?_
          obtain ⟨f11, hv⟩ := hv
          obtain ⟨f12, hv⟩ := hv
          obtain ⟨f13, hv⟩ := hv
          refine jg_iald dX10_holds_100 f11 f12 f13 ?_
          refine jg_i2l dX10_holds_101 ?_
          refine jg_lcmp_lt (tgt := 133) dX10_holds_102 dX10_holds_103 (by decide) (fun c14 => ?_) (fun c14 => ?_)
          · replace hv := hv.1 c14
            refine jg_iconst (v := 0) dX10_holds_133 (by decide) ?_
            refine jg_istore_n (lv' := [(2, .inl (0)), (0, .inr (.inr (some (a0)))), (1, .inl (x1)), (3, .inl (x3))]) dX10_holds_134 rfl (by decide) rfl ?_
            refine jg_iinc (v := (x3) + 1) (lv' := [(3, .inl ((x3) + 1)), (2, .inl (0)), (0, .inr (.inr (some (a0)))), (1, .inl (x1))]) dX10_holds_135 (List.Mem.tail _ (List.Mem.tail _ (List.Mem.tail _ (List.Mem.head _)))) rfl (by decide) rfl ?_
            refine jg_goto (tgt := 56) dX10_holds_138 (by decide) ?_
            refine jG.sub (lv' := [(0, .inr (.inr (some (a0)))), (1, .inl (x1)), (2, .inl (0)), (3, .inl ((x3) + 1))]) (by simp) ?_
            exact hv
          · replace hv := hv.2 c14
            refine jg_aload_n dX10_holds_106 rfl (List.Mem.head _) ?_
            refine jg_getl dX10_holds_107 fl_RX10_229 rfl jsn f3 ?_
            refine jg_aload_n dX10_holds_110 rfl (List.Mem.head _) ?_
            refine jg_getr dX10_holds_111 fl_RX10_65 rfl jsn f3 ?_
            refine jg_bipush (v := 8) dX10_holds_114 (by decide) ?_
            refine jg_iload_n dX10_holds_116 rfl (List.Mem.tail _ (List.Mem.head _)) ?_
            refine jg_imul dX10_holds_117 ?_
            refine jg_bipush (v := 8) dX10_holds_118 (by decide) ?_
            refine jg_isub dX10_holds_120 ?_
            refine jg_iload_n dX10_holds_121 rfl (List.Mem.tail _ (List.Mem.tail _ (List.Mem.tail _ (List.Mem.head _)))) ?_
            refine jg_iadd dX10_holds_122 ?_
            obtain ⟨f15, hv⟩ := hv
            obtain ⟨f16, hv⟩ := hv
            obtain ⟨f17, hv⟩ := hv
            refine jg_iald dX10_holds_123 f15 f16 f17 ?_
            refine jg_i2l dX10_holds_124 ?_
            refine jg_lcmp_gt (tgt := 133) dX10_holds_125 dX10_holds_126 (by decide) (fun c18 => ?_) (fun c18 => ?_)
            · replace hv := hv.1 c18
              refine jg_iconst (v := 0) dX10_holds_133 (by decide) ?_
              refine jg_istore_n (lv' := [(2, .inl (0)), (0, .inr (.inr (some (a0)))), (1, .inl (x1)), (3, .inl (x3))]) dX10_holds_134 rfl (by decide) rfl ?_
              refine jg_iinc (v := (x3) + 1) (lv' := [(3, .inl ((x3) + 1)), (2, .inl (0)), (0, .inr (.inr (some (a0)))), (1, .inl (x1))]) dX10_holds_135 (List.Mem.tail _ (List.Mem.tail _ (List.Mem.tail _ (List.Mem.head _)))) rfl (by decide) rfl ?_
              refine jg_goto (tgt := 56) dX10_holds_138 (by decide) ?_
              refine jG.sub (lv' := [(0, .inr (.inr (some (a0)))), (1, .inl (x1)), (2, .inl (0)), (3, .inl ((x3) + 1))]) (by simp) ?_
              exact hv
            · replace hv := hv.2 c18
              refine jg_iconst (v := 1) dX10_holds_129 (by decide) ?_
              refine jg_goto (tgt := 134) dX10_holds_130 (by decide) ?_
              refine jg_istore_n (lv' := [(2, .inl (1)), (0, .inr (.inr (some (a0)))), (1, .inl (x1)), (3, .inl (x3))]) dX10_holds_134 rfl (by decide) rfl ?_
              refine jg_iinc (v := (x3) + 1) (lv' := [(3, .inl ((x3) + 1)), (2, .inl (1)), (0, .inr (.inr (some (a0)))), (1, .inl (x1))]) dX10_holds_135 (List.Mem.tail _ (List.Mem.tail _ (List.Mem.tail _ (List.Mem.head _)))) rfl (by decide) rfl ?_
              refine jg_goto (tgt := 56) dX10_holds_138 (by decide) ?_
              refine jG.sub (lv' := [(0, .inr (.inr (some (a0)))), (1, .inl (x1)), (2, .inl (1)), (3, .inl ((x3) + 1))]) (by simp) ?_
              exact hv
def VX10_holds_0 (g : jg) (a0 : Nat) (x1 : Int32) (h : jh) (k n : Nat) (Q : jq) : Prop := (jt h a0 = 9) ∧ jM g mX10_is [.inr (.inr (some a0)), .inl (x1)] h 0 0 (jki (fun (r20 : Int32) (h21 : jh) => (((r20) = 0 → (jt h21 a0 = 9) ∧ ∀ h24 : jh, h24 = jsi h21 512 a0 (1) → jG g mX10_holds 56 [(0, .inr (.inr (some (a0)))), (1, .inl (x1)), (2, .inl (0)), (3, .inl (0))] [] h24 k n Q) ∧ (¬ (r20) = 0 → (jt h21 a0 = 9) ∧ (¬ (jr h21 514 a0) = none) ∧ (jt h21 (jd (jr h21 514 a0)) = 20) ∧ (vp_in (x1) (jn h21 (jd (jr h21 514 a0)))) ∧ (((jI h21 (jd (jr h21 514 a0)) (x1 : Int32).toNatClampNeg) = (88) → (((ji h21 533 a0) = 0 → ∀ h32 : jh, h32 = jsi h21 512 a0 (2) → jG g mX10_holds 56 [(0, .inr (.inr (some (a0)))), (1, .inl (x1)), (2, .inl (0)), (3, .inl (0))] [] h32 k n Q) ∧ (¬ (ji h21 533 a0) = 0 → (¬ (jr h21 517 a0) = none) ∧ (jt h21 (jd (jr h21 517 a0)) = 20) ∧ (vp_in (x1) (jn h21 (jd (jr h21 517 a0)))) ∧ jM g mX10_says [.inr (.inr (some a0)), .inl (jI h21 (jd (jr h21 517 a0)) (x1 : Int32).toNatClampNeg)] h21 0 0 (jki (fun (r37 : Int32) (h38 : jh) => ((¬ (r37) = 0 → (jt h38 a0 = 9) ∧ ∀ h41 : jh, h41 = jsi h38 512 a0 (0) → jG g mX10_holds 56 [(0, .inr (.inr (some (a0)))), (1, .inl (x1)), (2, .inl (0)), (3, .inl (0))] [] h41 k n Q) ∧ ((r37) = 0 → (jt h38 a0 = 9) ∧ ∀ h44 : jh, h44 = jsi h38 512 a0 (2) → jG g mX10_holds 56 [(0, .inr (.inr (some (a0)))), (1, .inl (x1)), (2, .inl (0)), (3, .inl (0))] [] h44 k n Q))) (fun e h9 => Q (.inr e) h9))))) ∧ (¬ (jI h21 (jd (jr h21 514 a0)) (x1 : Int32).toNatClampNeg) = (88) → ∀ h46 : jh, h46 = jsi h21 512 a0 (1) → jG g mX10_holds 56 [(0, .inr (.inr (some (a0)))), (1, .inl (x1)), (2, .inl (0)), (3, .inl (0))] [] h46 k n Q))))) (fun e h9 => Q (.inr e) h9))
set_option maxRecDepth 20000 in
theorem vX10_holds_0 {g : jg} {a0 : Nat} {x1 : Int32} {h : jh} {k n : Nat} {Q : jq} (hv : VX10_holds_0 g a0 x1 h k n Q) : jG g mX10_holds 0 [(0, .inr (.inr (some (a0)))), (1, .inl (x1))] [] h k n Q := by
  unfold VX10_holds_0 at hv
  refine jg_aload_n dX10_holds_0 rfl (List.Mem.head _) ?_
  refine jg_aload_n dX10_holds_1 rfl (List.Mem.head _) ?_
  refine jg_iload_n dX10_holds_2 rfl (List.Mem.tail _ (List.Mem.head _)) ?_
  obtain ⟨f19, hv⟩ := hv
  refine jp_callV mX10_is [.inl (x1)] [.inr (.inr (some (a0)))] dX10_holds_3 rfl cl_RX10_136 ⟨⟨by decide, by decide⟩, jcat_le _ (Nat.le_of_ble_eq_true rfl)⟩ jsn f19 (Nat.zero_le _) (Nat.zero_le _) (jM.mono (jki_k (fun r20 h21 hv => ?_)) hv)
  refine jg_if_eq (tgt := 20) dX10_holds_6 (by decide) (fun c22 => ?_) (fun c22 => ?_)
  · replace hv := hv.1 c22
    refine jg_iconst (v := 1) dX10_holds_20 (by decide) ?_
    refine jg_goto (tgt := 49) dX10_holds_21 (by decide) ?_
    obtain ⟨f23, hv⟩ := hv
    obtain ⟨h24, e25⟩ : ∃ z : jh, z = jsi h21 512 a0 (1) := ⟨_, rfl⟩
    replace hv := hv h24 e25
    refine jp_puti dX10_holds_49 (jfp.nf fl_RX10_98 (fun q hq => by cases hq; rfl)) rfl jsn f23 e25 ?_
    refine jg_iconst (v := 0) dX10_holds_52 (by decide) ?_
    refine jg_istore_n (lv' := [(2, .inl (0)), (0, .inr (.inr (some (a0)))), (1, .inl (x1))]) dX10_holds_53 rfl (by decide) rfl ?_
    refine jg_iconst (v := 0) dX10_holds_54 (by decide) ?_
    refine jg_istore_n (lv' := [(3, .inl (0)), (2, .inl (0)), (0, .inr (.inr (some (a0)))), (1, .inl (x1))]) dX10_holds_55 rfl (by decide) rfl ?_
    refine jG.sub (lv' := [(0, .inr (.inr (some (a0)))), (1, .inl (x1)), (2, .inl (0)), (3, .inl (0))]) (by simp) ?_
    exact hv
  · replace hv := hv.2 c22
    refine jg_aload_n dX10_holds_9 rfl (List.Mem.head _) ?_
    obtain ⟨f26, hv⟩ := hv
    refine jg_getr dX10_holds_10 fl_RX10_7 rfl jsn f26 ?_
    refine jg_iload_n dX10_holds_13 rfl (List.Mem.tail _ (List.Mem.head _)) ?_
    obtain ⟨f27, hv⟩ := hv
    obtain ⟨f28, hv⟩ := hv
    obtain ⟨f29, hv⟩ := hv
    refine jg_iald dX10_holds_14 f27 f28 f29 ?_
    refine jg_bipush (v := 88) dX10_holds_15 (by decide) ?_
    refine jg_icmp_eq (tgt := 24) dX10_holds_17 (by decide) (fun c30 => ?_) (fun c30 => ?_)
    · replace hv := hv.1 c30
      refine jg_aload_n dX10_holds_24 rfl (List.Mem.head _) ?_
      refine jg_geti dX10_holds_25 fl_RX10_121 rfl jsn f26 ?_
      refine jg_if_eq (tgt := 44) dX10_holds_28 (by decide) (fun c31 => ?_) (fun c31 => ?_)
      · replace hv := hv.1 c31
        refine jg_iconst (v := 2) dX10_holds_44 (by decide) ?_
        refine jg_goto (tgt := 49) dX10_holds_45 (by decide) ?_
        obtain ⟨h32, e33⟩ : ∃ z : jh, z = jsi h21 512 a0 (2) := ⟨_, rfl⟩
        replace hv := hv h32 e33
        refine jp_puti dX10_holds_49 (jfp.nf fl_RX10_98 (fun q hq => by cases hq; rfl)) rfl jsn f26 e33 ?_
        refine jg_iconst (v := 0) dX10_holds_52 (by decide) ?_
        refine jg_istore_n (lv' := [(2, .inl (0)), (0, .inr (.inr (some (a0)))), (1, .inl (x1))]) dX10_holds_53 rfl (by decide) rfl ?_
        refine jg_iconst (v := 0) dX10_holds_54 (by decide) ?_
        refine jg_istore_n (lv' := [(3, .inl (0)), (2, .inl (0)), (0, .inr (.inr (some (a0)))), (1, .inl (x1))]) dX10_holds_55 rfl (by decide) rfl ?_
        refine jG.sub (lv' := [(0, .inr (.inr (some (a0)))), (1, .inl (x1)), (2, .inl (0)), (3, .inl (0))]) (by simp) ?_
        exact hv
      · replace hv := hv.2 c31
        refine jg_aload_n dX10_holds_31 rfl (List.Mem.head _) ?_
        refine jg_aload_n dX10_holds_32 rfl (List.Mem.head _) ?_
        refine jg_getr dX10_holds_33 fl_RX10_19 rfl jsn f26 ?_
        refine jg_iload_n dX10_holds_36 rfl (List.Mem.tail _ (List.Mem.head _)) ?_
        obtain ⟨f34, hv⟩ := hv
        obtain ⟨f35, hv⟩ := hv
        obtain ⟨f36, hv⟩ := hv
        refine jg_iald dX10_holds_37 f34 f35 f36 ?_
        refine jp_callV mX10_says [.inl (jI h21 (jd (jr h21 517 a0)) (x1 : Int32).toNatClampNeg)] [.inr (.inr (some (a0)))] dX10_holds_38 rfl cl_RX10_239 ⟨⟨by decide, by decide⟩, jcat_le _ (Nat.le_of_ble_eq_true rfl)⟩ jsn f26 (Nat.zero_le _) (Nat.zero_le _) (jM.mono (jki_k (fun r37 h38 hv => ?_)) hv)
        refine jg_if_ne (tgt := 48) dX10_holds_41 (by decide) (fun c39 => ?_) (fun c39 => ?_)
        · replace hv := hv.1 c39
          refine jg_iconst (v := 0) dX10_holds_48 (by decide) ?_
          obtain ⟨f40, hv⟩ := hv
          obtain ⟨h41, e42⟩ : ∃ z : jh, z = jsi h38 512 a0 (0) := ⟨_, rfl⟩
          replace hv := hv h41 e42
          refine jp_puti dX10_holds_49 (jfp.nf fl_RX10_98 (fun q hq => by cases hq; rfl)) rfl jsn f40 e42 ?_
          refine jg_iconst (v := 0) dX10_holds_52 (by decide) ?_
          refine jg_istore_n (lv' := [(2, .inl (0)), (0, .inr (.inr (some (a0)))), (1, .inl (x1))]) dX10_holds_53 rfl (by decide) rfl ?_
          refine jg_iconst (v := 0) dX10_holds_54 (by decide) ?_
          refine jg_istore_n (lv' := [(3, .inl (0)), (2, .inl (0)), (0, .inr (.inr (some (a0)))), (1, .inl (x1))]) dX10_holds_55 rfl (by decide) rfl ?_
          refine jG.sub (lv' := [(0, .inr (.inr (some (a0)))), (1, .inl (x1)), (2, .inl (0)), (3, .inl (0))]) (by simp) ?_
          exact hv
        · replace hv := hv.2 c39
          refine jg_iconst (v := 2) dX10_holds_44 (by decide) ?_
          refine jg_goto (tgt := 49) dX10_holds_45 (by decide) ?_
          obtain ⟨f43, hv⟩ := hv
          obtain ⟨h44, e45⟩ : ∃ z : jh, z = jsi h38 512 a0 (2) := ⟨_, rfl⟩
          replace hv := hv h44 e45
          refine jp_puti dX10_holds_49 (jfp.nf fl_RX10_98 (fun q hq => by cases hq; rfl)) rfl jsn f43 e45 ?_
          refine jg_iconst (v := 0) dX10_holds_52 (by decide) ?_
          refine jg_istore_n (lv' := [(2, .inl (0)), (0, .inr (.inr (some (a0)))), (1, .inl (x1))]) dX10_holds_53 rfl (by decide) rfl ?_
          refine jg_iconst (v := 0) dX10_holds_54 (by decide) ?_
          refine jg_istore_n (lv' := [(3, .inl (0)), (2, .inl (0)), (0, .inr (.inr (some (a0)))), (1, .inl (x1))]) dX10_holds_55 rfl (by decide) rfl ?_
          refine jG.sub (lv' := [(0, .inr (.inr (some (a0)))), (1, .inl (x1)), (2, .inl (0)), (3, .inl (0))]) (by simp) ?_
          exact hv
    · replace hv := hv.2 c30
      refine jg_iconst (v := 1) dX10_holds_20 (by decide) ?_
      refine jg_goto (tgt := 49) dX10_holds_21 (by decide) ?_
      obtain ⟨h46, e47⟩ : ∃ z : jh, z = jsi h21 512 a0 (1) := ⟨_, rfl⟩
      replace hv := hv h46 e47
      refine jp_puti dX10_holds_49 (jfp.nf fl_RX10_98 (fun q hq => by cases hq; rfl)) rfl jsn f26 e47 ?_
      refine jg_iconst (v := 0) dX10_holds_52 (by decide) ?_
      refine jg_istore_n (lv' := [(2, .inl (0)), (0, .inr (.inr (some (a0)))), (1, .inl (x1))]) dX10_holds_53 rfl (by decide) rfl ?_
      refine jg_iconst (v := 0) dX10_holds_54 (by decide) ?_
      refine jg_istore_n (lv' := [(3, .inl (0)), (2, .inl (0)), (0, .inr (.inr (some (a0)))), (1, .inl (x1))]) dX10_holds_55 rfl (by decide) rfl ?_
      refine jG.sub (lv' := [(0, .inr (.inr (some (a0)))), (1, .inl (x1)), (2, .inl (0)), (3, .inl (0))]) (by simp) ?_
      exact hv
theorem eX10_holds {g : jg} {a0 : Nat} {x1 : Int32} {h : jh} {mc ms : Nat} {Q : jq} (hv : VX10_holds_0 g a0 x1 h mc ms Q) : jM g mX10_holds [.inr (.inr (some (a0))), .inl (x1)] h mc ms Q := jM.of (by decide) (Nat.le_of_ble_eq_true rfl) (lv := [(0, .inr (.inr (some (a0)))), (1, .inl (x1))]) rfl (vX10_holds_0 hv)
theorem dX10_count_0 : decode cX10_count 0 = .ok (.aload_n 0, 1) := by decide +kernel
theorem dX10_count_1 : decode cX10_count 1 = .ok (.iconst 0, 1) := by decide +kernel
theorem dX10_count_2 : decode cX10_count 2 = .ok (.putfield 98, 3) := by decide +kernel
theorem dX10_count_5 : decode cX10_count 5 = .ok (.iconst 0, 1) := by decide +kernel
theorem dX10_count_6 : decode cX10_count 6 = .ok (.istore_n 2, 1) := by decide +kernel
theorem dX10_count_7 : decode cX10_count 7 = .ok (.iconst 0, 1) := by decide +kernel
theorem dX10_count_8 : decode cX10_count 8 = .ok (.istore_n 3, 1) := by decide +kernel
theorem dX10_count_9 : decode cX10_count 9 = .ok (.iconst 1, 1) := by decide +kernel
theorem dX10_count_10 : decode cX10_count 10 = .ok (.istore 4, 2) := by decide +kernel
theorem dX10_count_12 : decode cX10_count 12 = .ok (.iload 4, 2) := by decide +kernel
theorem dX10_count_14 : decode cX10_count 14 = .ok (.aload_n 0, 1) := by decide +kernel
theorem dX10_count_15 : decode cX10_count 15 = .ok (.getfield 102, 3) := by decide +kernel
theorem dX10_count_18 : decode cX10_count 18 = .ok (.if_icmp .gt 58, 3) := by decide +kernel
theorem dX10_count_21 : decode cX10_count 21 = .ok (.iload_n 2, 1) := by decide +kernel
theorem dX10_count_22 : decode cX10_count 22 = .ok (.aload_n 0, 1) := by decide +kernel
theorem dX10_count_23 : decode cX10_count 23 = .ok (.getfield 7, 3) := by decide +kernel
theorem dX10_count_26 : decode cX10_count 26 = .ok (.iload 4, 2) := by decide +kernel
theorem dX10_count_28 : decode cX10_count 28 = .ok (.iaload, 1) := by decide +kernel
theorem dX10_count_29 : decode cX10_count 29 = .ok (.iconst 1, 1) := by decide +kernel
theorem dX10_count_30 : decode cX10_count 30 = .ok (.if_icmp .eq 15, 3) := by decide +kernel
theorem dX10_count_33 : decode cX10_count 33 = .ok (.aload_n 0, 1) := by decide +kernel
theorem dX10_count_34 : decode cX10_count 34 = .ok (.getfield 7, 3) := by decide +kernel
theorem dX10_count_37 : decode cX10_count 37 = .ok (.iload 4, 2) := by decide +kernel
theorem dX10_count_39 : decode cX10_count 39 = .ok (.iaload, 1) := by decide +kernel
theorem dX10_count_40 : decode cX10_count 40 = .ok (.bipush 77, 2) := by decide +kernel
theorem dX10_count_42 : decode cX10_count 42 = .ok (.if_icmp .ne 7, 3) := by decide +kernel
theorem dX10_count_45 : decode cX10_count 45 = .ok (.iconst 1, 1) := by decide +kernel
theorem dX10_count_46 : decode cX10_count 46 = .ok (.goto 4, 3) := by decide +kernel
theorem dX10_count_49 : decode cX10_count 49 = .ok (.iconst 0, 1) := by decide +kernel
theorem dX10_count_50 : decode cX10_count 50 = .ok (.iadd, 1) := by decide +kernel
theorem dX10_count_51 : decode cX10_count 51 = .ok (.istore_n 2, 1) := by decide +kernel
theorem dX10_count_52 : decode cX10_count 52 = .ok (.iload_n 3, 1) := by decide +kernel
theorem dX10_count_53 : decode cX10_count 53 = .ok (.aload_n 0, 1) := by decide +kernel
theorem dX10_count_54 : decode cX10_count 54 = .ok (.getfield 25, 3) := by decide +kernel
theorem dX10_count_57 : decode cX10_count 57 = .ok (.iload 4, 2) := by decide +kernel
theorem dX10_count_59 : decode cX10_count 59 = .ok (.iaload, 1) := by decide +kernel
theorem dX10_count_60 : decode cX10_count 60 = .ok (.ifCond .le 7, 3) := by decide +kernel
theorem dX10_count_63 : decode cX10_count 63 = .ok (.iconst 1, 1) := by decide +kernel
theorem dX10_count_64 : decode cX10_count 64 = .ok (.goto 4, 3) := by decide +kernel
theorem dX10_count_67 : decode cX10_count 67 = .ok (.iconst 0, 1) := by decide +kernel
theorem dX10_count_68 : decode cX10_count 68 = .ok (.iadd, 1) := by decide +kernel
theorem dX10_count_69 : decode cX10_count 69 = .ok (.istore_n 3, 1) := by decide +kernel
theorem dX10_count_70 : decode cX10_count 70 = .ok (.iinc 4 1, 3) := by decide +kernel
theorem dX10_count_73 : decode cX10_count 73 = .ok (.goto (-61), 3) := by decide +kernel
theorem dX10_count_76 : decode cX10_count 76 = .ok (.iload_n 1, 1) := by decide +kernel
theorem dX10_count_77 : decode cX10_count 77 = .ok (.tableswitch 76 0 4 #[35, 40, 42, 44, 60], 35) := by decide +kernel
theorem dX10_count_112 : decode cX10_count 112 = .ok (.aload_n 0, 1) := by decide +kernel
theorem dX10_count_113 : decode cX10_count 113 = .ok (.getfield 102, 3) := by decide +kernel
theorem dX10_count_116 : decode cX10_count 116 = .ok (.ireturn, 1) := by decide +kernel
theorem dX10_count_117 : decode cX10_count 117 = .ok (.iload_n 2, 1) := by decide +kernel
theorem dX10_count_118 : decode cX10_count 118 = .ok (.ireturn, 1) := by decide +kernel
theorem dX10_count_119 : decode cX10_count 119 = .ok (.iload_n 3, 1) := by decide +kernel
theorem dX10_count_120 : decode cX10_count 120 = .ok (.ireturn, 1) := by decide +kernel
theorem dX10_count_121 : decode cX10_count 121 = .ok (.aload_n 0, 1) := by decide +kernel
theorem dX10_count_122 : decode cX10_count 122 = .ok (.getfield 121, 3) := by decide +kernel
theorem dX10_count_125 : decode cX10_count 125 = .ok (.ifCond .eq 10, 3) := by decide +kernel
theorem dX10_count_128 : decode cX10_count 128 = .ok (.aload_n 0, 1) := by decide +kernel
theorem dX10_count_129 : decode cX10_count 129 = .ok (.getfield 197, 3) := by decide +kernel
theorem dX10_count_132 : decode cX10_count 132 = .ok (.goto 4, 3) := by decide +kernel
theorem dX10_count_135 : decode cX10_count 135 = .ok (.iconst (-1), 1) := by decide +kernel
theorem dX10_count_136 : decode cX10_count 136 = .ok (.ireturn, 1) := by decide +kernel
theorem dX10_count_137 : decode cX10_count 137 = .ok (.aload_n 0, 1) := by decide +kernel
theorem dX10_count_138 : decode cX10_count 138 = .ok (.getfield 121, 3) := by decide +kernel
theorem dX10_count_141 : decode cX10_count 141 = .ok (.ifCond .eq 10, 3) := by decide +kernel
theorem dX10_count_144 : decode cX10_count 144 = .ok (.aload_n 0, 1) := by decide +kernel
theorem dX10_count_145 : decode cX10_count 145 = .ok (.getfield 194, 3) := by decide +kernel
theorem dX10_count_148 : decode cX10_count 148 = .ok (.goto 4, 3) := by decide +kernel
theorem dX10_count_151 : decode cX10_count 151 = .ok (.iconst (-1), 1) := by decide +kernel
theorem dX10_count_152 : decode cX10_count 152 = .ok (.ireturn, 1) := by decide +kernel
theorem dX10_count_153 : decode cX10_count 153 = .ok (.iconst (-1), 1) := by decide +kernel
theorem dX10_count_154 : decode cX10_count 154 = .ok (.ireturn, 1) := by decide +kernel
def VX10_count_50 (g : jg) (a0 : Nat) (x1 : Int32) (x3 : Int32) (x4 : Int32) (s0 : Int32) (s1 : Int32) (h : jh) (k n : Nat) (Q : jq) : Prop := (jt h a0 = 9) ∧ (¬ (jr h 519 a0) = none) ∧ (jt h (jd (jr h 519 a0)) = 20) ∧ (vp_in (x4) (jn h (jd (jr h 519 a0)))) ∧ (((jI h (jd (jr h 519 a0)) (x4 : Int32).toNatClampNeg) ≤ 0 → jG g mX10_count 12 [(0, .inr (.inr (some (a0)))), (1, .inl (x1)), (2, .inl ((s0) + (s1))), (3, .inl ((x3) + (0))), (4, .inl ((x4) + 1))] [] h k n Q) ∧ (¬ (jI h (jd (jr h 519 a0)) (x4 : Int32).toNatClampNeg) ≤ 0 → jG g mX10_count 12 [(0, .inr (.inr (some (a0)))), (1, .inl (x1)), (2, .inl ((s0) + (s1))), (3, .inl ((x3) + (1))), (4, .inl ((x4) + 1))] [] h k n Q))
set_option maxRecDepth 20000 in
theorem vX10_count_50 {g : jg} {a0 : Nat} {x1 : Int32} {x3 : Int32} {x4 : Int32} {s0 : Int32} {s1 : Int32} {h : jh} {k n : Nat} {Q : jq} (hv : VX10_count_50 g a0 x1 x3 x4 s0 s1 h k n Q) : jG g mX10_count 50 [(0, .inr (.inr (some (a0)))), (1, .inl (x1)), (3, .inl (x3)), (4, .inl (x4))] [.inl (s1), .inl (s0)] h k n Q := by
  unfold VX10_count_50 at hv
  refine jg_iadd dX10_count_50 ?_
  refine jg_istore_n (lv' := [(2, .inl ((s0) + (s1))), (0, .inr (.inr (some (a0)))), (1, .inl (x1)), (3, .inl (x3)), (4, .inl (x4))]) dX10_count_51 rfl (by decide) rfl ?_
  refine jg_iload_n dX10_count_52 rfl (List.Mem.tail _ (List.Mem.tail _ (List.Mem.tail _ (List.Mem.head _)))) ?_
  refine jg_aload_n dX10_count_53 rfl (List.Mem.tail _ (List.Mem.head _)) ?_
  obtain ⟨f1, hv⟩ := hv
  refine jg_getr dX10_count_54 fl_RX10_25 rfl jsn f1 ?_
  refine jg_iload dX10_count_57 (List.Mem.tail _ (List.Mem.tail _ (List.Mem.tail _ (List.Mem.tail _ (List.Mem.head _))))) ?_
  obtain ⟨f2, hv⟩ := hv
  obtain ⟨f3, hv⟩ := hv
  obtain ⟨f4, hv⟩ := hv
  refine jg_iald dX10_count_59 f2 f3 f4 ?_
  refine jg_if_le (tgt := 67) dX10_count_60 (by decide) (fun c5 => ?_) (fun c5 => ?_)
  · replace hv := hv.1 c5
    refine jg_iconst (v := 0) dX10_count_67 (by decide) ?_
    refine jg_iadd dX10_count_68 ?_
    refine jg_istore_n (lv' := [(3, .inl ((x3) + (0))), (2, .inl ((s0) + (s1))), (0, .inr (.inr (some (a0)))), (1, .inl (x1)), (4, .inl (x4))]) dX10_count_69 rfl (by decide) rfl ?_
    refine jg_iinc (v := (x4) + 1) (lv' := [(4, .inl ((x4) + 1)), (3, .inl ((x3) + (0))), (2, .inl ((s0) + (s1))), (0, .inr (.inr (some (a0)))), (1, .inl (x1))]) dX10_count_70 (List.Mem.tail _ (List.Mem.tail _ (List.Mem.tail _ (List.Mem.tail _ (List.Mem.head _))))) rfl (by decide) rfl ?_
    refine jg_goto (tgt := 12) dX10_count_73 (by decide) ?_
    refine jG.sub (lv' := [(0, .inr (.inr (some (a0)))), (1, .inl (x1)), (2, .inl ((s0) + (s1))), (3, .inl ((x3) + (0))), (4, .inl ((x4) + 1))]) (by simp) ?_
    exact hv
  · replace hv := hv.2 c5
    refine jg_iconst (v := 1) dX10_count_63 (by decide) ?_
    refine jg_goto (tgt := 68) dX10_count_64 (by decide) ?_
    refine jg_iadd dX10_count_68 ?_
    refine jg_istore_n (lv' := [(3, .inl ((x3) + (1))), (2, .inl ((s0) + (s1))), (0, .inr (.inr (some (a0)))), (1, .inl (x1)), (4, .inl (x4))]) dX10_count_69 rfl (by decide) rfl ?_
    refine jg_iinc (v := (x4) + 1) (lv' := [(4, .inl ((x4) + 1)), (3, .inl ((x3) + (1))), (2, .inl ((s0) + (s1))), (0, .inr (.inr (some (a0)))), (1, .inl (x1))]) dX10_count_70 (List.Mem.tail _ (List.Mem.tail _ (List.Mem.tail _ (List.Mem.tail _ (List.Mem.head _))))) rfl (by decide) rfl ?_
    refine jg_goto (tgt := 12) dX10_count_73 (by decide) ?_
    refine jG.sub (lv' := [(0, .inr (.inr (some (a0)))), (1, .inl (x1)), (2, .inl ((s0) + (s1))), (3, .inl ((x3) + (1))), (4, .inl ((x4) + 1))]) (by simp) ?_
    exact hv
def VX10_count_12 (g : jg) (a0 : Nat) (x1 : Int32) (x2 : Int32) (x3 : Int32) (x4 : Int32) (h : jh) (k n : Nat) (Q : jq) : Prop := (jt h a0 = 9) ∧ (((ji h 513 a0) < (x4) → (((x1) = 0 → Q (.inl (some (.inl (ji h 513 a0)))) h) ∧ ((x1) = 1 → Q (.inl (some (.inl (x2)))) h) ∧ ((x1) = 2 → Q (.inl (some (.inl (x3)))) h) ∧ ((x1) = 3 → (((ji h 533 a0) = 0 → Q (.inl (some (.inl ((-1))))) h) ∧ (¬ (ji h 533 a0) = 0 → Q (.inl (some (.inl (ji h 537 a0)))) h))) ∧ ((x1) = 4 → (((ji h 533 a0) = 0 → Q (.inl (some (.inl ((-1))))) h) ∧ (¬ (ji h 533 a0) = 0 → Q (.inl (some (.inl (ji h 536 a0)))) h))) ∧ ((x1 : Int32).toInt < 0 ∨ 4 < (x1 : Int32).toInt → Q (.inl (some (.inl ((-1))))) h))) ∧ (¬ (ji h 513 a0) < (x4) → (¬ (jr h 514 a0) = none) ∧ (jt h (jd (jr h 514 a0)) = 20) ∧ (vp_in (x4) (jn h (jd (jr h 514 a0)))) ∧ (((jI h (jd (jr h 514 a0)) (x4 : Int32).toNatClampNeg) = (1) → VX10_count_50 g (a0) (x1) (x3) (x4) (x2) (1) h k n Q) ∧ (¬ (jI h (jd (jr h 514 a0)) (x4 : Int32).toNatClampNeg) = (1) → ((¬ (jI h (jd (jr h 514 a0)) (x4 : Int32).toNatClampNeg) = (77) → VX10_count_50 g (a0) (x1) (x3) (x4) (x2) (0) h k n Q) ∧ ((jI h (jd (jr h 514 a0)) (x4 : Int32).toNatClampNeg) = (77) → VX10_count_50 g (a0) (x1) (x3) (x4) (x2) (1) h k n Q))))))
set_option maxRecDepth 20000 in
theorem vX10_count_12 {g : jg} {a0 : Nat} {x1 : Int32} {x2 : Int32} {x3 : Int32} {x4 : Int32} {h : jh} {k n : Nat} {Q : jq} (hv : VX10_count_12 g a0 x1 x2 x3 x4 h k n Q) : jG g mX10_count 12 [(0, .inr (.inr (some (a0)))), (1, .inl (x1)), (2, .inl (x2)), (3, .inl (x3)), (4, .inl (x4))] [] h k n Q := by
  unfold VX10_count_12 at hv
  refine jg_iload dX10_count_12 (List.Mem.tail _ (List.Mem.tail _ (List.Mem.tail _ (List.Mem.tail _ (List.Mem.head _))))) ?_
  refine jg_aload_n dX10_count_14 rfl (List.Mem.head _) ?_
  obtain ⟨f6, hv⟩ := hv
  refine jg_geti dX10_count_15 fl_RX10_102 rfl jsn f6 ?_
  refine jg_icmp_gt (tgt := 76) dX10_count_18 (by decide) (fun c7 => ?_) (fun c7 => ?_)
  · replace hv := hv.1 c7
    refine jg_iload_n dX10_count_76 rfl (List.Mem.tail _ (List.Mem.head _)) ?_
    by_cases c8 : (x1) = 0
    · replace hv := hv.1 c8
      refine jg_tsIn 0 0 (tgt := 112) dX10_count_77 c8 (by decide) (by decide) rfl (by decide) ?_
      refine jg_aload_n dX10_count_112 rfl (List.Mem.head _) ?_
      refine jg_geti dX10_count_113 fl_RX10_102 rfl jsn f6 ?_
      exact jg_iret dX10_count_116 rfl hv
    by_cases c9 : (x1) = 1
    · replace hv := hv.2.1 c9
      refine jg_tsIn 1 1 (tgt := 117) dX10_count_77 c9 (by decide) (by decide) rfl (by decide) ?_
      refine jg_iload_n dX10_count_117 rfl (List.Mem.tail _ (List.Mem.tail _ (List.Mem.head _))) ?_
      exact jg_iret dX10_count_118 rfl hv
    by_cases c10 : (x1) = 2
    · replace hv := hv.2.2.1 c10
      refine jg_tsIn 2 2 (tgt := 119) dX10_count_77 c10 (by decide) (by decide) rfl (by decide) ?_
      refine jg_iload_n dX10_count_119 rfl (List.Mem.tail _ (List.Mem.tail _ (List.Mem.tail _ (List.Mem.head _)))) ?_
      exact jg_iret dX10_count_120 rfl hv
    by_cases c11 : (x1) = 3
    · replace hv := hv.2.2.2.1 c11
      refine jg_tsIn 3 3 (tgt := 121) dX10_count_77 c11 (by decide) (by decide) rfl (by decide) ?_
      refine jg_aload_n dX10_count_121 rfl (List.Mem.head _) ?_
      refine jg_geti dX10_count_122 fl_RX10_121 rfl jsn f6 ?_
      refine jg_if_eq (tgt := 135) dX10_count_125 (by decide) (fun c12 => ?_) (fun c12 => ?_)
      · replace hv := hv.1 c12
        refine jg_iconst (v := (-1)) dX10_count_135 (by decide) ?_
        exact jg_iret dX10_count_136 rfl hv
      · replace hv := hv.2 c12
        refine jg_aload_n dX10_count_128 rfl (List.Mem.head _) ?_
        refine jg_geti dX10_count_129 fl_RX10_197 rfl jsn f6 ?_
        refine jg_goto (tgt := 136) dX10_count_132 (by decide) ?_
        exact jg_iret dX10_count_136 rfl hv
    by_cases c13 : (x1) = 4
    · replace hv := hv.2.2.2.2.1 c13
      refine jg_tsIn 4 4 (tgt := 137) dX10_count_77 c13 (by decide) (by decide) rfl (by decide) ?_
      refine jg_aload_n dX10_count_137 rfl (List.Mem.head _) ?_
      refine jg_geti dX10_count_138 fl_RX10_121 rfl jsn f6 ?_
      refine jg_if_eq (tgt := 151) dX10_count_141 (by decide) (fun c14 => ?_) (fun c14 => ?_)
      · replace hv := hv.1 c14
        refine jg_iconst (v := (-1)) dX10_count_151 (by decide) ?_
        exact jg_iret dX10_count_152 rfl hv
      · replace hv := hv.2 c14
        refine jg_aload_n dX10_count_144 rfl (List.Mem.head _) ?_
        refine jg_geti dX10_count_145 fl_RX10_194 rfl jsn f6 ?_
        refine jg_goto (tgt := 152) dX10_count_148 (by decide) ?_
        exact jg_iret dX10_count_152 rfl hv
    have c15 : (x1 : Int32).toInt < 0 ∨ 4 < (x1 : Int32).toInt := by
      have c8n : ¬ (x1 : Int32).toInt = 0 := fun q => c8 (Int32.toInt_inj.mp (q.trans (by decide)))
      have c9n : ¬ (x1 : Int32).toInt = 1 := fun q => c9 (Int32.toInt_inj.mp (q.trans (by decide)))
      have c10n : ¬ (x1 : Int32).toInt = 2 := fun q => c10 (Int32.toInt_inj.mp (q.trans (by decide)))
      have c11n : ¬ (x1 : Int32).toInt = 3 := fun q => c11 (Int32.toInt_inj.mp (q.trans (by decide)))
      have c13n : ¬ (x1 : Int32).toInt = 4 := fun q => c13 (Int32.toInt_inj.mp (q.trans (by decide)))
      omega
    replace hv := hv.2.2.2.2.2 c15
    refine jg_tsOut (tgt := 153) dX10_count_77 c15 (by decide) ?_
    refine jg_iconst (v := (-1)) dX10_count_153 (by decide) ?_
    exact jg_iret dX10_count_154 rfl hv
  · replace hv := hv.2 c7
    refine jg_iload_n dX10_count_21 rfl (List.Mem.tail _ (List.Mem.tail _ (List.Mem.head _))) ?_
    refine jg_aload_n dX10_count_22 rfl (List.Mem.head _) ?_
    refine jg_getr dX10_count_23 fl_RX10_7 rfl jsn f6 ?_
    refine jg_iload dX10_count_26 (List.Mem.tail _ (List.Mem.tail _ (List.Mem.tail _ (List.Mem.tail _ (List.Mem.head _))))) ?_
    obtain ⟨f16, hv⟩ := hv
    obtain ⟨f17, hv⟩ := hv
    obtain ⟨f18, hv⟩ := hv
    refine jg_iald dX10_count_28 f16 f17 f18 ?_
    refine jg_iconst (v := 1) dX10_count_29 (by decide) ?_
    refine jg_icmp_eq (tgt := 45) dX10_count_30 (by decide) (fun c19 => ?_) (fun c19 => ?_)
    · replace hv := hv.1 c19
      refine jg_iconst (v := 1) dX10_count_45 (by decide) ?_
      refine jg_goto (tgt := 50) dX10_count_46 (by decide) ?_
      refine jG.sub (lv' := [(0, .inr (.inr (some (a0)))), (1, .inl (x1)), (3, .inl (x3)), (4, .inl (x4))]) (by simp) ?_
      exact vX10_count_50 hv
    · replace hv := hv.2 c19
      refine jg_aload_n dX10_count_33 rfl (List.Mem.head _) ?_
      refine jg_getr dX10_count_34 fl_RX10_7 rfl jsn f6 ?_
      refine jg_iload dX10_count_37 (List.Mem.tail _ (List.Mem.tail _ (List.Mem.tail _ (List.Mem.tail _ (List.Mem.head _))))) ?_
      refine jg_iald dX10_count_39 f16 f17 f18 ?_
      refine jg_bipush (v := 77) dX10_count_40 (by decide) ?_
      refine jg_icmp_ne (tgt := 49) dX10_count_42 (by decide) (fun c20 => ?_) (fun c20 => ?_)
      · replace hv := hv.1 c20
        refine jg_iconst (v := 0) dX10_count_49 (by decide) ?_
        refine jG.sub (lv' := [(0, .inr (.inr (some (a0)))), (1, .inl (x1)), (3, .inl (x3)), (4, .inl (x4))]) (by simp) ?_
        exact vX10_count_50 hv
      · replace hv := hv.2 c20
        refine jg_iconst (v := 1) dX10_count_45 (by decide) ?_
        refine jg_goto (tgt := 50) dX10_count_46 (by decide) ?_
        refine jG.sub (lv' := [(0, .inr (.inr (some (a0)))), (1, .inl (x1)), (3, .inl (x3)), (4, .inl (x4))]) (by simp) ?_
        exact vX10_count_50 hv
def VX10_count_0 (g : jg) (a0 : Nat) (x1 : Int32) (h : jh) (k n : Nat) (Q : jq) : Prop := (jt h a0 = 9) ∧ ∀ h22 : jh, h22 = jsi h 512 a0 (0) → jG g mX10_count 12 [(0, .inr (.inr (some (a0)))), (1, .inl (x1)), (2, .inl (0)), (3, .inl (0)), (4, .inl (1))] [] h22 k n Q
set_option maxRecDepth 20000 in
theorem vX10_count_0 {g : jg} {a0 : Nat} {x1 : Int32} {h : jh} {k n : Nat} {Q : jq} (hv : VX10_count_0 g a0 x1 h k n Q) : jG g mX10_count 0 [(0, .inr (.inr (some (a0)))), (1, .inl (x1))] [] h k n Q := by
  unfold VX10_count_0 at hv
  refine jg_aload_n dX10_count_0 rfl (List.Mem.head _) ?_
  refine jg_iconst (v := 0) dX10_count_1 (by decide) ?_
  obtain ⟨f21, hv⟩ := hv
  obtain ⟨h22, e23⟩ : ∃ z : jh, z = jsi h 512 a0 (0) := ⟨_, rfl⟩
  replace hv := hv h22 e23
  refine jp_puti dX10_count_2 (jfp.nf fl_RX10_98 (fun q hq => by cases hq; rfl)) rfl jsn f21 e23 ?_
  refine jg_iconst (v := 0) dX10_count_5 (by decide) ?_
  refine jg_istore_n (lv' := [(2, .inl (0)), (0, .inr (.inr (some (a0)))), (1, .inl (x1))]) dX10_count_6 rfl (by decide) rfl ?_
  refine jg_iconst (v := 0) dX10_count_7 (by decide) ?_
  refine jg_istore_n (lv' := [(3, .inl (0)), (2, .inl (0)), (0, .inr (.inr (some (a0)))), (1, .inl (x1))]) dX10_count_8 rfl (by decide) rfl ?_
  refine jg_iconst (v := 1) dX10_count_9 (by decide) ?_
  refine jg_istore (lv' := [(4, .inl (1)), (3, .inl (0)), (2, .inl (0)), (0, .inr (.inr (some (a0)))), (1, .inl (x1))]) dX10_count_10 (by decide) rfl ?_
  refine jG.sub (lv' := [(0, .inr (.inr (some (a0)))), (1, .inl (x1)), (2, .inl (0)), (3, .inl (0)), (4, .inl (1))]) (by simp) ?_
  exact hv
theorem eX10_count {g : jg} {a0 : Nat} {x1 : Int32} {h : jh} {mc ms : Nat} {Q : jq} (hv : VX10_count_0 g a0 x1 h mc ms Q) : jM g mX10_count [.inr (.inr (some (a0))), .inl (x1)] h mc ms Q := jM.of (by decide) (Nat.le_of_ble_eq_true rfl) (lv := [(0, .inr (.inr (some (a0)))), (1, .inl (x1))]) rfl (vX10_count_0 hv)
